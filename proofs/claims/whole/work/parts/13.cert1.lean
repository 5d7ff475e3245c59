/-! certificates (by program: wip/whole/gen.py) -/
theorem ok_X5_isDigit_j0 {Q : Option AV → AH → Prop}  {σ : SS}  {x0 : Int32} {o}    (hE : X5_isDigit_j0  σ  x0 = some o) (hK : Q (some (vi o)) (hp σ)) : Ws 0 mi_X5_isDigit Q 0 [some (vi x0)] [] σ := by
  unfold X5_isDigit_j0 at hE
  refine Wp.iload_n dc_X5_isDigit_0 rfl ?_
  refine Wp.bipush dc_X5_isDigit_1 bp_48 ?_
  refine Wp.icmp_lt (tgt := 16) dc_X5_isDigit_3 (by decide) (fun hc3 => ?_) (fun hc3 => ?_)
  · rw [if_pos hc3] at hE
    refine Wp.iconst dc_X5_isDigit_16 ic_0 ?_
    cases hE
    exact Wp.ireturn dc_X5_isDigit_17 rfl Nr.z0.1 (Nat.le_refl _) (Nat.le_refl _) hK
  · rw [if_neg hc3] at hE
    refine Wp.iload_n dc_X5_isDigit_6 rfl ?_
    refine Wp.bipush dc_X5_isDigit_7 bp_57 ?_
    refine Wp.icmp_gt (tgt := 16) dc_X5_isDigit_9 (by decide) (fun hc9 => ?_) (fun hc9 => ?_)
    · rw [if_pos hc9] at hE
      refine Wp.iconst dc_X5_isDigit_16 ic_0 ?_
      cases hE
      exact Wp.ireturn dc_X5_isDigit_17 rfl Nr.z0.1 (Nat.le_refl _) (Nat.le_refl _) hK
    · rw [if_neg hc9] at hE
      refine Wp.iconst dc_X5_isDigit_12 ic_1 ?_
      refine Wp.goto (tgt := 17) dc_X5_isDigit_13 (by decide) ?_
      cases hE
      exact Wp.ireturn dc_X5_isDigit_17 rfl Nr.z1.1 (Nat.le_refl _) (Nat.le_refl _) hK
theorem ok_X5_isDigit  {σ : SS}  {x0 : Int32} {o}   (hE : X5_isDigit  σ  x0 = some o) : Runs 0 0 0 mi_X5_isDigit [vi x0] (hp σ) (fun v h => v = some (vi o) ∧ h = hp σ) := by
  refine Runs.of pn_X5 (Nat.le_of_ble_eq_true rfl) ?_
  exact ok_X5_isDigit_j0   hE ⟨rfl, rfl⟩
theorem ok_X5_isSign_j24 {Q : Option AV → AH → Prop}  {σ : SS}   {o} {z0 : Option AV}   (hE : X5_isSign_j24  σ   = some o) (hK : Q (some (vi o)) (hp σ)) : Ws 0 mi_X5_isSign Q 24 [z0] [] σ := by
  unfold X5_isSign_j24 at hE
  refine Wp.iconst dc_X5_isSign_24 ic_1 ?_
  refine Wp.goto (tgt := 29) dc_X5_isSign_25 (by decide) ?_
  cases hE
  exact Wp.ireturn dc_X5_isSign_29 rfl Nr.z1.1 (Nat.le_refl _) (Nat.le_refl _) hK
theorem ok_X5_isSign_j0 {Q : Option AV → AH → Prop}  {σ : SS}  {x0 : Int32} {o}    (hE : X5_isSign_j0  σ  x0 = some o) (hK : Q (some (vi o)) (hp σ)) : Ws 0 mi_X5_isSign Q 0 [some (vi x0)] [] σ := by
  unfold X5_isSign_j0 at hE
  refine Wp.iload_n dc_X5_isSign_0 rfl ?_
  refine Wp.bipush dc_X5_isSign_1 bp_59 ?_
  refine Wp.icmp_eq (tgt := 24) dc_X5_isSign_3 (by decide) (fun hc3 => ?_) (fun hc3 => ?_)
  · rw [if_pos hc3] at hE
    exact ok_X5_isSign_j24   hE hK
  · rw [if_neg hc3] at hE
    refine Wp.iload_n dc_X5_isSign_6 rfl ?_
    refine Wp.bipush dc_X5_isSign_7 bp_60 ?_
    refine Wp.icmp_eq (tgt := 24) dc_X5_isSign_9 (by decide) (fun hc9 => ?_) (fun hc9 => ?_)
    · rw [if_pos hc9] at hE
      exact ok_X5_isSign_j24   hE hK
    · rw [if_neg hc9] at hE
      refine Wp.iload_n dc_X5_isSign_12 rfl ?_
      refine Wp.bipush dc_X5_isSign_13 bp_62 ?_
      refine Wp.icmp_eq (tgt := 24) dc_X5_isSign_15 (by decide) (fun hc15 => ?_) (fun hc15 => ?_)
      · rw [if_pos hc15] at hE
        exact ok_X5_isSign_j24   hE hK
      · rw [if_neg hc15] at hE
        refine Wp.iload_n dc_X5_isSign_18 rfl ?_
        refine Wp.bipush dc_X5_isSign_19 bp_61 ?_
        refine Wp.icmp_ne (tgt := 28) dc_X5_isSign_21 (by decide) (fun hc21 => ?_) (fun hc21 => ?_)
        · rw [if_neg hc21] at hE
          refine Wp.iconst dc_X5_isSign_28 ic_0 ?_
          cases hE
          exact Wp.ireturn dc_X5_isSign_29 rfl Nr.z0.1 (Nat.le_refl _) (Nat.le_refl _) hK
        · rw [if_pos hc21] at hE
          exact ok_X5_isSign_j24   hE hK
theorem ok_X5_isSign  {σ : SS}  {x0 : Int32} {o}   (hE : X5_isSign  σ  x0 = some o) : Runs 0 0 0 mi_X5_isSign [vi x0] (hp σ) (fun v h => v = some (vi o) ∧ h = hp σ) := by
  refine Runs.of pn_X5 (Nat.le_of_ble_eq_true rfl) ?_
  exact ok_X5_isSign_j0   hE ⟨rfl, rfl⟩
def X5_next_P12 (Q : Option AV → AH → Prop)    (ss : SS) : Prop := Ws 7 mi_X5_next Q 12 [some (vr 4 0)] [] ss
def X5_next_R12 (Q : Option AV → AH → Prop)    (tt : SS) : Prop := Ws 7 mi_X5_next Q 50 [some (vr 4 0)] [] tt
theorem ok_X5_next_l12c {Q : Option AV → AH → Prop}  {σ : SS}    {o}    (hE : X5_next_l12c  σ    = some o) (hS : ∀ ss, o = Sum.inl ss → (X5_next_P12  Q   ) ss) (hT : ∀ tt, o = Sum.inr tt → (X5_next_R12  Q   ) tt) : Ws 7 mi_X5_next Q 12 [some (vr 4 0)] [] σ := by
  unfold X5_next_l12c at hE
  refine Wp.aload_n dc_X5_next_12 rfl ?_
  refine Wp.sgetI dc_X5_next_13 fw_X5_43 (mO4 (by decide)) ?_
  refine Wp.aload_n dc_X5_next_16 rfl ?_
  refine Wp.sgetI dc_X5_next_17 fw_X5_31 (mO4 (by decide)) ?_
  refine Wp.icmp_ge (tgt := 50) dc_X5_next_20 (by decide) (fun hc20 => ?_) (fun hc20 => ?_)
  · rw [if_pos hc20] at hE
    cases hE
    exact hT _ rfl
  · rw [if_neg hc20] at hE
    refine Wp.aload_n dc_X5_next_23 rfl ?_
    refine Wp.aload_n dc_X5_next_24 rfl ?_
    refine Wp.sgetI dc_X5_next_25 fw_X5_43 (mO4 (by decide)) ?_
    obtain ⟨v28, h28, hE⟩ := bnd hE
    refine Wp.cV1i (ok_X5_byteAt  h28) dc_X5_next_28 mw_X5_49 (mO4 (by decide)) (by decide) (Nat.le_of_ble_eq_true rfl) ?_
    obtain ⟨v31, h31, hE⟩ := bnd hE
    refine Wp.cS1i (ok_X5_isBlank  h31) dc_X5_next_31 mw_X5_53 (by decide) (Nat.le_of_ble_eq_true rfl) ?_
    refine Wp.if_eq (tgt := 50) dc_X5_next_34 (by decide) (fun hc34 => ?_) (fun hc34 => ?_)
    · rw [if_pos hc34] at hE
      cases hE
      exact hT _ rfl
    · rw [if_neg hc34] at hE
      refine Wp.aload_n dc_X5_next_37 rfl ?_
      refine Wp.dup dc_X5_next_38 rfl ?_
      refine Wp.sgetI dc_X5_next_39 fw_X5_43 (mO4 (by decide)) ?_
      refine Wp.iconst dc_X5_next_42 ic_1 ?_
      refine Wp.iadd dc_X5_next_43 ?_
      refine Wp.sputI dc_X5_next_44 fw_X5_43 (mO4 (by decide)) (Nr.i _) ?_
      obtain ⟨σ44, es_44, hE⟩ := bnS hE
      rw [es_44]
      refine Wp.goto (tgt := 12) dc_X5_next_47 (by decide) ?_
      cases hE
      exact hS _ rfl
def X5_next_P58 (Q : Option AV → AH → Prop)    (ss : SS) : Prop := Ws 7 mi_X5_next Q 58 [some (vr 4 0)] [] ss
def X5_next_R58 (Q : Option AV → AH → Prop)    (tt : SS) : Prop := Ws 7 mi_X5_next Q 96 [some (vr 4 0)] [] tt
theorem ok_X5_next_l58c {Q : Option AV → AH → Prop}  {σ : SS}    {o}    (hE : X5_next_l58c  σ    = some o) (hS : ∀ ss, o = Sum.inl ss → (X5_next_P58  Q   ) ss) (hT : ∀ tt, o = Sum.inr tt → (X5_next_R58  Q   ) tt) : Ws 7 mi_X5_next Q 58 [some (vr 4 0)] [] σ := by
  unfold X5_next_l58c at hE
  refine Wp.aload_n dc_X5_next_58 rfl ?_
  refine Wp.sgetI dc_X5_next_59 fw_X5_34 (mO4 (by decide)) ?_
  refine Wp.aload_n dc_X5_next_62 rfl ?_
  refine Wp.sgetI dc_X5_next_63 fw_X5_31 (mO4 (by decide)) ?_
  refine Wp.icmp_ge (tgt := 96) dc_X5_next_66 (by decide) (fun hc66 => ?_) (fun hc66 => ?_)
  · rw [if_pos hc66] at hE
    cases hE
    exact hT _ rfl
  · rw [if_neg hc66] at hE
    refine Wp.aload_n dc_X5_next_69 rfl ?_
    refine Wp.aload_n dc_X5_next_70 rfl ?_
    refine Wp.sgetI dc_X5_next_71 fw_X5_34 (mO4 (by decide)) ?_
    obtain ⟨v74, h74, hE⟩ := bnd hE
    refine Wp.cV1i (ok_X5_byteAt  h74) dc_X5_next_74 mw_X5_49 (mO4 (by decide)) (by decide) (Nat.le_of_ble_eq_true rfl) ?_
    obtain ⟨v77, h77, hE⟩ := bnd hE
    refine Wp.cS1i (ok_X5_isLetter  h77) dc_X5_next_77 mw_X5_57 (by decide) (Nat.le_of_ble_eq_true rfl) ?_
    refine Wp.if_eq (tgt := 96) dc_X5_next_80 (by decide) (fun hc80 => ?_) (fun hc80 => ?_)
    · rw [if_pos hc80] at hE
      cases hE
      exact hT _ rfl
    · rw [if_neg hc80] at hE
      refine Wp.aload_n dc_X5_next_83 rfl ?_
      refine Wp.dup dc_X5_next_84 rfl ?_
      refine Wp.sgetI dc_X5_next_85 fw_X5_34 (mO4 (by decide)) ?_
      refine Wp.iconst dc_X5_next_88 ic_1 ?_
      refine Wp.iadd dc_X5_next_89 ?_
      refine Wp.sputI dc_X5_next_90 fw_X5_34 (mO4 (by decide)) (Nr.i _) ?_
      obtain ⟨σ90, es_90, hE⟩ := bnS hE
      rw [es_90]
      refine Wp.goto (tgt := 58) dc_X5_next_93 (by decide) ?_
      cases hE
      exact hS _ rfl
def X5_next_P126 (Q : Option AV → AH → Prop)    (ss : SS) : Prop := Ws 7 mi_X5_next Q 126 [some (vr 4 0)] [] ss
def X5_next_R126 (Q : Option AV → AH → Prop)    (tt : SS) : Prop := Ws 7 mi_X5_next Q 164 [some (vr 4 0)] [] tt
theorem ok_X5_next_l126c {Q : Option AV → AH → Prop}  {σ : SS}    {o}    (hE : X5_next_l126c  σ    = some o) (hS : ∀ ss, o = Sum.inl ss → (X5_next_P126  Q   ) ss) (hT : ∀ tt, o = Sum.inr tt → (X5_next_R126  Q   ) tt) : Ws 7 mi_X5_next Q 126 [some (vr 4 0)] [] σ := by
  unfold X5_next_l126c at hE
  refine Wp.aload_n dc_X5_next_126 rfl ?_
  refine Wp.sgetI dc_X5_next_127 fw_X5_34 (mO4 (by decide)) ?_
  refine Wp.aload_n dc_X5_next_130 rfl ?_
  refine Wp.sgetI dc_X5_next_131 fw_X5_31 (mO4 (by decide)) ?_
  refine Wp.icmp_ge (tgt := 164) dc_X5_next_134 (by decide) (fun hc134 => ?_) (fun hc134 => ?_)
  · rw [if_pos hc134] at hE
    cases hE
    exact hT _ rfl
  · rw [if_neg hc134] at hE
    refine Wp.aload_n dc_X5_next_137 rfl ?_
    refine Wp.aload_n dc_X5_next_138 rfl ?_
    refine Wp.sgetI dc_X5_next_139 fw_X5_34 (mO4 (by decide)) ?_
    obtain ⟨v142, h142, hE⟩ := bnd hE
    refine Wp.cV1i (ok_X5_byteAt  h142) dc_X5_next_142 mw_X5_49 (mO4 (by decide)) (by decide) (Nat.le_of_ble_eq_true rfl) ?_
    obtain ⟨v145, h145, hE⟩ := bnd hE
    refine Wp.cS1i (ok_X5_isDigit  h145) dc_X5_next_145 mw_X5_67 (by decide) (Nat.le_of_ble_eq_true rfl) ?_
    refine Wp.if_eq (tgt := 164) dc_X5_next_148 (by decide) (fun hc148 => ?_) (fun hc148 => ?_)
    · rw [if_pos hc148] at hE
      cases hE
      exact hT _ rfl
    · rw [if_neg hc148] at hE
      refine Wp.aload_n dc_X5_next_151 rfl ?_
      refine Wp.dup dc_X5_next_152 rfl ?_
      refine Wp.sgetI dc_X5_next_153 fw_X5_34 (mO4 (by decide)) ?_
      refine Wp.iconst dc_X5_next_156 ic_1 ?_
      refine Wp.iadd dc_X5_next_157 ?_
      refine Wp.sputI dc_X5_next_158 fw_X5_34 (mO4 (by decide)) (Nr.i _) ?_
      obtain ⟨σ158, es_158, hE⟩ := bnS hE
      rw [es_158]
      refine Wp.goto (tgt := 126) dc_X5_next_161 (by decide) ?_
      cases hE
      exact hS _ rfl
theorem ok_X5_next_j233 {Q : Option AV → AH → Prop}  {σ : SS}  {s1 : Int32} {o}    (hE : X5_next_j233  σ  s1 = some o) (hK : Q none (hp o)) : Ws 7 mi_X5_next Q 233 [some (vr 4 0)] [vi s1, vr 4 0] σ := by
  unfold X5_next_j233 at hE
  refine Wp.sputI dc_X5_next_233 fw_X5_40 (mO4 (by decide)) (Nr.i _) ?_
  obtain ⟨σ233, es_233, hE⟩ := bnS hE
  rw [es_233]
  refine Wp.aload_n dc_X5_next_236 rfl ?_
  refine Wp.aload_n dc_X5_next_237 rfl ?_
  refine Wp.sgetI dc_X5_next_238 fw_X5_43 (mO4 (by decide)) ?_
  refine Wp.iconst dc_X5_next_241 ic_1 ?_
  refine Wp.iadd dc_X5_next_242 ?_
  refine Wp.aload_n dc_X5_next_243 rfl ?_
  refine Wp.sgetI dc_X5_next_244 fw_X5_31 (mO4 (by decide)) ?_
  refine Wp.mmin dc_X5_next_247 lw_X5_25 ms_min mi_Math mk_min (by decide) (Nat.le_refl _) (Nat.le_refl _) (Nat.le_of_ble_eq_true rfl) ?_
  refine Wp.sputI dc_X5_next_250 fw_X5_34 (mO4 (by decide)) (Nr.i _) ?_
  obtain ⟨σ250, es_250, hE⟩ := bnS hE
  rw [es_250]
  cases hE
  exact Wp.return dc_X5_next_253 rfl (Nat.le_refl _) (Nat.le_refl _) hK
theorem ok_X5_next_j194 {Q : Option AV → AH → Prop}  {σ : SS}  {s1 : Int32} {o} {z0 : Option AV}   (hE : X5_next_j194  σ  s1 = some o) (hK : Q none (hp o)) : Ws 7 mi_X5_next Q 194 [z0] [vi s1, vr 4 0] σ := by
  unfold X5_next_j194 at hE
  refine Wp.sputI dc_X5_next_194 fw_X5_40 (mO4 (by decide)) (Nr.i _) ?_
  obtain ⟨σ194, es_194, hE⟩ := bnS hE
  rw [es_194]
  cases hE
  exact Wp.return dc_X5_next_197 rfl (Nat.le_refl _) (Nat.le_refl _) hK
theorem ok_X5_next_j164 {Q : Option AV → AH → Prop}  {σ : SS}   {o}    (hE : X5_next_j164  σ   = some o) (hK : Q none (hp o)) : Ws 7 mi_X5_next Q 164 [some (vr 4 0)] [] σ := by
  unfold X5_next_j164 at hE
  refine Wp.aload_n dc_X5_next_164 rfl ?_
  refine Wp.sgetI dc_X5_next_165 fw_X5_34 (mO4 (by decide)) ?_
  refine Wp.aload_n dc_X5_next_168 rfl ?_
  refine Wp.sgetI dc_X5_next_169 fw_X5_43 (mO4 (by decide)) ?_
  refine Wp.icmp_le (tgt := 198) dc_X5_next_172 (by decide) (fun hc172 => ?_) (fun hc172 => ?_)
  · rw [if_pos hc172] at hE
    refine Wp.aload_n dc_X5_next_198 rfl ?_
    refine Wp.aload_n dc_X5_next_199 rfl ?_
    refine Wp.sgetI dc_X5_next_200 fw_X5_43 (mO4 (by decide)) ?_
    refine Wp.aload_n dc_X5_next_203 rfl ?_
    refine Wp.sgetI dc_X5_next_204 fw_X5_31 (mO4 (by decide)) ?_
    refine Wp.icmp_lt (tgt := 214) dc_X5_next_207 (by decide) (fun hc207 => ?_) (fun hc207 => ?_)
    · rw [if_pos hc207] at hE
      refine Wp.aload_n dc_X5_next_214 rfl ?_
      refine Wp.aload_n dc_X5_next_215 rfl ?_
      refine Wp.sgetI dc_X5_next_216 fw_X5_43 (mO4 (by decide)) ?_
      obtain ⟨v219, h219, hE⟩ := bnd hE
      refine Wp.cV1i (ok_X5_byteAt  h219) dc_X5_next_219 mw_X5_49 (mO4 (by decide)) (by decide) (Nat.le_of_ble_eq_true rfl) ?_
      obtain ⟨v222, h222, hE⟩ := bnd hE
      refine Wp.cS1i (ok_X5_isSign  h222) dc_X5_next_222 mw_X5_70 (by decide) (Nat.le_of_ble_eq_true rfl) ?_
      refine Wp.if_eq (tgt := 232) dc_X5_next_225 (by decide) (fun hc225 => ?_) (fun hc225 => ?_)
      · rw [if_pos hc225] at hE
        refine Wp.iconst dc_X5_next_232 ic_1 ?_
        exact ok_X5_next_j233   hE hK
      · rw [if_neg hc225] at hE
        refine Wp.iconst dc_X5_next_228 ic_4 ?_
        refine Wp.goto (tgt := 233) dc_X5_next_229 (by decide) ?_
        exact ok_X5_next_j233   hE hK
    · rw [if_neg hc207] at hE
      refine Wp.iconst dc_X5_next_210 ic_0 ?_
      refine Wp.goto (tgt := 233) dc_X5_next_211 (by decide) ?_
      exact ok_X5_next_j233   hE hK
  · rw [if_neg hc172] at hE
    refine Wp.aload_n dc_X5_next_175 rfl ?_
    refine Wp.aload_n dc_X5_next_176 rfl ?_
    refine Wp.sgetI dc_X5_next_177 fw_X5_34 (mO4 (by decide)) ?_
    refine Wp.aload_n dc_X5_next_180 rfl ?_
    refine Wp.sgetI dc_X5_next_181 fw_X5_43 (mO4 (by decide)) ?_
    refine Wp.isub dc_X5_next_184 ?_
    refine Wp.iconst dc_X5_next_185 ic_4 ?_
    refine Wp.icmp_gt (tgt := 193) dc_X5_next_186 (by decide) (fun hc186 => ?_) (fun hc186 => ?_)
    · rw [if_pos hc186] at hE
      refine Wp.iconst dc_X5_next_193 ic_1 ?_
      exact ok_X5_next_j194   hE hK
    · rw [if_neg hc186] at hE
      refine Wp.iconst dc_X5_next_189 ic_3 ?_
      refine Wp.goto (tgt := 194) dc_X5_next_190 (by decide) ?_
      exact ok_X5_next_j194   hE hK
theorem ok_X5_next_l126 {Q : Option AV → AH → Prop}  {σ : SS}   {o}    (hE : X5_next_l126  σ   = some o) (hK : Q none (hp o)) : Ws 7 mi_X5_next Q 126 [some (vr 4 0)] [] σ := by
  unfold X5_next_l126 at hE
  obtain ⟨t126, h1, hE⟩ := bnd hE
  refine iter_ok (P := (X5_next_P126  Q   )) (R := (X5_next_R126  Q   )) (fun ss o h2 hS hT => ?_) NF _ _ h1 ?_
  · skip
    exact ok_X5_next_l126c   h2 hS hT
  · skip
    show Ws 7 mi_X5_next Q 164 [some (vr 4 0)] [] t126
    exact ok_X5_next_j164   hE hK
theorem ok_X5_next_j96 {Q : Option AV → AH → Prop}  {σ : SS}   {o}    (hE : X5_next_j96  σ   = some o) (hK : Q none (hp o)) : Ws 7 mi_X5_next Q 96 [some (vr 4 0)] [] σ := by
  unfold X5_next_j96 at hE
  refine Wp.aload_n dc_X5_next_96 rfl ?_
  refine Wp.iconst dc_X5_next_97 ic_m1 ?_
  refine Wp.sputI dc_X5_next_98 fw_X5_60 (mO4 (by decide)) (Nr.i _) ?_
  obtain ⟨σ98, es_98, hE⟩ := bnS hE
  rw [es_98]
  refine Wp.aload_n dc_X5_next_101 rfl ?_
  refine Wp.sgetI dc_X5_next_102 fw_X5_34 (mO4 (by decide)) ?_
  refine Wp.aload_n dc_X5_next_105 rfl ?_
  refine Wp.sgetI dc_X5_next_106 fw_X5_43 (mO4 (by decide)) ?_
  refine Wp.icmp_le (tgt := 126) dc_X5_next_109 (by decide) (fun hc109 => ?_) (fun hc109 => ?_)
  · rw [if_pos hc109] at hE
    exact ok_X5_next_l126   hE hK
  · rw [if_neg hc109] at hE
    refine Wp.aload_n dc_X5_next_112 rfl ?_
    refine Wp.iconst dc_X5_next_113 ic_2 ?_
    refine Wp.sputI dc_X5_next_114 fw_X5_40 (mO4 (by decide)) (Nr.i _) ?_
    obtain ⟨σ114, es_114, hE⟩ := bnS hE
    rw [es_114]
    refine Wp.aload_n dc_X5_next_117 rfl ?_
    refine Wp.aload_n dc_X5_next_118 rfl ?_
    obtain ⟨v119, h119, hE⟩ := bnd hE
    refine Wp.cV0i (ok_X5_numberOfWord  h119) dc_X5_next_119 mw_X5_63 (mO4 (by decide)) (by decide) (Nat.le_of_ble_eq_true rfl) ?_
    refine Wp.sputI dc_X5_next_122 fw_X5_60 (mO4 (by decide)) (Nr.i _) ?_
    obtain ⟨σ122, es_122, hE⟩ := bnS hE
    rw [es_122]
    cases hE
    exact Wp.return dc_X5_next_125 rfl (Nat.le_refl _) (Nat.le_refl _) hK
theorem ok_X5_next_l58 {Q : Option AV → AH → Prop}  {σ : SS}   {o}    (hE : X5_next_l58  σ   = some o) (hK : Q none (hp o)) : Ws 7 mi_X5_next Q 58 [some (vr 4 0)] [] σ := by
  unfold X5_next_l58 at hE
  obtain ⟨t58, h1, hE⟩ := bnd hE
  refine iter_ok (P := (X5_next_P58  Q   )) (R := (X5_next_R58  Q   )) (fun ss o h2 hS hT => ?_) NF _ _ h1 ?_
  · skip
    exact ok_X5_next_l58c   h2 hS hT
  · skip
    show Ws 7 mi_X5_next Q 96 [some (vr 4 0)] [] t58
    exact ok_X5_next_j96   hE hK
theorem ok_X5_next_j50 {Q : Option AV → AH → Prop}  {σ : SS}   {o}    (hE : X5_next_j50  σ   = some o) (hK : Q none (hp o)) : Ws 7 mi_X5_next Q 50 [some (vr 4 0)] [] σ := by
  unfold X5_next_j50 at hE
  refine Wp.aload_n dc_X5_next_50 rfl ?_
  refine Wp.aload_n dc_X5_next_51 rfl ?_
  refine Wp.sgetI dc_X5_next_52 fw_X5_43 (mO4 (by decide)) ?_
  refine Wp.sputI dc_X5_next_55 fw_X5_34 (mO4 (by decide)) (Nr.i _) ?_
  obtain ⟨σ55, es_55, hE⟩ := bnS hE
  rw [es_55]
  exact ok_X5_next_l58   hE hK
theorem ok_X5_next_l12 {Q : Option AV → AH → Prop}  {σ : SS}   {o}    (hE : X5_next_l12  σ   = some o) (hK : Q none (hp o)) : Ws 7 mi_X5_next Q 12 [some (vr 4 0)] [] σ := by
  unfold X5_next_l12 at hE
  obtain ⟨t12, h1, hE⟩ := bnd hE
  refine iter_ok (P := (X5_next_P12  Q   )) (R := (X5_next_R12  Q   )) (fun ss o h2 hS hT => ?_) NF _ _ h1 ?_
  · skip
    exact ok_X5_next_l12c   h2 hS hT
  · skip
    show Ws 7 mi_X5_next Q 50 [some (vr 4 0)] [] t12
    exact ok_X5_next_j50   hE hK
theorem ok_X5_next_j0 {Q : Option AV → AH → Prop}  {σ : SS}   {o}    (hE : X5_next_j0  σ   = some o) (hK : Q none (hp o)) : Ws 7 mi_X5_next Q 0 [some (vr 4 0)] [] σ := by
  unfold X5_next_j0 at hE
  refine Wp.aload_n dc_X5_next_0 rfl ?_
  refine Wp.aload_n dc_X5_next_1 rfl ?_
  refine Wp.sgetI dc_X5_next_2 fw_X5_34 (mO4 (by decide)) ?_
  refine Wp.iconst dc_X5_next_5 ic_0 ?_
  refine Wp.mmax dc_X5_next_6 lw_X5_46 ms_max mi_Math mk_max (by decide) (Nat.le_refl _) (Nat.le_refl _) (Nat.le_of_ble_eq_true rfl) ?_
  refine Wp.sputI dc_X5_next_9 fw_X5_43 (mO4 (by decide)) (Nr.i _) ?_
  obtain ⟨σ9, es_9, hE⟩ := bnS hE
  rw [es_9]
  exact ok_X5_next_l12   hE hK
theorem ok_X5_next  {σ : SS}   {o}   (hE : X5_next  σ   = some o) : Runs 7 0 0 mi_X5_next [vr 4 0] (hp σ) (fun v h => v = none ∧ h = hp o) := by
  refine Runs.of pn_X5 (Nat.le_of_ble_eq_true rfl) ?_
  exact ok_X5_next_j0   hE ⟨rfl, rfl⟩
theorem ok_X5_nameStands_j0 {Q : Option AV → AH → Prop}  {σ : SS}   {o}    (hE : X5_nameStands_j0  σ   = some o) (hK : Q (some (vi o)) (hp σ)) : Ws 0 mi_X5_nameStands Q 0 [some (vr 4 0)] [] σ := by
  unfold X5_nameStands_j0 at hE
  refine Wp.aload_n dc_X5_nameStands_0 rfl ?_
  refine Wp.sgetI dc_X5_nameStands_1 fw_X5_40 (mO4 (by decide)) ?_
  refine Wp.iconst dc_X5_nameStands_4 ic_2 ?_
  refine Wp.icmp_ne (tgt := 34) dc_X5_nameStands_5 (by decide) (fun hc5 => ?_) (fun hc5 => ?_)
  · rw [if_neg hc5] at hE
    refine Wp.iconst dc_X5_nameStands_34 ic_0 ?_
    cases hE
    exact Wp.ireturn dc_X5_nameStands_35 rfl Nr.z0.1 (Nat.le_refl _) (Nat.le_refl _) hK
  · rw [if_pos hc5] at hE
    refine Wp.aload_n dc_X5_nameStands_8 rfl ?_
    refine Wp.sgetI dc_X5_nameStands_9 fw_X5_60 (mO4 (by decide)) ?_
    refine Wp.iconst dc_X5_nameStands_12 ic_m1 ?_
    refine Wp.icmp_ne (tgt := 34) dc_X5_nameStands_13 (by decide) (fun hc13 => ?_) (fun hc13 => ?_)
    · rw [if_neg hc13] at hE
      refine Wp.iconst dc_X5_nameStands_34 ic_0 ?_
      cases hE
      exact Wp.ireturn dc_X5_nameStands_35 rfl Nr.z0.1 (Nat.le_refl _) (Nat.le_refl _) hK
    · rw [if_pos hc13] at hE
      refine Wp.aload_n dc_X5_nameStands_16 rfl ?_
      refine Wp.sgetI dc_X5_nameStands_17 fw_X5_34 (mO4 (by decide)) ?_
      refine Wp.aload_n dc_X5_nameStands_20 rfl ?_
      refine Wp.sgetI dc_X5_nameStands_21 fw_X5_43 (mO4 (by decide)) ?_
      refine Wp.isub dc_X5_nameStands_24 ?_
      refine Wp.bipush dc_X5_nameStands_25 bp_8 ?_
      refine Wp.icmp_gt (tgt := 34) dc_X5_nameStands_27 (by decide) (fun hc27 => ?_) (fun hc27 => ?_)
      · rw [if_pos hc27] at hE
        refine Wp.iconst dc_X5_nameStands_34 ic_0 ?_
        cases hE
        exact Wp.ireturn dc_X5_nameStands_35 rfl Nr.z0.1 (Nat.le_refl _) (Nat.le_refl _) hK
      · rw [if_neg hc27] at hE
        refine Wp.iconst dc_X5_nameStands_30 ic_1 ?_
        refine Wp.goto (tgt := 35) dc_X5_nameStands_31 (by decide) ?_
        cases hE
        exact Wp.ireturn dc_X5_nameStands_35 rfl Nr.z1.1 (Nat.le_refl _) (Nat.le_refl _) hK
theorem ok_X5_nameStands  {σ : SS}   {o}   (hE : X5_nameStands  σ   = some o) : Runs 0 0 0 mi_X5_nameStands [vr 4 0] (hp σ) (fun v h => v = some (vi o) ∧ h = hp σ) := by
  refine Runs.of pn_X5 (Nat.le_of_ble_eq_true rfl) ?_
  exact ok_X5_nameStands_j0   hE ⟨rfl, rfl⟩
def X5_name_P7 (Q : Option AV → AH → Prop) (σ : SS)   (ss : Int64 × Int32) : Prop := Ws 1 mi_X5_name Q 7 [some (vr 4 0), some (vl ss.1), none, some (vi ss.2)] [] σ
def X5_name_R7 (Q : Option AV → AH → Prop) (σ : SS)   (tt : Int64) : Prop := ∀ z0 z3 : Option AV, Ws 1 mi_X5_name Q 40 [z0, some (vl tt), none, z3] [] σ
theorem ok_X5_name_l7c {Q : Option AV → AH → Prop}  {σ : SS}   {y1 : Int64} {x3 : Int32} {o}    (hE : X5_name_l7c  σ   y1 x3 = some o) (hS : ∀ ss, o = Sum.inl ss → (X5_name_P7  Q σ  ) ss) (hT : ∀ tt, o = Sum.inr tt → (X5_name_R7  Q σ  ) tt) : Ws 1 mi_X5_name Q 7 [some (vr 4 0), some (vl y1), none, some (vi x3)] [] σ := by
  unfold X5_name_l7c at hE
  refine Wp.iload_n dc_X5_name_7 rfl ?_
  refine Wp.aload_n dc_X5_name_8 rfl ?_
  refine Wp.sgetI dc_X5_name_9 fw_X5_34 (mO4 (by decide)) ?_
  refine Wp.icmp_ge (tgt := 40) dc_X5_name_12 (by decide) (fun hc12 => ?_) (fun hc12 => ?_)
  · rw [if_pos hc12] at hE
    cases hE
    exact hT _ rfl _ _
  · rw [if_neg hc12] at hE
    refine Wp.lload_n dc_X5_name_15 rfl ?_
    refine Wp.ldc2 dc_X5_name_16 kw_X5_73 ?_
    refine Wp.lmul dc_X5_name_19 ?_
    refine Wp.aload_n dc_X5_name_20 rfl ?_
    refine Wp.iload_n dc_X5_name_21 rfl ?_
    obtain ⟨v22, h22, hE⟩ := bnd hE
    refine Wp.cV1i (ok_X5_byteAt  h22) dc_X5_name_22 mw_X5_49 (mO4 (by decide)) (by decide) (Nat.le_of_ble_eq_true rfl) ?_
    refine Wp.i2l dc_X5_name_25 ?_
    refine Wp.ladd dc_X5_name_26 ?_
    refine Wp.ldc2 dc_X5_name_27 kw_X5_75 ?_
    refine Wp.lsub dc_X5_name_30 ?_
    refine Wp.lconst dc_X5_name_31 lc_1 ?_
    refine Wp.ladd dc_X5_name_32 ?_
    obtain ⟨y1_33, e_33, hE⟩ := bnS hE
    rw [e_33]
    refine Wp.lstore_n dc_X5_name_33 (by decide) ?_
    obtain ⟨x3_34, e_34, hE⟩ := bnS hE
    refine Wp.iinc dc_X5_name_34 rfl ((ii ic_1).trans e_34) (by decide) ?_
    refine Wp.goto (tgt := 7) dc_X5_name_37 (by decide) ?_
    cases hE
    exact hS _ rfl
theorem ok_X5_name_l7 {Q : Option AV → AH → Prop}  {σ : SS}  {y1 : Int64} {x3 : Int32} {o}    (hE : X5_name_l7  σ  y1 x3 = some o) (hK : Q (some (vl o)) (hp σ)) : Ws 1 mi_X5_name Q 7 [some (vr 4 0), some (vl y1), none, some (vi x3)] [] σ := by
  unfold X5_name_l7 at hE
  obtain ⟨t7, h1, hE⟩ := bnd hE
  refine iter_ok (P := (X5_name_P7  Q σ  )) (R := (X5_name_R7  Q σ  )) (fun ss o h2 hS hT => ?_) NF _ _ h1 ?_
  · skip
    exact ok_X5_name_l7c   h2 hS hT
  · intro z0 z3
    show Ws 1 mi_X5_name Q 40 [z0, some (vl t7), none, z3] [] σ
    refine Wp.lload_n dc_X5_name_40 rfl ?_
    cases hE
    exact Wp.lreturn dc_X5_name_41 rfl (Nat.le_refl _) (Nat.le_refl _) hK
theorem ok_X5_name_j0 {Q : Option AV → AH → Prop}  {σ : SS}   {o} {z1 z2 z3 : Option AV}   (hE : X5_name_j0  σ   = some o) (hK : Q (some (vl o)) (hp σ)) : Ws 1 mi_X5_name Q 0 [some (vr 4 0), z1, z2, z3] [] σ := by
  unfold X5_name_j0 at hE
  refine Wp.lconst dc_X5_name_0 lc_0 ?_
  refine Wp.lstore_n dc_X5_name_1 (by decide) ?_
  refine Wp.aload_n dc_X5_name_2 rfl ?_
  refine Wp.sgetI dc_X5_name_3 fw_X5_43 (mO4 (by decide)) ?_
  obtain ⟨x3_6, e_6, hE⟩ := bnS hE
  rw [e_6]
  refine Wp.istore_n dc_X5_name_6 (by decide) ?_
  exact ok_X5_name_l7   hE hK
theorem ok_X5_name  {σ : SS}   {o}   (hE : X5_name  σ   = some o) : Runs 1 0 0 mi_X5_name [vr 4 0] (hp σ) (fun v h => v = some (vl o) ∧ h = hp σ) := by
  refine Runs.of pn_X5 (Nat.le_of_ble_eq_true rfl) ?_
  exact ok_X5_name_j0   hE ⟨rfl, rfl⟩
theorem ok_X1_newNameStands_j0 {Q : Option AV → AH → Prop}  {σ : SS} {r1 : Nat}  {o}   (hr1 : r1 < 5) (hE : X1_newNameStands_j0  σ r1  = some o) (hK : Q (some (vi o.1)) (hp o.2)) : Ws 2 mi_X1_newNameStands Q 0 [some (vr 1 0), some (vr 0 r1)] [] σ := by
  unfold X1_newNameStands_j0 at hE
  refine Wp.aload_n dc_X1_newNameStands_0 rfl ?_
  refine Wp.sgetR (t := 0) dc_X1_newNameStands_1 fw_X1_9 (mO1 (by decide)) rfl ?_
  obtain ⟨v4, h4, hE⟩ := bnd hE
  refine Wp.cV0i (ok_X5_nameStands  h4) dc_X1_newNameStands_4 mw_X1_133 (mO4 (by decide)) (by decide) (Nat.le_of_ble_eq_true rfl) ?_
  refine Wp.if_ne (tgt := 21) dc_X1_newNameStands_7 (by decide) (fun hc7 => ?_) (fun hc7 => ?_)
  · rw [if_neg hc7] at hE
    refine Wp.aload_n dc_X1_newNameStands_21 rfl ?_
    refine Wp.aload_n dc_X1_newNameStands_22 rfl ?_
    refine Wp.sgetR (t := 0) dc_X1_newNameStands_23 fw_X1_9 (mO1 (by decide)) rfl ?_
    obtain ⟨v26, h26, hE⟩ := bnd hE
    refine Wp.cV0l (ok_X5_name  h26) dc_X1_newNameStands_26 mw_X1_53 (mO4 (by decide)) (by decide) (Nat.le_of_ble_eq_true rfl) ?_
    obtain ⟨v29, h29, hE⟩ := bnd hE
    refine Wp.cV1i (ok_X0_isTaken (by omega) h29) dc_X1_newNameStands_29 mw_X1_136 (mO0 (by omega)) (by decide) (Nat.le_of_ble_eq_true rfl) ?_
    refine Wp.if_eq (tgt := 46) dc_X1_newNameStands_32 (by decide) (fun hc32 => ?_) (fun hc32 => ?_)
    · rw [if_pos hc32] at hE
      refine Wp.iconst dc_X1_newNameStands_46 ic_1 ?_
      cases hE
      exact Wp.ireturn dc_X1_newNameStands_47 rfl Nr.z1.1 (Nat.le_refl _) (Nat.le_refl _) hK
    · rw [if_neg hc32] at hE
      refine Wp.aload_n dc_X1_newNameStands_35 rfl ?_
      refine Wp.sgetR (t := 0) dc_X1_newNameStands_36 fw_X1_9 (mO1 (by decide)) rfl ?_
      refine Wp.iconst dc_X1_newNameStands_39 ic_3 ?_
      obtain ⟨p40, h40, hE⟩ := bnd hE
      refine Wp.cV1i (ok_X5_fail  h40) dc_X1_newNameStands_40 mw_X1_40 (mO4 (by decide)) (by decide) (Nat.le_of_ble_eq_true rfl) ?_
      refine Wp.goto (tgt := 47) dc_X1_newNameStands_43 (by decide) ?_
      obtain ⟨b47, h47, hE⟩ := bnd hE
      obtain ⟨e_47, hb47⟩ := zb_some h47
      skip
      cases hE
      exact Wp.ireturn dc_X1_newNameStands_47 rfl hb47.1 (Nat.le_refl _) (Nat.le_refl _) hK
  · rw [if_pos hc7] at hE
    refine Wp.aload_n dc_X1_newNameStands_10 rfl ?_
    refine Wp.sgetR (t := 0) dc_X1_newNameStands_11 fw_X1_9 (mO1 (by decide)) rfl ?_
    refine Wp.iconst dc_X1_newNameStands_14 ic_2 ?_
    obtain ⟨p15, h15, hE⟩ := bnd hE
    refine Wp.cV1i (ok_X5_fail  h15) dc_X1_newNameStands_15 mw_X1_40 (mO4 (by decide)) (by decide) (Nat.le_of_ble_eq_true rfl) ?_
    refine Wp.goto (tgt := 47) dc_X1_newNameStands_18 (by decide) ?_
    obtain ⟨b47, h47, hE⟩ := bnd hE
    obtain ⟨e_47, hb47⟩ := zb_some h47
    skip
    cases hE
    exact Wp.ireturn dc_X1_newNameStands_47 rfl hb47.1 (Nat.le_refl _) (Nat.le_refl _) hK
theorem ok_X1_newNameStands  {σ : SS} {r1 : Nat}  {o}  (hr1 : r1 < 5) (hE : X1_newNameStands  σ r1  = some o) : Runs 2 0 0 mi_X1_newNameStands [vr 1 0, vr 0 r1] (hp σ) (fun v h => v = some (vi o.1) ∧ h = hp o.2) := by
  refine Runs.of pn_X1 (Nat.le_of_ble_eq_true rfl) ?_
  exact ok_X1_newNameStands_j0  hr1 hE ⟨rfl, rfl⟩
theorem ok_X5_passWord_j0 {Q : Option AV → AH → Prop}  {σ : SS}  {x1 : Int32} {o}    (hE : X5_passWord_j0  σ  x1 = some o) (hK : Q (some (vi o.1)) (hp o.2)) : Ws 8 mi_X5_passWord Q 0 [some (vr 4 0), some (vi x1)] [] σ := by
  unfold X5_passWord_j0 at hE
  refine Wp.aload_n dc_X5_passWord_0 rfl ?_
  refine Wp.iload_n dc_X5_passWord_1 rfl ?_
  obtain ⟨v2, h2, hE⟩ := bnd hE
  refine Wp.cV1i (ok_X5_wordIs  h2) dc_X5_passWord_2 mw_X5_77 (mO4 (by decide)) (by decide) (Nat.le_of_ble_eq_true rfl) ?_
  refine Wp.if_ne (tgt := 14) dc_X5_passWord_5 (by decide) (fun hc5 => ?_) (fun hc5 => ?_)
  · rw [if_neg hc5] at hE
    refine Wp.aload_n dc_X5_passWord_14 rfl ?_
    obtain ⟨σ15, h15, hE⟩ := bnd hE
    refine Wp.cV0v (ok_X5_next  h15) dc_X5_passWord_15 mw_X5_37 (mO4 (by decide)) (by decide) (Nat.le_of_ble_eq_true rfl) ?_
    refine Wp.iconst dc_X5_passWord_18 ic_1 ?_
    cases hE
    exact Wp.ireturn dc_X5_passWord_19 rfl Nr.z1.1 (Nat.le_refl _) (Nat.le_refl _) hK
  · rw [if_pos hc5] at hE
    refine Wp.aload_n dc_X5_passWord_8 rfl ?_
    refine Wp.iconst dc_X5_passWord_9 ic_2 ?_
    obtain ⟨p10, h10, hE⟩ := bnd hE
    refine Wp.cV1i (ok_X5_fail  h10) dc_X5_passWord_10 mw_X5_80 (mO4 (by decide)) (by decide) (Nat.le_of_ble_eq_true rfl) ?_
    obtain ⟨b13, h13, hE⟩ := bnd hE
    obtain ⟨e_13, hb13⟩ := zb_some h13
    skip
    cases hE
    exact Wp.ireturn dc_X5_passWord_13 rfl hb13.1 (Nat.le_refl _) (Nat.le_refl _) hK
theorem ok_X5_passWord  {σ : SS}  {x1 : Int32} {o}   (hE : X5_passWord  σ  x1 = some o) : Runs 8 0 0 mi_X5_passWord [vr 4 0, vi x1] (hp σ) (fun v h => v = some (vi o.1) ∧ h = hp o.2) := by
  refine Runs.of pn_X5 (Nat.le_of_ble_eq_true rfl) ?_
  exact ok_X5_passWord_j0   hE ⟨rfl, rfl⟩
def X5_passNumber_P24 (Q : Option AV → AH → Prop) (σ : SS)  (x1 : Int32) (x2 : Int32) (ss : Int32 × Int32) : Prop := Ws 8 mi_X5_passNumber Q 24 [some (vr 4 0), some (vi x1), some (vi x2), some (vi ss.1), some (vi ss.2)] [] σ
def X5_passNumber_R24 (Q : Option AV → AH → Prop) (σ : SS)  (x1 : Int32) (x2 : Int32) (tt : Int32) : Prop := ∀ z4 : Option AV, Ws 8 mi_X5_passNumber Q 54 [some (vr 4 0), some (vi x1), some (vi x2), some (vi tt), z4] [] σ
theorem ok_X5_passNumber_l24c {Q : Option AV → AH → Prop}  {σ : SS}  {x1 : Int32} {x2 : Int32} {x3 : Int32} {x4 : Int32} {o}    (hE : X5_passNumber_l24c  σ  x1 x2 x3 x4 = some o) (hS : ∀ ss, o = Sum.inl ss → (X5_passNumber_P24  Q σ  x1 x2) ss) (hT : ∀ tt, o = Sum.inr tt → (X5_passNumber_R24  Q σ  x1 x2) tt) : Ws 8 mi_X5_passNumber Q 24 [some (vr 4 0), some (vi x1), some (vi x2), some (vi x3), some (vi x4)] [] σ := by
  unfold X5_passNumber_l24c at hE
  refine Wp.iload dc_X5_passNumber_24 rfl ?_
  refine Wp.aload_n dc_X5_passNumber_26 rfl ?_
  refine Wp.sgetI dc_X5_passNumber_27 fw_X5_34 (mO4 (by decide)) ?_
  refine Wp.icmp_ge (tgt := 54) dc_X5_passNumber_30 (by decide) (fun hc30 => ?_) (fun hc30 => ?_)
  · rw [if_pos hc30] at hE
    cases hE
    exact hT _ rfl _
  · rw [if_neg hc30] at hE
    refine Wp.iload_n dc_X5_passNumber_33 rfl ?_
    refine Wp.bipush dc_X5_passNumber_34 bp_10 ?_
    refine Wp.imul dc_X5_passNumber_36 ?_
    refine Wp.aload_n dc_X5_passNumber_37 rfl ?_
    refine Wp.iload dc_X5_passNumber_38 rfl ?_
    obtain ⟨v40, h40, hE⟩ := bnd hE
    refine Wp.cV1i (ok_X5_byteAt  h40) dc_X5_passNumber_40 mw_X5_49 (mO4 (by decide)) (by decide) (Nat.le_of_ble_eq_true rfl) ?_
    refine Wp.iadd dc_X5_passNumber_43 ?_
    refine Wp.bipush dc_X5_passNumber_44 bp_48 ?_
    refine Wp.isub dc_X5_passNumber_46 ?_
    obtain ⟨x3_47, e_47, hE⟩ := bnS hE
    rw [e_47]
    refine Wp.istore_n dc_X5_passNumber_47 (by decide) ?_
    obtain ⟨x4_48, e_48, hE⟩ := bnS hE
    refine Wp.iinc dc_X5_passNumber_48 rfl ((ii ic_1).trans e_48) (by decide) ?_
    refine Wp.goto (tgt := 24) dc_X5_passNumber_51 (by decide) ?_
    cases hE
    exact hS _ rfl
theorem ok_X5_passNumber_j64 {Q : Option AV → AH → Prop}  {σ : SS}   {o} {z1 z2 z3 z4 : Option AV}   (hE : X5_passNumber_j64  σ   = some o) (hK : Q (some (vi o.1)) (hp o.2)) : Ws 8 mi_X5_passNumber Q 64 [some (vr 4 0), z1, z2, z3, z4] [] σ := by
  unfold X5_passNumber_j64 at hE
  refine Wp.aload_n dc_X5_passNumber_64 rfl ?_
  refine Wp.iconst dc_X5_passNumber_65 ic_4 ?_
  obtain ⟨p66, h66, hE⟩ := bnd hE
  refine Wp.cV1i (ok_X5_fail  h66) dc_X5_passNumber_66 mw_X5_80 (mO4 (by decide)) (by decide) (Nat.le_of_ble_eq_true rfl) ?_
  refine Wp.pop dc_X5_passNumber_69 rfl ?_
  refine Wp.iconst dc_X5_passNumber_70 ic_m1 ?_
  cases hE
  exact Wp.ireturn dc_X5_passNumber_71 rfl rfl (Nat.le_refl _) (Nat.le_refl _) hK
theorem ok_X5_passNumber_l24 {Q : Option AV → AH → Prop}  {σ : SS}  {x1 : Int32} {x2 : Int32} {x3 : Int32} {x4 : Int32} {o}    (hE : X5_passNumber_l24  σ  x1 x2 x3 x4 = some o) (hK : Q (some (vi o.1)) (hp o.2)) : Ws 8 mi_X5_passNumber Q 24 [some (vr 4 0), some (vi x1), some (vi x2), some (vi x3), some (vi x4)] [] σ := by
  unfold X5_passNumber_l24 at hE
  obtain ⟨t24, h1, hE⟩ := bnd hE
  refine iter_ok (P := (X5_passNumber_P24  Q σ  x1 x2)) (R := (X5_passNumber_R24  Q σ  x1 x2)) (fun ss o h2 hS hT => ?_) NF _ _ h1 ?_
  · skip
    exact ok_X5_passNumber_l24c   h2 hS hT
  · intro z4
    show Ws 8 mi_X5_passNumber Q 54 [some (vr 4 0), some (vi x1), some (vi x2), some (vi t24), z4] [] σ
    refine Wp.iload_n dc_X5_passNumber_54 rfl ?_
    refine Wp.iload_n dc_X5_passNumber_55 rfl ?_
    refine Wp.icmp_lt (tgt := 64) dc_X5_passNumber_56 (by decide) (fun hc56 => ?_) (fun hc56 => ?_)
    · rw [if_pos hc56] at hE
      exact ok_X5_passNumber_j64   hE hK
    · rw [if_neg hc56] at hE
      refine Wp.iload_n dc_X5_passNumber_59 rfl ?_
      refine Wp.iload_n dc_X5_passNumber_60 rfl ?_
      refine Wp.icmp_le (tgt := 72) dc_X5_passNumber_61 (by decide) (fun hc61 => ?_) (fun hc61 => ?_)
      · rw [if_pos hc61] at hE
        refine Wp.aload_n dc_X5_passNumber_72 rfl ?_
        obtain ⟨σ73, h73, hE⟩ := bnd hE
        refine Wp.cV0v (ok_X5_next  h73) dc_X5_passNumber_73 mw_X5_37 (mO4 (by decide)) (by decide) (Nat.le_of_ble_eq_true rfl) ?_
        refine Wp.iload_n dc_X5_passNumber_76 rfl ?_
        cases hE
        exact Wp.ireturn dc_X5_passNumber_77 rfl rfl (Nat.le_refl _) (Nat.le_refl _) hK
      · rw [if_neg hc61] at hE
        exact ok_X5_passNumber_j64   hE hK
theorem ok_X5_passNumber_j0 {Q : Option AV → AH → Prop}  {σ : SS}  {x1 : Int32} {x2 : Int32} {o} {z3 z4 : Option AV}   (hE : X5_passNumber_j0  σ  x1 x2 = some o) (hK : Q (some (vi o.1)) (hp o.2)) : Ws 8 mi_X5_passNumber Q 0 [some (vr 4 0), some (vi x1), some (vi x2), z3, z4] [] σ := by
  unfold X5_passNumber_j0 at hE
  refine Wp.aload_n dc_X5_passNumber_0 rfl ?_
  refine Wp.sgetI dc_X5_passNumber_1 fw_X5_40 (mO4 (by decide)) ?_
  refine Wp.iconst dc_X5_passNumber_4 ic_3 ?_
  refine Wp.icmp_eq (tgt := 16) dc_X5_passNumber_5 (by decide) (fun hc5 => ?_) (fun hc5 => ?_)
  · rw [if_pos hc5] at hE
    refine Wp.iconst dc_X5_passNumber_16 ic_0 ?_
    refine Wp.istore_n dc_X5_passNumber_17 (by decide) ?_
    refine Wp.aload_n dc_X5_passNumber_18 rfl ?_
    refine Wp.sgetI dc_X5_passNumber_19 fw_X5_43 (mO4 (by decide)) ?_
    obtain ⟨x4_22, e_22, hE⟩ := bnS hE
    rw [e_22]
    refine Wp.istore dc_X5_passNumber_22 (by decide) ?_
    exact ok_X5_passNumber_l24   hE hK
  · rw [if_neg hc5] at hE
    refine Wp.aload_n dc_X5_passNumber_8 rfl ?_
    refine Wp.iconst dc_X5_passNumber_9 ic_2 ?_
    obtain ⟨p10, h10, hE⟩ := bnd hE
    refine Wp.cV1i (ok_X5_fail  h10) dc_X5_passNumber_10 mw_X5_80 (mO4 (by decide)) (by decide) (Nat.le_of_ble_eq_true rfl) ?_
    refine Wp.pop dc_X5_passNumber_13 rfl ?_
    refine Wp.iconst dc_X5_passNumber_14 ic_m1 ?_
    cases hE
    exact Wp.ireturn dc_X5_passNumber_15 rfl rfl (Nat.le_refl _) (Nat.le_refl _) hK
theorem ok_X5_passNumber  {σ : SS}  {x1 : Int32} {x2 : Int32} {o}   (hE : X5_passNumber  σ  x1 x2 = some o) : Runs 8 0 0 mi_X5_passNumber [vr 4 0, vi x1, vi x2] (hp σ) (fun v h => v = some (vi o.1) ∧ h = hp o.2) := by
  refine Runs.of pn_X5 (Nat.le_of_ble_eq_true rfl) ?_
  exact ok_X5_passNumber_j0   hE ⟨rfl, rfl⟩
theorem ok_X1_numberIs_j25 {Q : Option AV → AH → Prop}  {σ : SS} {r2 : Nat} {x3 : Int32} {x4 : Int32} {x5 : Int32} {x6 : Int32} {o} {z1 z7 : Option AV}  (hr2 : r2 < 5) (hE : X1_numberIs_j25  σ r2 x3 x4 x5 x6 = some o) (hK : Q (some (vi o.1)) (hp o.2)) : Ws 9 mi_X1_numberIs Q 25 [some (vr 1 0), z1, some (vr 0 r2), some (vi x3), some (vi x4), some (vi x5), some (vi x6), z7] [] σ := by
  unfold X1_numberIs_j25 at hE
  refine Wp.aload_n dc_X1_numberIs_25 rfl ?_
  refine Wp.sgetR (t := 0) dc_X1_numberIs_26 fw_X1_9 (mO1 (by decide)) rfl ?_
  refine Wp.iload dc_X1_numberIs_29 rfl ?_
  refine Wp.iload dc_X1_numberIs_31 rfl ?_
  obtain ⟨p33, h33, hE⟩ := bnd hE
  refine Wp.cV2i (ok_X5_passNumber  h33) dc_X1_numberIs_33 mw_X1_78 (mO4 (by decide)) (by decide) (Nat.le_of_ble_eq_true rfl) ?_
  refine Wp.istore dc_X1_numberIs_36 (by decide) ?_
  refine Wp.iload dc_X1_numberIs_38 rfl ?_
  refine Wp.iconst dc_X1_numberIs_40 ic_m1 ?_
  refine Wp.icmp_ne (tgt := 46) dc_X1_numberIs_41 (by decide) (fun hc41 => ?_) (fun hc41 => ?_)
  · rw [if_neg hc41] at hE
    refine Wp.aload_n dc_X1_numberIs_46 rfl ?_
    refine Wp.iload dc_X1_numberIs_47 rfl ?_
    refine Wp.iload_n dc_X1_numberIs_49 rfl ?_
    refine Wp.iload dc_X1_numberIs_50 rfl ?_
    obtain ⟨σ52, h52, hE⟩ := bnd hE
    refine Wp.cV3v (ok_X0_setNumber (by omega) h52) dc_X1_numberIs_52 mw_X1_82 (mO0 (by omega)) (by decide) (Nat.le_of_ble_eq_true rfl) ?_
    refine Wp.iconst dc_X1_numberIs_55 ic_1 ?_
    cases hE
    exact Wp.ireturn dc_X1_numberIs_56 rfl Nr.z1.1 (Nat.le_refl _) (Nat.le_refl _) hK
  · rw [if_pos hc41] at hE
    refine Wp.iconst dc_X1_numberIs_44 ic_0 ?_
    cases hE
    exact Wp.ireturn dc_X1_numberIs_45 rfl Nr.z0.1 (Nat.le_refl _) (Nat.le_refl _) hK
theorem ok_X1_numberIs_j0 {Q : Option AV → AH → Prop}  {σ : SS} {r2 : Nat} {x1 : Int32} {x3 : Int32} {x4 : Int32} {x5 : Int32} {x6 : Int32} {o} {z7 : Option AV}  (hr2 : r2 < 5) (hE : X1_numberIs_j0  σ r2 x1 x3 x4 x5 x6 = some o) (hK : Q (some (vi o.1)) (hp o.2)) : Ws 9 mi_X1_numberIs Q 0 [some (vr 1 0), some (vi x1), some (vr 0 r2), some (vi x3), some (vi x4), some (vi x5), some (vi x6), z7] [] σ := by
  unfold X1_numberIs_j0 at hE
  refine Wp.iload_n dc_X1_numberIs_0 rfl ?_
  refine Wp.iconst dc_X1_numberIs_1 ic_m1 ?_
  refine Wp.icmp_eq (tgt := 25) dc_X1_numberIs_2 (by decide) (fun hc2 => ?_) (fun hc2 => ?_)
  · rw [if_pos hc2] at hE
    exact ok_X1_numberIs_j25  hr2 hE hK
  · rw [if_neg hc2] at hE
    refine Wp.aload_n dc_X1_numberIs_5 rfl ?_
    refine Wp.sgetR (t := 0) dc_X1_numberIs_6 fw_X1_9 (mO1 (by decide)) rfl ?_
    refine Wp.iload_n dc_X1_numberIs_9 rfl ?_
    obtain ⟨v10, h10, hE⟩ := bnd hE
    refine Wp.cV1i (ok_X5_wordIs  h10) dc_X1_numberIs_10 mw_X1_26 (mO4 (by decide)) (by decide) (Nat.le_of_ble_eq_true rfl) ?_
    refine Wp.if_ne (tgt := 18) dc_X1_numberIs_13 (by decide) (fun hc13 => ?_) (fun hc13 => ?_)
    · rw [if_neg hc13] at hE
      refine Wp.aload_n dc_X1_numberIs_18 rfl ?_
      refine Wp.sgetR (t := 0) dc_X1_numberIs_19 fw_X1_9 (mO1 (by decide)) rfl ?_
      obtain ⟨σ22, h22, hE⟩ := bnd hE
      refine Wp.cV0v (ok_X5_next  h22) dc_X1_numberIs_22 mw_X1_47 (mO4 (by decide)) (by decide) (Nat.le_of_ble_eq_true rfl) ?_
      exact ok_X1_numberIs_j25  hr2 hE hK
    · rw [if_pos hc13] at hE
      refine Wp.iconst dc_X1_numberIs_16 ic_1 ?_
      cases hE
      exact Wp.ireturn dc_X1_numberIs_17 rfl Nr.z1.1 (Nat.le_refl _) (Nat.le_refl _) hK
theorem ok_X1_numberIs  {σ : SS} {r2 : Nat} {x1 : Int32} {x3 : Int32} {x4 : Int32} {x5 : Int32} {x6 : Int32} {o}  (hr2 : r2 < 5) (hE : X1_numberIs  σ r2 x1 x3 x4 x5 x6 = some o) : Runs 9 0 0 mi_X1_numberIs [vr 1 0, vi x1, vr 0 r2, vi x3, vi x4, vi x5, vi x6] (hp σ) (fun v h => v = some (vi o.1) ∧ h = hp o.2) := by
  refine Runs.of pn_X1 (Nat.le_of_ble_eq_true rfl) ?_
  exact ok_X1_numberIs_j0  hr2 hE ⟨rfl, rfl⟩
theorem ok_X1_perhapsEnds_j50 {Q : Option AV → AH → Prop}  {σ : SS} {r1 : Nat} {x2 : Int32} {x3 : Int32} {s0 : Int32} {o} {z0 z4 : Option AV}  (hr1 : r1 < 5) (hE : X1_perhapsEnds_j50  σ r1 x2 x3 s0 = some o) (hK : Q (some (vi o.1)) (hp o.2)) : Ws 9 mi_X1_perhapsEnds Q 50 [z0, some (vr 0 r1), some (vi x2), some (vi x3), z4] [vi s0] σ := by
  unfold X1_perhapsEnds_j50 at hE
  refine Wp.istore dc_X1_perhapsEnds_50 (by decide) ?_
  refine Wp.aload_n dc_X1_perhapsEnds_52 rfl ?_
  refine Wp.iconst dc_X1_perhapsEnds_53 ic_2 ?_
  refine Wp.iload_n dc_X1_perhapsEnds_54 rfl ?_
  refine Wp.iload_n dc_X1_perhapsEnds_55 rfl ?_
  obtain ⟨σ56, h56, hE⟩ := bnd hE
  refine Wp.cV3v (ok_X0_setNumber (by omega) h56) dc_X1_perhapsEnds_56 mw_X1_82 (mO0 (by omega)) (by decide) (Nat.le_of_ble_eq_true rfl) ?_
  refine Wp.aload_n dc_X1_perhapsEnds_59 rfl ?_
  refine Wp.iconst dc_X1_perhapsEnds_60 ic_3 ?_
  refine Wp.iload_n dc_X1_perhapsEnds_61 rfl ?_
  refine Wp.iload dc_X1_perhapsEnds_62 rfl ?_
  obtain ⟨σ64, h64, hE⟩ := bnd hE
  refine Wp.cV3v (ok_X0_setNumber (by omega) h64) dc_X1_perhapsEnds_64 mw_X1_82 (mO0 (by omega)) (by decide) (Nat.le_of_ble_eq_true rfl) ?_
  refine Wp.iload dc_X1_perhapsEnds_67 rfl ?_
  refine Wp.iconst dc_X1_perhapsEnds_69 ic_m1 ?_
  refine Wp.icmp_eq (tgt := 77) dc_X1_perhapsEnds_70 (by decide) (fun hc70 => ?_) (fun hc70 => ?_)
  · rw [if_pos hc70] at hE
    refine Wp.iconst dc_X1_perhapsEnds_77 ic_0 ?_
    cases hE
    exact Wp.ireturn dc_X1_perhapsEnds_78 rfl Nr.z0.1 (Nat.le_refl _) (Nat.le_refl _) hK
  · rw [if_neg hc70] at hE
    refine Wp.iconst dc_X1_perhapsEnds_73 ic_1 ?_
    refine Wp.goto (tgt := 78) dc_X1_perhapsEnds_74 (by decide) ?_
    cases hE
    exact Wp.ireturn dc_X1_perhapsEnds_78 rfl Nr.z1.1 (Nat.le_refl _) (Nat.le_refl _) hK
theorem ok_X1_perhapsEnds_j0 {Q : Option AV → AH → Prop}  {σ : SS} {r1 : Nat} {x2 : Int32} {o} {z3 z4 : Option AV}  (hr1 : r1 < 5) (hE : X1_perhapsEnds_j0  σ r1 x2 = some o) (hK : Q (some (vi o.1)) (hp o.2)) : Ws 9 mi_X1_perhapsEnds Q 0 [some (vr 1 0), some (vr 0 r1), some (vi x2), z3, z4] [] σ := by
  unfold X1_perhapsEnds_j0 at hE
  refine Wp.aload_n dc_X1_perhapsEnds_0 rfl ?_
  refine Wp.sgetR (t := 0) dc_X1_perhapsEnds_1 fw_X1_9 (mO1 (by decide)) rfl ?_
  refine Wp.iconst dc_X1_perhapsEnds_4 ic_3 ?_
  obtain ⟨v5, h5, hE⟩ := bnd hE
  refine Wp.cV1i (ok_X5_wordIs  h5) dc_X1_perhapsEnds_5 mw_X1_26 (mO4 (by decide)) (by decide) (Nat.le_of_ble_eq_true rfl) ?_
  refine Wp.if_ne (tgt := 13) dc_X1_perhapsEnds_8 (by decide) (fun hc8 => ?_) (fun hc8 => ?_)
  · rw [if_neg hc8] at hE
    refine Wp.aload_n dc_X1_perhapsEnds_13 rfl ?_
    refine Wp.sgetR (t := 0) dc_X1_perhapsEnds_14 fw_X1_9 (mO1 (by decide)) rfl ?_
    obtain ⟨σ17, h17, hE⟩ := bnd hE
    refine Wp.cV0v (ok_X5_next  h17) dc_X1_perhapsEnds_17 mw_X1_47 (mO4 (by decide)) (by decide) (Nat.le_of_ble_eq_true rfl) ?_
    refine Wp.aload_n dc_X1_perhapsEnds_20 rfl ?_
    refine Wp.sgetR (t := 0) dc_X1_perhapsEnds_21 fw_X1_9 (mO1 (by decide)) rfl ?_
    refine Wp.iconst dc_X1_perhapsEnds_24 ic_1 ?_
    refine Wp.bipush dc_X1_perhapsEnds_25 bp_9 ?_
    obtain ⟨p27, h27, hE⟩ := bnd hE
    refine Wp.cV2i (ok_X5_passNumber  h27) dc_X1_perhapsEnds_27 mw_X1_78 (mO4 (by decide)) (by decide) (Nat.le_of_ble_eq_true rfl) ?_
    refine Wp.istore_n dc_X1_perhapsEnds_30 (by decide) ?_
    refine Wp.iload_n dc_X1_perhapsEnds_31 rfl ?_
    refine Wp.iconst dc_X1_perhapsEnds_32 ic_m1 ?_
    refine Wp.icmp_ne (tgt := 40) dc_X1_perhapsEnds_33 (by decide) (fun hc33 => ?_) (fun hc33 => ?_)
    · rw [if_neg hc33] at hE
      refine Wp.aload_n dc_X1_perhapsEnds_40 rfl ?_
      refine Wp.sgetR (t := 0) dc_X1_perhapsEnds_41 fw_X1_9 (mO1 (by decide)) rfl ?_
      refine Wp.iconst dc_X1_perhapsEnds_44 ic_1 ?_
      refine Wp.bipush dc_X1_perhapsEnds_45 bp_9 ?_
      obtain ⟨p47, h47, hE⟩ := bnd hE
      refine Wp.cV2i (ok_X5_passNumber  h47) dc_X1_perhapsEnds_47 mw_X1_78 (mO4 (by decide)) (by decide) (Nat.le_of_ble_eq_true rfl) ?_
      exact ok_X1_perhapsEnds_j50  hr1 hE hK
    · rw [if_pos hc33] at hE
      refine Wp.iconst dc_X1_perhapsEnds_36 ic_m1 ?_
      refine Wp.goto (tgt := 50) dc_X1_perhapsEnds_37 (by decide) ?_
      exact ok_X1_perhapsEnds_j50  hr1 hE hK
  · rw [if_pos hc8] at hE
    refine Wp.iconst dc_X1_perhapsEnds_11 ic_1 ?_
    cases hE
    exact Wp.ireturn dc_X1_perhapsEnds_12 rfl Nr.z1.1 (Nat.le_refl _) (Nat.le_refl _) hK
theorem ok_X1_perhapsEnds  {σ : SS} {r1 : Nat} {x2 : Int32} {o}  (hr1 : r1 < 5) (hE : X1_perhapsEnds  σ r1 x2 = some o) : Runs 9 0 0 mi_X1_perhapsEnds [vr 1 0, vr 0 r1, vi x2] (hp σ) (fun v h => v = some (vi o.1) ∧ h = hp o.2) := by
  refine Runs.of pn_X1 (Nat.le_of_ble_eq_true rfl) ?_
  exact ok_X1_perhapsEnds_j0  hr1 hE ⟨rfl, rfl⟩
theorem ok_X1_perhapsClip_j0 {Q : Option AV → AH → Prop}  {σ : SS} {r1 : Nat} {x2 : Int32} {o}   (hr1 : r1 < 5) (hE : X1_perhapsClip_j0  σ r1 x2 = some o) (hK : Q (some (vi o.1)) (hp o.2)) : Ws 8 mi_X1_perhapsClip Q 0 [some (vr 1 0), some (vr 0 r1), some (vi x2)] [] σ := by
  unfold X1_perhapsClip_j0 at hE
  refine Wp.aload_n dc_X1_perhapsClip_0 rfl ?_
  refine Wp.sgetR (t := 0) dc_X1_perhapsClip_1 fw_X1_9 (mO1 (by decide)) rfl ?_
  refine Wp.bipush dc_X1_perhapsClip_4 bp_6 ?_
  obtain ⟨v6, h6, hE⟩ := bnd hE
  refine Wp.cV1i (ok_X5_wordIs  h6) dc_X1_perhapsClip_6 mw_X1_26 (mO4 (by decide)) (by decide) (Nat.le_of_ble_eq_true rfl) ?_
  refine Wp.if_eq (tgt := 24) dc_X1_perhapsClip_9 (by decide) (fun hc9 => ?_) (fun hc9 => ?_)
  · rw [if_pos hc9] at hE
    refine Wp.iconst dc_X1_perhapsClip_24 ic_1 ?_
    cases hE
    exact Wp.ireturn dc_X1_perhapsClip_25 rfl Nr.z1.1 (Nat.le_refl _) (Nat.le_refl _) hK
  · rw [if_neg hc9] at hE
    refine Wp.aload_n dc_X1_perhapsClip_12 rfl ?_
    refine Wp.iload_n dc_X1_perhapsClip_13 rfl ?_
    obtain ⟨σ14, h14, hE⟩ := bnd hE
    refine Wp.cV1v (ok_X0_setClip (by omega) h14) dc_X1_perhapsClip_14 mw_X1_86 (mO0 (by omega)) (by decide) (Nat.le_of_ble_eq_true rfl) ?_
    refine Wp.aload_n dc_X1_perhapsClip_17 rfl ?_
    refine Wp.sgetR (t := 0) dc_X1_perhapsClip_18 fw_X1_9 (mO1 (by decide)) rfl ?_
    obtain ⟨σ21, h21, hE⟩ := bnd hE
    refine Wp.cV0v (ok_X5_next  h21) dc_X1_perhapsClip_21 mw_X1_47 (mO4 (by decide)) (by decide) (Nat.le_of_ble_eq_true rfl) ?_
    refine Wp.iconst dc_X1_perhapsClip_24 ic_1 ?_
    cases hE
    exact Wp.ireturn dc_X1_perhapsClip_25 rfl Nr.z1.1 (Nat.le_refl _) (Nat.le_refl _) hK
theorem ok_X1_perhapsClip  {σ : SS} {r1 : Nat} {x2 : Int32} {o}  (hr1 : r1 < 5) (hE : X1_perhapsClip  σ r1 x2 = some o) : Runs 8 0 0 mi_X1_perhapsClip [vr 1 0, vr 0 r1, vi x2] (hp σ) (fun v h => v = some (vi o.1) ∧ h = hp o.2) := by
  refine Runs.of pn_X1 (Nat.le_of_ble_eq_true rfl) ?_
  exact ok_X1_perhapsClip_j0  hr1 hE ⟨rfl, rfl⟩
theorem ok_X5_signIs_j0 {Q : Option AV → AH → Prop}  {σ : SS}  {x1 : Int32} {o}    (hE : X5_signIs_j0  σ  x1 = some o) (hK : Q (some (vi o)) (hp σ)) : Ws 1 mi_X5_signIs Q 0 [some (vr 4 0), some (vi x1)] [] σ := by
  unfold X5_signIs_j0 at hE
  refine Wp.aload_n dc_X5_signIs_0 rfl ?_
  refine Wp.sgetI dc_X5_signIs_1 fw_X5_40 (mO4 (by decide)) ?_
  refine Wp.iconst dc_X5_signIs_4 ic_4 ?_
  refine Wp.icmp_ne (tgt := 24) dc_X5_signIs_5 (by decide) (fun hc5 => ?_) (fun hc5 => ?_)
  · rw [if_neg hc5] at hE
    refine Wp.iconst dc_X5_signIs_24 ic_0 ?_
    cases hE
    exact Wp.ireturn dc_X5_signIs_25 rfl Nr.z0.1 (Nat.le_refl _) (Nat.le_refl _) hK
  · rw [if_pos hc5] at hE
    refine Wp.aload_n dc_X5_signIs_8 rfl ?_
    refine Wp.aload_n dc_X5_signIs_9 rfl ?_
    refine Wp.sgetI dc_X5_signIs_10 fw_X5_43 (mO4 (by decide)) ?_
    obtain ⟨v13, h13, hE⟩ := bnd hE
    refine Wp.cV1i (ok_X5_byteAt  h13) dc_X5_signIs_13 mw_X5_49 (mO4 (by decide)) (by decide) (Nat.le_of_ble_eq_true rfl) ?_
    refine Wp.iload_n dc_X5_signIs_16 rfl ?_
    refine Wp.icmp_ne (tgt := 24) dc_X5_signIs_17 (by decide) (fun hc17 => ?_) (fun hc17 => ?_)
    · rw [if_neg hc17] at hE
      refine Wp.iconst dc_X5_signIs_24 ic_0 ?_
      cases hE
      exact Wp.ireturn dc_X5_signIs_25 rfl Nr.z0.1 (Nat.le_refl _) (Nat.le_refl _) hK
    · rw [if_pos hc17] at hE
      refine Wp.iconst dc_X5_signIs_20 ic_1 ?_
      refine Wp.goto (tgt := 25) dc_X5_signIs_21 (by decide) ?_
      cases hE
      exact Wp.ireturn dc_X5_signIs_25 rfl Nr.z1.1 (Nat.le_refl _) (Nat.le_refl _) hK
theorem ok_X5_signIs  {σ : SS}  {x1 : Int32} {o}   (hE : X5_signIs  σ  x1 = some o) : Runs 1 0 0 mi_X5_signIs [vr 4 0, vi x1] (hp σ) (fun v h => v = some (vi o) ∧ h = hp σ) := by
  refine Runs.of pn_X5 (Nat.le_of_ble_eq_true rfl) ?_
  exact ok_X5_signIs_j0   hE ⟨rfl, rfl⟩
theorem ok_X5_passSign_j0 {Q : Option AV → AH → Prop}  {σ : SS}  {x1 : Int32} {o}    (hE : X5_passSign_j0  σ  x1 = some o) (hK : Q (some (vi o.1)) (hp o.2)) : Ws 8 mi_X5_passSign Q 0 [some (vr 4 0), some (vi x1)] [] σ := by
  unfold X5_passSign_j0 at hE
  refine Wp.aload_n dc_X5_passSign_0 rfl ?_
  refine Wp.iload_n dc_X5_passSign_1 rfl ?_
  obtain ⟨v2, h2, hE⟩ := bnd hE
  refine Wp.cV1i (ok_X5_signIs  h2) dc_X5_passSign_2 mw_X5_83 (mO4 (by decide)) (by decide) (Nat.le_of_ble_eq_true rfl) ?_
  refine Wp.if_ne (tgt := 14) dc_X5_passSign_5 (by decide) (fun hc5 => ?_) (fun hc5 => ?_)
  · rw [if_neg hc5] at hE
    refine Wp.aload_n dc_X5_passSign_14 rfl ?_
    obtain ⟨σ15, h15, hE⟩ := bnd hE
    refine Wp.cV0v (ok_X5_next  h15) dc_X5_passSign_15 mw_X5_37 (mO4 (by decide)) (by decide) (Nat.le_of_ble_eq_true rfl) ?_
    refine Wp.iconst dc_X5_passSign_18 ic_1 ?_
    cases hE
    exact Wp.ireturn dc_X5_passSign_19 rfl Nr.z1.1 (Nat.le_refl _) (Nat.le_refl _) hK
  · rw [if_pos hc5] at hE
    refine Wp.aload_n dc_X5_passSign_8 rfl ?_
    refine Wp.iconst dc_X5_passSign_9 ic_2 ?_
    obtain ⟨p10, h10, hE⟩ := bnd hE
    refine Wp.cV1i (ok_X5_fail  h10) dc_X5_passSign_10 mw_X5_80 (mO4 (by decide)) (by decide) (Nat.le_of_ble_eq_true rfl) ?_
    obtain ⟨b13, h13, hE⟩ := bnd hE
    obtain ⟨e_13, hb13⟩ := zb_some h13
    skip
    cases hE
    exact Wp.ireturn dc_X5_passSign_13 rfl hb13.1 (Nat.le_refl _) (Nat.le_refl _) hK
theorem ok_X5_passSign  {σ : SS}  {x1 : Int32} {o}   (hE : X5_passSign  σ  x1 = some o) : Runs 8 0 0 mi_X5_passSign [vr 4 0, vi x1] (hp σ) (fun v h => v = some (vi o.1) ∧ h = hp o.2) := by
  refine Runs.of pn_X5 (Nat.le_of_ble_eq_true rfl) ?_
  exact ok_X5_passSign_j0   hE ⟨rfl, rfl⟩
theorem ok_X1_leadPart_j0 {Q : Option AV → AH → Prop}  {σ : SS} {r1 : Nat}  {o} {z2 : Option AV}  (hr1 : r1 < 5) (hE : X1_leadPart_j0  σ r1  = some o) (hK : Q (some (vi o.1)) (hp o.2)) : Ws 10 mi_X1_leadPart Q 0 [some (vr 1 0), some (vr 0 r1), z2] [] σ := by
  unfold X1_leadPart_j0 at hE
  refine Wp.aload_n dc_X1_leadPart_0 rfl ?_
  obtain ⟨v1, h1, hE⟩ := bnd hE
  refine Wp.cV0i (ok_X0_leadCount (by omega) h1) dc_X1_leadPart_1 mw_X1_43 (mO0 (by omega)) (by decide) (Nat.le_of_ble_eq_true rfl) ?_
  refine Wp.bipush dc_X1_leadPart_4 bp_8 ?_
  refine Wp.icmp_lt (tgt := 19) dc_X1_leadPart_6 (by decide) (fun hc6 => ?_) (fun hc6 => ?_)
  · rw [if_pos hc6] at hE
    refine Wp.aload_n dc_X1_leadPart_19 rfl ?_
    refine Wp.sgetR (t := 0) dc_X1_leadPart_20 fw_X1_9 (mO1 (by decide)) rfl ?_
    obtain ⟨σ23, h23, hE⟩ := bnd hE
    refine Wp.cV0v (ok_X5_next  h23) dc_X1_leadPart_23 mw_X1_47 (mO4 (by decide)) (by decide) (Nat.le_of_ble_eq_true rfl) ?_
    refine Wp.aload_n dc_X1_leadPart_26 rfl ?_
    refine Wp.aload_n dc_X1_leadPart_27 rfl ?_
    obtain ⟨p28, h28, hE⟩ := bnd hE
    refine Wp.cV1i (ok_X1_newNameStands (by omega) h28) dc_X1_leadPart_28 mw_X1_50 (mO1 (by decide)) (by decide) (Nat.le_of_ble_eq_true rfl) ?_
    refine Wp.if_ne (tgt := 36) dc_X1_leadPart_31 (by decide) (fun hc31 => ?_) (fun hc31 => ?_)
    · rw [if_neg hc31] at hE
      refine Wp.aload_n dc_X1_leadPart_36 rfl ?_
      refine Wp.aload_n dc_X1_leadPart_37 rfl ?_
      refine Wp.sgetR (t := 0) dc_X1_leadPart_38 fw_X1_9 (mO1 (by decide)) rfl ?_
      obtain ⟨v41, h41, hE⟩ := bnd hE
      refine Wp.cV0l (ok_X5_name  h41) dc_X1_leadPart_41 mw_X1_53 (mO4 (by decide)) (by decide) (Nat.le_of_ble_eq_true rfl) ?_
      obtain ⟨p44, h44, hE⟩ := bnd hE
      refine Wp.cV1i (ok_X0_addLead (by omega) h44) dc_X1_leadPart_44 mw_X1_57 (mO0 (by omega)) (by decide) (Nat.le_of_ble_eq_true rfl) ?_
      refine Wp.istore_n dc_X1_leadPart_47 (by decide) ?_
      refine Wp.aload_n dc_X1_leadPart_48 rfl ?_
      refine Wp.sgetR (t := 0) dc_X1_leadPart_49 fw_X1_9 (mO1 (by decide)) rfl ?_
      obtain ⟨σ52, h52, hE⟩ := bnd hE
      refine Wp.cV0v (ok_X5_next  h52) dc_X1_leadPart_52 mw_X1_47 (mO4 (by decide)) (by decide) (Nat.le_of_ble_eq_true rfl) ?_
      refine Wp.aload_n dc_X1_leadPart_55 rfl ?_
      refine Wp.sgetR (t := 0) dc_X1_leadPart_56 fw_X1_9 (mO1 (by decide)) rfl ?_
      refine Wp.iconst dc_X1_leadPart_59 ic_1 ?_
      obtain ⟨p60, h60, hE⟩ := bnd hE
      refine Wp.cV1i (ok_X5_passWord  h60) dc_X1_leadPart_60 mw_X1_61 (mO4 (by decide)) (by decide) (Nat.le_of_ble_eq_true rfl) ?_
      refine Wp.if_eq (tgt := 157) dc_X1_leadPart_63 (by decide) (fun hc63 => ?_) (fun hc63 => ?_)
      · rw [if_pos hc63] at hE
        refine Wp.iconst dc_X1_leadPart_157 ic_0 ?_
        cases hE
        exact Wp.ireturn dc_X1_leadPart_158 rfl Nr.z0.1 (Nat.le_refl _) (Nat.le_refl _) hK
      · rw [if_neg hc63] at hE
        refine Wp.aload_n dc_X1_leadPart_66 rfl ?_
        refine Wp.iconst dc_X1_leadPart_67 ic_m1 ?_
        refine Wp.aload_n dc_X1_leadPart_68 rfl ?_
        refine Wp.iload_n dc_X1_leadPart_69 rfl ?_
        refine Wp.iconst dc_X1_leadPart_70 ic_0 ?_
        refine Wp.iconst dc_X1_leadPart_71 ic_1 ?_
        refine Wp.bipush dc_X1_leadPart_72 bp_30 ?_
        obtain ⟨p74, h74, hE⟩ := bnd hE
        refine Wp.cV6i (ok_X1_numberIs (by omega) h74) dc_X1_leadPart_74 mw_X1_64 (mO1 (by decide)) (by decide) (Nat.le_of_ble_eq_true rfl) ?_
        refine Wp.if_eq (tgt := 157) dc_X1_leadPart_77 (by decide) (fun hc77 => ?_) (fun hc77 => ?_)
        · rw [if_pos hc77] at hE
          refine Wp.iconst dc_X1_leadPart_157 ic_0 ?_
          cases hE
          exact Wp.ireturn dc_X1_leadPart_158 rfl Nr.z0.1 (Nat.le_refl _) (Nat.le_refl _) hK
        · rw [if_neg hc77] at hE
          refine Wp.aload_n dc_X1_leadPart_80 rfl ?_
          refine Wp.iconst dc_X1_leadPart_81 ic_2 ?_
          refine Wp.aload_n dc_X1_leadPart_82 rfl ?_
          refine Wp.iload_n dc_X1_leadPart_83 rfl ?_
          refine Wp.iconst dc_X1_leadPart_84 ic_1 ?_
          refine Wp.iconst dc_X1_leadPart_85 ic_0 ?_
          refine Wp.bipush dc_X1_leadPart_86 bp_9 ?_
          obtain ⟨p88, h88, hE⟩ := bnd hE
          refine Wp.cV6i (ok_X1_numberIs (by omega) h88) dc_X1_leadPart_88 mw_X1_64 (mO1 (by decide)) (by decide) (Nat.le_of_ble_eq_true rfl) ?_
          refine Wp.if_eq (tgt := 157) dc_X1_leadPart_91 (by decide) (fun hc91 => ?_) (fun hc91 => ?_)
          · rw [if_pos hc91] at hE
            refine Wp.iconst dc_X1_leadPart_157 ic_0 ?_
            cases hE
            exact Wp.ireturn dc_X1_leadPart_158 rfl Nr.z0.1 (Nat.le_refl _) (Nat.le_refl _) hK
          · rw [if_neg hc91] at hE
            refine Wp.aload_n dc_X1_leadPart_94 rfl ?_
            refine Wp.aload_n dc_X1_leadPart_95 rfl ?_
            refine Wp.iload_n dc_X1_leadPart_96 rfl ?_
            obtain ⟨p97, h97, hE⟩ := bnd hE
            refine Wp.cV2i (ok_X1_perhapsEnds (by omega) h97) dc_X1_leadPart_97 mw_X1_68 (mO1 (by decide)) (by decide) (Nat.le_of_ble_eq_true rfl) ?_
            refine Wp.if_eq (tgt := 157) dc_X1_leadPart_100 (by decide) (fun hc100 => ?_) (fun hc100 => ?_)
            · rw [if_pos hc100] at hE
              refine Wp.iconst dc_X1_leadPart_157 ic_0 ?_
              cases hE
              exact Wp.ireturn dc_X1_leadPart_158 rfl Nr.z0.1 (Nat.le_refl _) (Nat.le_refl _) hK
            · rw [if_neg hc100] at hE
              refine Wp.aload_n dc_X1_leadPart_103 rfl ?_
              refine Wp.iconst dc_X1_leadPart_104 ic_4 ?_
              refine Wp.aload_n dc_X1_leadPart_105 rfl ?_
              refine Wp.iload_n dc_X1_leadPart_106 rfl ?_
              refine Wp.iconst dc_X1_leadPart_107 ic_4 ?_
              refine Wp.iconst dc_X1_leadPart_108 ic_0 ?_
              refine Wp.sipush dc_X1_leadPart_109 sp_999 ?_
              obtain ⟨p112, h112, hE⟩ := bnd hE
              refine Wp.cV6i (ok_X1_numberIs (by omega) h112) dc_X1_leadPart_112 mw_X1_64 (mO1 (by decide)) (by decide) (Nat.le_of_ble_eq_true rfl) ?_
              refine Wp.if_eq (tgt := 157) dc_X1_leadPart_115 (by decide) (fun hc115 => ?_) (fun hc115 => ?_)
              · rw [if_pos hc115] at hE
                refine Wp.iconst dc_X1_leadPart_157 ic_0 ?_
                cases hE
                exact Wp.ireturn dc_X1_leadPart_158 rfl Nr.z0.1 (Nat.le_refl _) (Nat.le_refl _) hK
              · rw [if_neg hc115] at hE
                refine Wp.aload_n dc_X1_leadPart_118 rfl ?_
                refine Wp.iconst dc_X1_leadPart_119 ic_5 ?_
                refine Wp.aload_n dc_X1_leadPart_120 rfl ?_
                refine Wp.iload_n dc_X1_leadPart_121 rfl ?_
                refine Wp.iconst dc_X1_leadPart_122 ic_5 ?_
                refine Wp.iconst dc_X1_leadPart_123 ic_0 ?_
                refine Wp.bipush dc_X1_leadPart_124 bp_16 ?_
                obtain ⟨p126, h126, hE⟩ := bnd hE
                refine Wp.cV6i (ok_X1_numberIs (by omega) h126) dc_X1_leadPart_126 mw_X1_64 (mO1 (by decide)) (by decide) (Nat.le_of_ble_eq_true rfl) ?_
                refine Wp.if_eq (tgt := 157) dc_X1_leadPart_129 (by decide) (fun hc129 => ?_) (fun hc129 => ?_)
                · rw [if_pos hc129] at hE
                  refine Wp.iconst dc_X1_leadPart_157 ic_0 ?_
                  cases hE
                  exact Wp.ireturn dc_X1_leadPart_158 rfl Nr.z0.1 (Nat.le_refl _) (Nat.le_refl _) hK
                · rw [if_neg hc129] at hE
                  refine Wp.aload_n dc_X1_leadPart_132 rfl ?_
                  refine Wp.aload_n dc_X1_leadPart_133 rfl ?_
                  refine Wp.iload_n dc_X1_leadPart_134 rfl ?_
                  obtain ⟨p135, h135, hE⟩ := bnd hE
                  refine Wp.cV2i (ok_X1_perhapsClip (by omega) h135) dc_X1_leadPart_135 mw_X1_72 (mO1 (by decide)) (by decide) (Nat.le_of_ble_eq_true rfl) ?_
                  refine Wp.if_eq (tgt := 157) dc_X1_leadPart_138 (by decide) (fun hc138 => ?_) (fun hc138 => ?_)
                  · rw [if_pos hc138] at hE
                    refine Wp.iconst dc_X1_leadPart_157 ic_0 ?_
                    cases hE
                    exact Wp.ireturn dc_X1_leadPart_158 rfl Nr.z0.1 (Nat.le_refl _) (Nat.le_refl _) hK
                  · rw [if_neg hc138] at hE
                    refine Wp.aload_n dc_X1_leadPart_141 rfl ?_
                    refine Wp.sgetR (t := 0) dc_X1_leadPart_142 fw_X1_9 (mO1 (by decide)) rfl ?_
                    refine Wp.bipush dc_X1_leadPart_145 bp_59 ?_
                    obtain ⟨p147, h147, hE⟩ := bnd hE
                    refine Wp.cV1i (ok_X5_passSign  h147) dc_X1_leadPart_147 mw_X1_75 (mO4 (by decide)) (by decide) (Nat.le_of_ble_eq_true rfl) ?_
                    refine Wp.if_eq (tgt := 157) dc_X1_leadPart_150 (by decide) (fun hc150 => ?_) (fun hc150 => ?_)
                    · rw [if_pos hc150] at hE
                      refine Wp.iconst dc_X1_leadPart_157 ic_0 ?_
                      cases hE
                      exact Wp.ireturn dc_X1_leadPart_158 rfl Nr.z0.1 (Nat.le_refl _) (Nat.le_refl _) hK
                    · rw [if_neg hc150] at hE
                      refine Wp.iconst dc_X1_leadPart_153 ic_1 ?_
                      refine Wp.goto (tgt := 158) dc_X1_leadPart_154 (by decide) ?_
                      cases hE
                      exact Wp.ireturn dc_X1_leadPart_158 rfl Nr.z1.1 (Nat.le_refl _) (Nat.le_refl _) hK
    · rw [if_pos hc31] at hE
      refine Wp.iconst dc_X1_leadPart_34 ic_0 ?_
      cases hE
      exact Wp.ireturn dc_X1_leadPart_35 rfl Nr.z0.1 (Nat.le_refl _) (Nat.le_refl _) hK
  · rw [if_neg hc6] at hE
    refine Wp.aload_n dc_X1_leadPart_9 rfl ?_
    refine Wp.sgetR (t := 0) dc_X1_leadPart_10 fw_X1_9 (mO1 (by decide)) rfl ?_
    refine Wp.bipush dc_X1_leadPart_13 bp_6 ?_
    obtain ⟨p15, h15, hE⟩ := bnd hE
    refine Wp.cV1i (ok_X5_fail  h15) dc_X1_leadPart_15 mw_X1_40 (mO4 (by decide)) (by decide) (Nat.le_of_ble_eq_true rfl) ?_
    obtain ⟨b18, h18, hE⟩ := bnd hE
    obtain ⟨e_18, hb18⟩ := zb_some h18
    skip
    cases hE
    exact Wp.ireturn dc_X1_leadPart_18 rfl hb18.1 (Nat.le_refl _) (Nat.le_refl _) hK
theorem ok_X1_leadPart  {σ : SS} {r1 : Nat}  {o}  (hr1 : r1 < 5) (hE : X1_leadPart  σ r1  = some o) : Runs 10 0 0 mi_X1_leadPart [vr 1 0, vr 0 r1] (hp σ) (fun v h => v = some (vi o.1) ∧ h = hp o.2) := by
  refine Runs.of pn_X1 (Nat.le_of_ble_eq_true rfl) ?_
  exact ok_X1_leadPart_j0  hr1 hE ⟨rfl, rfl⟩
theorem ok_X1_toldNameStands_j0 {Q : Option AV → AH → Prop}  {σ : SS} {r1 : Nat}  {o}   (hr1 : r1 < 5) (hE : X1_toldNameStands_j0  σ r1  = some o) (hK : Q (some (vi o.1)) (hp o.2)) : Ws 2 mi_X1_toldNameStands Q 0 [some (vr 1 0), some (vr 0 r1)] [] σ := by
  unfold X1_toldNameStands_j0 at hE
  refine Wp.aload_n dc_X1_toldNameStands_0 rfl ?_
  refine Wp.sgetR (t := 0) dc_X1_toldNameStands_1 fw_X1_9 (mO1 (by decide)) rfl ?_
  obtain ⟨v4, h4, hE⟩ := bnd hE
  refine Wp.cV0i (ok_X5_nameStands  h4) dc_X1_toldNameStands_4 mw_X1_133 (mO4 (by decide)) (by decide) (Nat.le_of_ble_eq_true rfl) ?_
  refine Wp.if_ne (tgt := 21) dc_X1_toldNameStands_7 (by decide) (fun hc7 => ?_) (fun hc7 => ?_)
  · rw [if_neg hc7] at hE
    refine Wp.aload_n dc_X1_toldNameStands_21 rfl ?_
    refine Wp.aload_n dc_X1_toldNameStands_22 rfl ?_
    refine Wp.sgetR (t := 0) dc_X1_toldNameStands_23 fw_X1_9 (mO1 (by decide)) rfl ?_
    obtain ⟨v26, h26, hE⟩ := bnd hE
    refine Wp.cV0l (ok_X5_name  h26) dc_X1_toldNameStands_26 mw_X1_53 (mO4 (by decide)) (by decide) (Nat.le_of_ble_eq_true rfl) ?_
    obtain ⟨v29, h29, hE⟩ := bnd hE
    refine Wp.cV1i (ok_X0_leadNamed (by omega) h29) dc_X1_toldNameStands_29 mw_X1_107 (mO0 (by omega)) (by decide) (Nat.le_of_ble_eq_true rfl) ?_
    refine Wp.iconst dc_X1_toldNameStands_32 ic_m1 ?_
    refine Wp.icmp_ne (tgt := 47) dc_X1_toldNameStands_33 (by decide) (fun hc33 => ?_) (fun hc33 => ?_)
    · rw [if_neg hc33] at hE
      refine Wp.iconst dc_X1_toldNameStands_47 ic_1 ?_
      cases hE
      exact Wp.ireturn dc_X1_toldNameStands_48 rfl Nr.z1.1 (Nat.le_refl _) (Nat.le_refl _) hK
    · rw [if_pos hc33] at hE
      refine Wp.aload_n dc_X1_toldNameStands_36 rfl ?_
      refine Wp.sgetR (t := 0) dc_X1_toldNameStands_37 fw_X1_9 (mO1 (by decide)) rfl ?_
      refine Wp.iconst dc_X1_toldNameStands_40 ic_3 ?_
      obtain ⟨p41, h41, hE⟩ := bnd hE
      refine Wp.cV1i (ok_X5_fail  h41) dc_X1_toldNameStands_41 mw_X1_40 (mO4 (by decide)) (by decide) (Nat.le_of_ble_eq_true rfl) ?_
      refine Wp.goto (tgt := 48) dc_X1_toldNameStands_44 (by decide) ?_
      obtain ⟨b48, h48, hE⟩ := bnd hE
      obtain ⟨e_48, hb48⟩ := zb_some h48
      skip
      cases hE
      exact Wp.ireturn dc_X1_toldNameStands_48 rfl hb48.1 (Nat.le_refl _) (Nat.le_refl _) hK
  · rw [if_pos hc7] at hE
    refine Wp.aload_n dc_X1_toldNameStands_10 rfl ?_
    refine Wp.sgetR (t := 0) dc_X1_toldNameStands_11 fw_X1_9 (mO1 (by decide)) rfl ?_
    refine Wp.iconst dc_X1_toldNameStands_14 ic_2 ?_
    obtain ⟨p15, h15, hE⟩ := bnd hE
    refine Wp.cV1i (ok_X5_fail  h15) dc_X1_toldNameStands_15 mw_X1_40 (mO4 (by decide)) (by decide) (Nat.le_of_ble_eq_true rfl) ?_
    refine Wp.goto (tgt := 48) dc_X1_toldNameStands_18 (by decide) ?_
    obtain ⟨b48, h48, hE⟩ := bnd hE
    obtain ⟨e_48, hb48⟩ := zb_some h48
    skip
    cases hE
    exact Wp.ireturn dc_X1_toldNameStands_48 rfl hb48.1 (Nat.le_refl _) (Nat.le_refl _) hK
theorem ok_X1_toldNameStands  {σ : SS} {r1 : Nat}  {o}  (hr1 : r1 < 5) (hE : X1_toldNameStands  σ r1  = some o) : Runs 2 0 0 mi_X1_toldNameStands [vr 1 0, vr 0 r1] (hp σ) (fun v h => v = some (vi o.1) ∧ h = hp o.2) := by
  refine Runs.of pn_X1 (Nat.le_of_ble_eq_true rfl) ?_
  exact ok_X1_toldNameStands_j0  hr1 hE ⟨rfl, rfl⟩
theorem ok_X1_crossable_j35 {Q : Option AV → AH → Prop}  {σ : SS} {r1 : Nat}  {o} {z1 z2 z3 : Option AV}  (hr1 : r1 < 5) (hE : X1_crossable_j35  σ r1  = some o) (hK : Q (some (vi o.1)) (hp o.2)) : Ws 8 mi_X1_crossable Q 35 [some (vr 1 0), z1, z2, z3] [] σ := by
  unfold X1_crossable_j35 at hE
  refine Wp.aload_n dc_X1_crossable_35 rfl ?_
  refine Wp.sgetR (t := 0) dc_X1_crossable_36 fw_X1_9 (mO1 (by decide)) rfl ?_
  refine Wp.iconst dc_X1_crossable_39 ic_5 ?_
  obtain ⟨p40, h40, hE⟩ := bnd hE
  refine Wp.cV1i (ok_X5_fail  h40) dc_X1_crossable_40 mw_X1_40 (mO4 (by decide)) (by decide) (Nat.le_of_ble_eq_true rfl) ?_
  refine Wp.pop dc_X1_crossable_43 rfl ?_
  refine Wp.iconst dc_X1_crossable_44 ic_m1 ?_
  cases hE
  exact Wp.ireturn dc_X1_crossable_45 rfl rfl (Nat.le_refl _) (Nat.le_refl _) hK
theorem ok_X1_crossable_j0 {Q : Option AV → AH → Prop}  {σ : SS} {r1 : Nat} {x2 : Int32} {o} {z3 : Option AV}  (hr1 : r1 < 5) (hE : X1_crossable_j0  σ r1 x2 = some o) (hK : Q (some (vi o.1)) (hp o.2)) : Ws 8 mi_X1_crossable Q 0 [some (vr 1 0), some (vr 0 r1), some (vi x2), z3] [] σ := by
  unfold X1_crossable_j0 at hE
  refine Wp.aload_n dc_X1_crossable_0 rfl ?_
  refine Wp.aload_n dc_X1_crossable_1 rfl ?_
  obtain ⟨p2, h2, hE⟩ := bnd hE
  refine Wp.cV1i (ok_X1_toldNameStands (by omega) h2) dc_X1_crossable_2 mw_X1_104 (mO1 (by decide)) (by decide) (Nat.le_of_ble_eq_true rfl) ?_
  refine Wp.if_ne (tgt := 10) dc_X1_crossable_5 (by decide) (fun hc5 => ?_) (fun hc5 => ?_)
  · rw [if_neg hc5] at hE
    refine Wp.aload_n dc_X1_crossable_10 rfl ?_
    refine Wp.aload_n dc_X1_crossable_11 rfl ?_
    refine Wp.sgetR (t := 0) dc_X1_crossable_12 fw_X1_9 (mO1 (by decide)) rfl ?_
    obtain ⟨v15, h15, hE⟩ := bnd hE
    refine Wp.cV0l (ok_X5_name  h15) dc_X1_crossable_15 mw_X1_53 (mO4 (by decide)) (by decide) (Nat.le_of_ble_eq_true rfl) ?_
    obtain ⟨v18, h18, hE⟩ := bnd hE
    refine Wp.cV1i (ok_X0_leadNamed (by omega) h18) dc_X1_crossable_18 mw_X1_107 (mO0 (by omega)) (by decide) (Nat.le_of_ble_eq_true rfl) ?_
    refine Wp.istore_n dc_X1_crossable_21 (by decide) ?_
    refine Wp.iload_n dc_X1_crossable_22 rfl ?_
    refine Wp.iload_n dc_X1_crossable_23 rfl ?_
    refine Wp.icmp_eq (tgt := 35) dc_X1_crossable_24 (by decide) (fun hc24 => ?_) (fun hc24 => ?_)
    · rw [if_pos hc24] at hE
      exact ok_X1_crossable_j35  hr1 hE hK
    · rw [if_neg hc24] at hE
      refine Wp.aload_n dc_X1_crossable_27 rfl ?_
      refine Wp.iload_n dc_X1_crossable_28 rfl ?_
      obtain ⟨v29, h29, hE⟩ := bnd hE
      refine Wp.cV1i (ok_X0_hasClip (by omega) h29) dc_X1_crossable_29 mw_X1_110 (mO0 (by omega)) (by decide) (Nat.le_of_ble_eq_true rfl) ?_
      refine Wp.if_eq (tgt := 46) dc_X1_crossable_32 (by decide) (fun hc32 => ?_) (fun hc32 => ?_)
      · rw [if_pos hc32] at hE
        refine Wp.aload_n dc_X1_crossable_46 rfl ?_
        refine Wp.sgetR (t := 0) dc_X1_crossable_47 fw_X1_9 (mO1 (by decide)) rfl ?_
        obtain ⟨σ50, h50, hE⟩ := bnd hE
        refine Wp.cV0v (ok_X5_next  h50) dc_X1_crossable_50 mw_X1_47 (mO4 (by decide)) (by decide) (Nat.le_of_ble_eq_true rfl) ?_
        refine Wp.iload_n dc_X1_crossable_53 rfl ?_
        cases hE
        exact Wp.ireturn dc_X1_crossable_54 rfl rfl (Nat.le_refl _) (Nat.le_refl _) hK
      · rw [if_neg hc32] at hE
        exact ok_X1_crossable_j35  hr1 hE hK
  · rw [if_pos hc5] at hE
    refine Wp.iconst dc_X1_crossable_8 ic_m1 ?_
    cases hE
    exact Wp.ireturn dc_X1_crossable_9 rfl rfl (Nat.le_refl _) (Nat.le_refl _) hK
theorem ok_X1_crossable  {σ : SS} {r1 : Nat} {x2 : Int32} {o}  (hr1 : r1 < 5) (hE : X1_crossable  σ r1 x2 = some o) : Runs 8 0 0 mi_X1_crossable [vr 1 0, vr 0 r1, vi x2] (hp σ) (fun v h => v = some (vi o.1) ∧ h = hp o.2) := by
  refine Runs.of pn_X1 (Nat.le_of_ble_eq_true rfl) ?_
  exact ok_X1_crossable_j0  hr1 hE ⟨rfl, rfl⟩
theorem ok_X1_perhapsState_j49 {Q : Option AV → AH → Prop}  {σ : SS}  {s0 : Int32} {o} {z1 : Option AV}   (hE : X1_perhapsState_j49  σ  s0 = some o) (hK : Q (some (vi o.1)) (hp o.2)) : Ws 8 mi_X1_perhapsState Q 49 [some (vr 1 0), z1] [vi s0] σ := by
  unfold X1_perhapsState_j49 at hE
  refine Wp.istore_n dc_X1_perhapsState_49 (by decide) ?_
  refine Wp.iload_n dc_X1_perhapsState_50 rfl ?_
  refine Wp.if_eq (tgt := 61) dc_X1_perhapsState_51 (by decide) (fun hc51 => ?_) (fun hc51 => ?_)
  · rw [if_pos hc51] at hE
    refine Wp.iload_n dc_X1_perhapsState_61 rfl ?_
    cases hE
    exact Wp.ireturn dc_X1_perhapsState_62 rfl rfl (Nat.le_refl _) (Nat.le_refl _) hK
  · rw [if_neg hc51] at hE
    refine Wp.aload_n dc_X1_perhapsState_54 rfl ?_
    refine Wp.sgetR (t := 0) dc_X1_perhapsState_55 fw_X1_9 (mO1 (by decide)) rfl ?_
    obtain ⟨σ58, h58, hE⟩ := bnd hE
    refine Wp.cV0v (ok_X5_next  h58) dc_X1_perhapsState_58 mw_X1_47 (mO4 (by decide)) (by decide) (Nat.le_of_ble_eq_true rfl) ?_
    refine Wp.iload_n dc_X1_perhapsState_61 rfl ?_
    cases hE
    exact Wp.ireturn dc_X1_perhapsState_62 rfl rfl (Nat.le_refl _) (Nat.le_refl _) hK
theorem ok_X1_perhapsState_j0 {Q : Option AV → AH → Prop}  {σ : SS}   {o} {z1 : Option AV}   (hE : X1_perhapsState_j0  σ   = some o) (hK : Q (some (vi o.1)) (hp o.2)) : Ws 8 mi_X1_perhapsState Q 0 [some (vr 1 0), z1] [] σ := by
  unfold X1_perhapsState_j0 at hE
  refine Wp.aload_n dc_X1_perhapsState_0 rfl ?_
  refine Wp.sgetR (t := 0) dc_X1_perhapsState_1 fw_X1_9 (mO1 (by decide)) rfl ?_
  refine Wp.bipush dc_X1_perhapsState_4 bp_8 ?_
  obtain ⟨v6, h6, hE⟩ := bnd hE
  refine Wp.cV1i (ok_X5_wordIs  h6) dc_X1_perhapsState_6 mw_X1_26 (mO4 (by decide)) (by decide) (Nat.le_of_ble_eq_true rfl) ?_
  refine Wp.if_eq (tgt := 16) dc_X1_perhapsState_9 (by decide) (fun hc9 => ?_) (fun hc9 => ?_)
  · rw [if_pos hc9] at hE
    refine Wp.aload_n dc_X1_perhapsState_16 rfl ?_
    refine Wp.sgetR (t := 0) dc_X1_perhapsState_17 fw_X1_9 (mO1 (by decide)) rfl ?_
    refine Wp.bipush dc_X1_perhapsState_20 bp_9 ?_
    obtain ⟨v22, h22, hE⟩ := bnd hE
    refine Wp.cV1i (ok_X5_wordIs  h22) dc_X1_perhapsState_22 mw_X1_26 (mO4 (by decide)) (by decide) (Nat.le_of_ble_eq_true rfl) ?_
    refine Wp.if_eq (tgt := 32) dc_X1_perhapsState_25 (by decide) (fun hc25 => ?_) (fun hc25 => ?_)
    · rw [if_pos hc25] at hE
      refine Wp.aload_n dc_X1_perhapsState_32 rfl ?_
      refine Wp.sgetR (t := 0) dc_X1_perhapsState_33 fw_X1_9 (mO1 (by decide)) rfl ?_
      refine Wp.bipush dc_X1_perhapsState_36 bp_10 ?_
      obtain ⟨v38, h38, hE⟩ := bnd hE
      refine Wp.cV1i (ok_X5_wordIs  h38) dc_X1_perhapsState_38 mw_X1_26 (mO4 (by decide)) (by decide) (Nat.le_of_ble_eq_true rfl) ?_
      refine Wp.if_eq (tgt := 48) dc_X1_perhapsState_41 (by decide) (fun hc41 => ?_) (fun hc41 => ?_)
      · rw [if_pos hc41] at hE
        refine Wp.iconst dc_X1_perhapsState_48 ic_0 ?_
        exact ok_X1_perhapsState_j49   hE hK
      · rw [if_neg hc41] at hE
        refine Wp.iconst dc_X1_perhapsState_44 ic_3 ?_
        refine Wp.goto (tgt := 49) dc_X1_perhapsState_45 (by decide) ?_
        exact ok_X1_perhapsState_j49   hE hK
    · rw [if_neg hc25] at hE
      refine Wp.iconst dc_X1_perhapsState_28 ic_2 ?_
      refine Wp.goto (tgt := 49) dc_X1_perhapsState_29 (by decide) ?_
      exact ok_X1_perhapsState_j49   hE hK
  · rw [if_neg hc9] at hE
    refine Wp.iconst dc_X1_perhapsState_12 ic_1 ?_
    refine Wp.goto (tgt := 49) dc_X1_perhapsState_13 (by decide) ?_
    exact ok_X1_perhapsState_j49   hE hK
theorem ok_X1_perhapsState  {σ : SS}   {o}   (hE : X1_perhapsState  σ   = some o) : Runs 8 0 0 mi_X1_perhapsState [vr 1 0] (hp σ) (fun v h => v = some (vi o.1) ∧ h = hp o.2) := by
  refine Runs.of pn_X1 (Nat.le_of_ble_eq_true rfl) ?_
  exact ok_X1_perhapsState_j0   hE ⟨rfl, rfl⟩
theorem ok_X1_crossPart_j0 {Q : Option AV → AH → Prop}  {σ : SS} {r1 : Nat}  {o} {z2 z3 : Option AV}  (hr1 : r1 < 5) (hE : X1_crossPart_j0  σ r1  = some o) (hK : Q (some (vi o.1)) (hp o.2)) : Ws 9 mi_X1_crossPart Q 0 [some (vr 1 0), some (vr 0 r1), z2, z3] [] σ := by
  unfold X1_crossPart_j0 at hE
  refine Wp.aload_n dc_X1_crossPart_0 rfl ?_
  obtain ⟨v1, h1, hE⟩ := bnd hE
  refine Wp.cV0i (ok_X0_isFull (by omega) h1) dc_X1_crossPart_1 mw_X1_90 (mO0 (by omega)) (by decide) (Nat.le_of_ble_eq_true rfl) ?_
  refine Wp.if_eq (tgt := 17) dc_X1_crossPart_4 (by decide) (fun hc4 => ?_) (fun hc4 => ?_)
  · rw [if_pos hc4] at hE
    refine Wp.aload_n dc_X1_crossPart_17 rfl ?_
    refine Wp.sgetR (t := 0) dc_X1_crossPart_18 fw_X1_9 (mO1 (by decide)) rfl ?_
    obtain ⟨σ21, h21, hE⟩ := bnd hE
    refine Wp.cV0v (ok_X5_next  h21) dc_X1_crossPart_21 mw_X1_47 (mO4 (by decide)) (by decide) (Nat.le_of_ble_eq_true rfl) ?_
    refine Wp.aload_n dc_X1_crossPart_24 rfl ?_
    refine Wp.aload_n dc_X1_crossPart_25 rfl ?_
    refine Wp.iconst dc_X1_crossPart_26 ic_m1 ?_
    obtain ⟨p27, h27, hE⟩ := bnd hE
    refine Wp.cV2i (ok_X1_crossable (by omega) h27) dc_X1_crossPart_27 mw_X1_93 (mO1 (by decide)) (by decide) (Nat.le_of_ble_eq_true rfl) ?_
    refine Wp.istore_n dc_X1_crossPart_30 (by decide) ?_
    refine Wp.iload_n dc_X1_crossPart_31 rfl ?_
    refine Wp.iconst dc_X1_crossPart_32 ic_m1 ?_
    refine Wp.icmp_ne (tgt := 38) dc_X1_crossPart_33 (by decide) (fun hc33 => ?_) (fun hc33 => ?_)
    · rw [if_neg hc33] at hE
      refine Wp.aload_n dc_X1_crossPart_38 rfl ?_
      refine Wp.aload_n dc_X1_crossPart_39 rfl ?_
      refine Wp.iload_n dc_X1_crossPart_40 rfl ?_
      obtain ⟨p41, h41, hE⟩ := bnd hE
      refine Wp.cV2i (ok_X1_crossable (by omega) h41) dc_X1_crossPart_41 mw_X1_93 (mO1 (by decide)) (by decide) (Nat.le_of_ble_eq_true rfl) ?_
      refine Wp.istore_n dc_X1_crossPart_44 (by decide) ?_
      refine Wp.iload_n dc_X1_crossPart_45 rfl ?_
      refine Wp.iconst dc_X1_crossPart_46 ic_m1 ?_
      refine Wp.icmp_ne (tgt := 52) dc_X1_crossPart_47 (by decide) (fun hc47 => ?_) (fun hc47 => ?_)
      · rw [if_neg hc47] at hE
        refine Wp.aload_n dc_X1_crossPart_52 rfl ?_
        refine Wp.iload_n dc_X1_crossPart_53 rfl ?_
        refine Wp.iload_n dc_X1_crossPart_54 rfl ?_
        refine Wp.aload_n dc_X1_crossPart_55 rfl ?_
        obtain ⟨p56, h56, hE⟩ := bnd hE
        refine Wp.cV0i (ok_X1_perhapsState  h56) dc_X1_crossPart_56 mw_X1_97 (mO1 (by decide)) (by decide) (Nat.le_of_ble_eq_true rfl) ?_
        obtain ⟨p59, h59, hE⟩ := bnd hE
        refine Wp.cV3i (ok_X0_addCrossing (by omega) h59) dc_X1_crossPart_59 mw_X1_100 (mO0 (by omega)) (by decide) (Nat.le_of_ble_eq_true rfl) ?_
        refine Wp.pop dc_X1_crossPart_62 rfl ?_
        refine Wp.aload_n dc_X1_crossPart_63 rfl ?_
        refine Wp.sgetR (t := 0) dc_X1_crossPart_64 fw_X1_9 (mO1 (by decide)) rfl ?_
        refine Wp.bipush dc_X1_crossPart_67 bp_59 ?_
        obtain ⟨p69, h69, hE⟩ := bnd hE
        refine Wp.cV1i (ok_X5_passSign  h69) dc_X1_crossPart_69 mw_X1_75 (mO4 (by decide)) (by decide) (Nat.le_of_ble_eq_true rfl) ?_
        obtain ⟨b72, h72, hE⟩ := bnd hE
        obtain ⟨e_72, hb72⟩ := zb_some h72
        skip
        cases hE
        exact Wp.ireturn dc_X1_crossPart_72 rfl hb72.1 (Nat.le_refl _) (Nat.le_refl _) hK
      · rw [if_pos hc47] at hE
        refine Wp.iconst dc_X1_crossPart_50 ic_0 ?_
        cases hE
        exact Wp.ireturn dc_X1_crossPart_51 rfl Nr.z0.1 (Nat.le_refl _) (Nat.le_refl _) hK
    · rw [if_pos hc33] at hE
      refine Wp.iconst dc_X1_crossPart_36 ic_0 ?_
      cases hE
      exact Wp.ireturn dc_X1_crossPart_37 rfl Nr.z0.1 (Nat.le_refl _) (Nat.le_refl _) hK
  · rw [if_neg hc4] at hE
    refine Wp.aload_n dc_X1_crossPart_7 rfl ?_
    refine Wp.sgetR (t := 0) dc_X1_crossPart_8 fw_X1_9 (mO1 (by decide)) rfl ?_
    refine Wp.bipush dc_X1_crossPart_11 bp_6 ?_
    obtain ⟨p13, h13, hE⟩ := bnd hE
    refine Wp.cV1i (ok_X5_fail  h13) dc_X1_crossPart_13 mw_X1_40 (mO4 (by decide)) (by decide) (Nat.le_of_ble_eq_true rfl) ?_
    obtain ⟨b16, h16, hE⟩ := bnd hE
    obtain ⟨e_16, hb16⟩ := zb_some h16
    skip
    cases hE
    exact Wp.ireturn dc_X1_crossPart_16 rfl hb16.1 (Nat.le_refl _) (Nat.le_refl _) hK
theorem ok_X1_crossPart  {σ : SS} {r1 : Nat}  {o}  (hr1 : r1 < 5) (hE : X1_crossPart  σ r1  = some o) : Runs 9 0 0 mi_X1_crossPart [vr 1 0, vr 0 r1] (hp σ) (fun v h => v = some (vi o.1) ∧ h = hp o.2) := by
  refine Runs.of pn_X1 (Nat.le_of_ble_eq_true rfl) ?_
  exact ok_X1_crossPart_j0  hr1 hE ⟨rfl, rfl⟩
theorem ok_X1_lookLead_j0 {Q : Option AV → AH → Prop}  {σ : SS} {r1 : Nat} {x2 : Int32} {o} {z3 : Option AV}  (hr1 : r1 < 5) (hE : X1_lookLead_j0  σ r1 x2 = some o) (hK : Q (some (vi o.1)) (hp o.2)) : Ws 8 mi_X1_lookLead Q 0 [some (vr 1 0), some (vr 0 r1), some (vi x2), z3] [] σ := by
  unfold X1_lookLead_j0 at hE
  refine Wp.aload_n dc_X1_lookLead_0 rfl ?_
  refine Wp.aload_n dc_X1_lookLead_1 rfl ?_
  obtain ⟨p2, h2, hE⟩ := bnd hE
  refine Wp.cV1i (ok_X1_toldNameStands (by omega) h2) dc_X1_lookLead_2 mw_X1_104 (mO1 (by decide)) (by decide) (Nat.le_of_ble_eq_true rfl) ?_
  refine Wp.if_ne (tgt := 10) dc_X1_lookLead_5 (by decide) (fun hc5 => ?_) (fun hc5 => ?_)
  · rw [if_neg hc5] at hE
    refine Wp.aload_n dc_X1_lookLead_10 rfl ?_
    refine Wp.aload_n dc_X1_lookLead_11 rfl ?_
    refine Wp.sgetR (t := 0) dc_X1_lookLead_12 fw_X1_9 (mO1 (by decide)) rfl ?_
    obtain ⟨v15, h15, hE⟩ := bnd hE
    refine Wp.cV0l (ok_X5_name  h15) dc_X1_lookLead_15 mw_X1_53 (mO4 (by decide)) (by decide) (Nat.le_of_ble_eq_true rfl) ?_
    obtain ⟨v18, h18, hE⟩ := bnd hE
    refine Wp.cV1i (ok_X0_leadNamed (by omega) h18) dc_X1_lookLead_18 mw_X1_107 (mO0 (by omega)) (by decide) (Nat.le_of_ble_eq_true rfl) ?_
    refine Wp.istore_n dc_X1_lookLead_21 (by decide) ?_
    refine Wp.aload_n dc_X1_lookLead_22 rfl ?_
    refine Wp.iload_n dc_X1_lookLead_23 rfl ?_
    obtain ⟨v24, h24, hE⟩ := bnd hE
    refine Wp.cV1i (ok_X0_lookSet (by omega) h24) dc_X1_lookLead_24 mw_X1_125 (mO0 (by omega)) (by decide) (Nat.le_of_ble_eq_true rfl) ?_
    refine Wp.iload_n dc_X1_lookLead_27 rfl ?_
    refine Wp.ishr dc_X1_lookLead_28 ?_
    refine Wp.iconst dc_X1_lookLead_29 ic_1 ?_
    refine Wp.iand dc_X1_lookLead_30 ?_
    refine Wp.iconst dc_X1_lookLead_31 ic_1 ?_
    refine Wp.icmp_ne (tgt := 44) dc_X1_lookLead_32 (by decide) (fun hc32 => ?_) (fun hc32 => ?_)
    · rw [if_neg hc32] at hE
      refine Wp.aload_n dc_X1_lookLead_44 rfl ?_
      refine Wp.iload_n dc_X1_lookLead_45 rfl ?_
      refine Wp.iload_n dc_X1_lookLead_46 rfl ?_
      obtain ⟨σ47, h47, hE⟩ := bnd hE
      refine Wp.cV2v (ok_X0_addToLook (by omega) h47) dc_X1_lookLead_47 mw_X1_129 (mO0 (by omega)) (by decide) (Nat.le_of_ble_eq_true rfl) ?_
      refine Wp.aload_n dc_X1_lookLead_50 rfl ?_
      refine Wp.sgetR (t := 0) dc_X1_lookLead_51 fw_X1_9 (mO1 (by decide)) rfl ?_
      obtain ⟨σ54, h54, hE⟩ := bnd hE
      refine Wp.cV0v (ok_X5_next  h54) dc_X1_lookLead_54 mw_X1_47 (mO4 (by decide)) (by decide) (Nat.le_of_ble_eq_true rfl) ?_
      refine Wp.iconst dc_X1_lookLead_57 ic_1 ?_
      cases hE
      exact Wp.ireturn dc_X1_lookLead_58 rfl Nr.z1.1 (Nat.le_refl _) (Nat.le_refl _) hK
    · rw [if_pos hc32] at hE
      refine Wp.aload_n dc_X1_lookLead_35 rfl ?_
      refine Wp.sgetR (t := 0) dc_X1_lookLead_36 fw_X1_9 (mO1 (by decide)) rfl ?_
      refine Wp.iconst dc_X1_lookLead_39 ic_5 ?_
      obtain ⟨p40, h40, hE⟩ := bnd hE
      refine Wp.cV1i (ok_X5_fail  h40) dc_X1_lookLead_40 mw_X1_40 (mO4 (by decide)) (by decide) (Nat.le_of_ble_eq_true rfl) ?_
      obtain ⟨b43, h43, hE⟩ := bnd hE
      obtain ⟨e_43, hb43⟩ := zb_some h43
      skip
      cases hE
      exact Wp.ireturn dc_X1_lookLead_43 rfl hb43.1 (Nat.le_refl _) (Nat.le_refl _) hK
  · rw [if_pos hc5] at hE
    refine Wp.iconst dc_X1_lookLead_8 ic_0 ?_
    cases hE
    exact Wp.ireturn dc_X1_lookLead_9 rfl Nr.z0.1 (Nat.le_refl _) (Nat.le_refl _) hK
theorem ok_X1_lookLead  {σ : SS} {r1 : Nat} {x2 : Int32} {o}  (hr1 : r1 < 5) (hE : X1_lookLead  σ r1 x2 = some o) : Runs 8 0 0 mi_X1_lookLead [vr 1 0, vr 0 r1, vi x2] (hp σ) (fun v h => v = some (vi o.1) ∧ h = hp o.2) := by
  refine Runs.of pn_X1 (Nat.le_of_ble_eq_true rfl) ?_
  exact ok_X1_lookLead_j0  hr1 hE ⟨rfl, rfl⟩
def X1_lookPart_P64 (Q : Option AV → AH → Prop)  (r1 : Nat) (x2 : Int32) (ss : Int32 × Int32 × SS) : Prop := Ws 9 mi_X1_lookPart Q 64 [some (vr 1 0), some (vr 0 r1), some (vi x2), some (vi ss.1), some (vi ss.2.1)] [] ss.2.2
def X1_lookPart_R64 (Q : Option AV → AH → Prop)  (r1 : Nat) (x2 : Int32) (tt : Int32 × SS) : Prop := ∀ z1 z2 z4 : Option AV, Ws 9 mi_X1_lookPart Q 100 [some (vr 1 0), z1, z2, some (vi tt.1), z4] [] tt.2
theorem ok_X1_lookPart_l64c {Q : Option AV → AH → Prop}  {σ : SS} {r1 : Nat} {x2 : Int32} {x3 : Int32} {x4 : Int32} {o}   (hr1 : r1 < 5) (hE : X1_lookPart_l64c  σ r1 x2 x3 x4 = some o) (hS : ∀ ss, o = Sum.inl ss → (X1_lookPart_P64  Q  r1 x2) ss) (hT : ∀ tt, o = Sum.inr tt → (X1_lookPart_R64  Q  r1 x2) tt) : Ws 9 mi_X1_lookPart Q 64 [some (vr 1 0), some (vr 0 r1), some (vi x2), some (vi x3), some (vi x4)] [] σ := by
  unfold X1_lookPart_l64c at hE
  refine Wp.iload dc_X1_lookPart_64 rfl ?_
  refine Wp.bipush dc_X1_lookPart_66 bp_8 ?_
  refine Wp.icmp_ge (tgt := 100) dc_X1_lookPart_68 (by decide) (fun hc68 => ?_) (fun hc68 => ?_)
  · rw [if_pos hc68] at hE
    cases hE
    exact hT _ rfl _ _ _
  · rw [if_neg hc68] at hE
    refine Wp.iload_n dc_X1_lookPart_71 rfl ?_
    refine Wp.if_eq (tgt := 100) dc_X1_lookPart_72 (by decide) (fun hc72 => ?_) (fun hc72 => ?_)
    · rw [if_pos hc72] at hE
      cases hE
      exact hT _ rfl _ _ _
    · rw [if_neg hc72] at hE
      refine Wp.aload_n dc_X1_lookPart_75 rfl ?_
      refine Wp.sgetR (t := 0) dc_X1_lookPart_76 fw_X1_9 (mO1 (by decide)) rfl ?_
      refine Wp.bipush dc_X1_lookPart_79 bp_59 ?_
      obtain ⟨v81, h81, hE⟩ := bnd hE
      refine Wp.cV1i (ok_X5_signIs  h81) dc_X1_lookPart_81 mw_X1_122 (mO4 (by decide)) (by decide) (Nat.le_of_ble_eq_true rfl) ?_
      refine Wp.if_ne (tgt := 100) dc_X1_lookPart_84 (by decide) (fun hc84 => ?_) (fun hc84 => ?_)
      · rw [if_neg hc84] at hE
        cases hE
        exact hT _ rfl _ _ _
      · rw [if_pos hc84] at hE
        refine Wp.aload_n dc_X1_lookPart_87 rfl ?_
        refine Wp.aload_n dc_X1_lookPart_88 rfl ?_
        refine Wp.iload_n dc_X1_lookPart_89 rfl ?_
        obtain ⟨p90, h90, hE⟩ := bnd hE
        refine Wp.cV2i (ok_X1_lookLead (by omega) h90) dc_X1_lookPart_90 mw_X1_119 (mO1 (by decide)) (by decide) (Nat.le_of_ble_eq_true rfl) ?_
        refine Wp.istore_n dc_X1_lookPart_93 (by decide) ?_
        obtain ⟨x4_94, e_94, hE⟩ := bnS hE
        refine Wp.iinc dc_X1_lookPart_94 rfl ((ii ic_1).trans e_94) (by decide) ?_
        refine Wp.goto (tgt := 64) dc_X1_lookPart_97 (by decide) ?_
        cases hE
        exact hS _ rfl
theorem ok_X1_lookPart_j100 {Q : Option AV → AH → Prop}  {σ : SS} {r1 : Nat} {x3 : Int32} {o} {z1 z2 z4 : Option AV}  (hr1 : r1 < 5) (hE : X1_lookPart_j100  σ r1 x3 = some o) (hK : Q (some (vi o.1)) (hp o.2)) : Ws 9 mi_X1_lookPart Q 100 [some (vr 1 0), z1, z2, some (vi x3), z4] [] σ := by
  unfold X1_lookPart_j100 at hE
  refine Wp.iload_n dc_X1_lookPart_100 rfl ?_
  refine Wp.if_eq (tgt := 120) dc_X1_lookPart_101 (by decide) (fun hc101 => ?_) (fun hc101 => ?_)
  · rw [if_pos hc101] at hE
    refine Wp.iconst dc_X1_lookPart_120 ic_0 ?_
    cases hE
    exact Wp.ireturn dc_X1_lookPart_121 rfl Nr.z0.1 (Nat.le_refl _) (Nat.le_refl _) hK
  · rw [if_neg hc101] at hE
    refine Wp.aload_n dc_X1_lookPart_104 rfl ?_
    refine Wp.sgetR (t := 0) dc_X1_lookPart_105 fw_X1_9 (mO1 (by decide)) rfl ?_
    refine Wp.bipush dc_X1_lookPart_108 bp_59 ?_
    obtain ⟨p110, h110, hE⟩ := bnd hE
    refine Wp.cV1i (ok_X5_passSign  h110) dc_X1_lookPart_110 mw_X1_75 (mO4 (by decide)) (by decide) (Nat.le_of_ble_eq_true rfl) ?_
    refine Wp.if_eq (tgt := 120) dc_X1_lookPart_113 (by decide) (fun hc113 => ?_) (fun hc113 => ?_)
    · rw [if_pos hc113] at hE
      refine Wp.iconst dc_X1_lookPart_120 ic_0 ?_
      cases hE
      exact Wp.ireturn dc_X1_lookPart_121 rfl Nr.z0.1 (Nat.le_refl _) (Nat.le_refl _) hK
    · rw [if_neg hc113] at hE
      refine Wp.iconst dc_X1_lookPart_116 ic_1 ?_
      refine Wp.goto (tgt := 121) dc_X1_lookPart_117 (by decide) ?_
      cases hE
      exact Wp.ireturn dc_X1_lookPart_121 rfl Nr.z1.1 (Nat.le_refl _) (Nat.le_refl _) hK
theorem ok_X1_lookPart_l64 {Q : Option AV → AH → Prop}  {σ : SS} {r1 : Nat} {x2 : Int32} {x3 : Int32} {x4 : Int32} {o}   (hr1 : r1 < 5) (hE : X1_lookPart_l64  σ r1 x2 x3 x4 = some o) (hK : Q (some (vi o.1)) (hp o.2)) : Ws 9 mi_X1_lookPart Q 64 [some (vr 1 0), some (vr 0 r1), some (vi x2), some (vi x3), some (vi x4)] [] σ := by
  unfold X1_lookPart_l64 at hE
  obtain ⟨t64, h1, hE⟩ := bnd hE
  refine iter_ok (P := (X1_lookPart_P64  Q  r1 x2)) (R := (X1_lookPart_R64  Q  r1 x2)) (fun ss o h2 hS hT => ?_) NF _ _ h1 ?_
  · skip
    exact ok_X1_lookPart_l64c  hr1 h2 hS hT
  · intro z1 z2 z4
    show Ws 9 mi_X1_lookPart Q 100 [some (vr 1 0), z1, z2, some (vi t64.1), z4] [] t64.2
    exact ok_X1_lookPart_j100  hr1 hE hK
theorem ok_X1_lookPart_j0 {Q : Option AV → AH → Prop}  {σ : SS} {r1 : Nat}  {o} {z2 z3 z4 : Option AV}  (hr1 : r1 < 5) (hE : X1_lookPart_j0  σ r1  = some o) (hK : Q (some (vi o.1)) (hp o.2)) : Ws 9 mi_X1_lookPart Q 0 [some (vr 1 0), some (vr 0 r1), z2, z3, z4] [] σ := by
  unfold X1_lookPart_j0 at hE
  refine Wp.aload_n dc_X1_lookPart_0 rfl ?_
  obtain ⟨v1, h1, hE⟩ := bnd hE
  refine Wp.cV0i (ok_X0_lookCount (by omega) h1) dc_X1_lookPart_1 mw_X1_113 (mO0 (by omega)) (by decide) (Nat.le_of_ble_eq_true rfl) ?_
  refine Wp.iconst dc_X1_lookPart_4 ic_3 ?_
  refine Wp.icmp_lt (tgt := 18) dc_X1_lookPart_5 (by decide) (fun hc5 => ?_) (fun hc5 => ?_)
  · rw [if_pos hc5] at hE
    refine Wp.aload_n dc_X1_lookPart_18 rfl ?_
    refine Wp.sgetR (t := 0) dc_X1_lookPart_19 fw_X1_9 (mO1 (by decide)) rfl ?_
    obtain ⟨σ22, h22, hE⟩ := bnd hE
    refine Wp.cV0v (ok_X5_next  h22) dc_X1_lookPart_22 mw_X1_47 (mO4 (by decide)) (by decide) (Nat.le_of_ble_eq_true rfl) ?_
    refine Wp.aload_n dc_X1_lookPart_25 rfl ?_
    refine Wp.aload_n dc_X1_lookPart_26 rfl ?_
    obtain ⟨p27, h27, hE⟩ := bnd hE
    refine Wp.cV1i (ok_X1_newNameStands (by omega) h27) dc_X1_lookPart_27 mw_X1_50 (mO1 (by decide)) (by decide) (Nat.le_of_ble_eq_true rfl) ?_
    refine Wp.if_ne (tgt := 35) dc_X1_lookPart_30 (by decide) (fun hc30 => ?_) (fun hc30 => ?_)
    · rw [if_neg hc30] at hE
      refine Wp.aload_n dc_X1_lookPart_35 rfl ?_
      refine Wp.aload_n dc_X1_lookPart_36 rfl ?_
      refine Wp.sgetR (t := 0) dc_X1_lookPart_37 fw_X1_9 (mO1 (by decide)) rfl ?_
      obtain ⟨v40, h40, hE⟩ := bnd hE
      refine Wp.cV0l (ok_X5_name  h40) dc_X1_lookPart_40 mw_X1_53 (mO4 (by decide)) (by decide) (Nat.le_of_ble_eq_true rfl) ?_
      obtain ⟨p43, h43, hE⟩ := bnd hE
      refine Wp.cV1i (ok_X0_addLook (by omega) h43) dc_X1_lookPart_43 mw_X1_116 (mO0 (by omega)) (by decide) (Nat.le_of_ble_eq_true rfl) ?_
      refine Wp.istore_n dc_X1_lookPart_46 (by decide) ?_
      refine Wp.aload_n dc_X1_lookPart_47 rfl ?_
      refine Wp.sgetR (t := 0) dc_X1_lookPart_48 fw_X1_9 (mO1 (by decide)) rfl ?_
      obtain ⟨σ51, h51, hE⟩ := bnd hE
      refine Wp.cV0v (ok_X5_next  h51) dc_X1_lookPart_51 mw_X1_47 (mO4 (by decide)) (by decide) (Nat.le_of_ble_eq_true rfl) ?_
      refine Wp.aload_n dc_X1_lookPart_54 rfl ?_
      refine Wp.aload_n dc_X1_lookPart_55 rfl ?_
      refine Wp.iload_n dc_X1_lookPart_56 rfl ?_
      obtain ⟨p57, h57, hE⟩ := bnd hE
      refine Wp.cV2i (ok_X1_lookLead (by omega) h57) dc_X1_lookPart_57 mw_X1_119 (mO1 (by decide)) (by decide) (Nat.le_of_ble_eq_true rfl) ?_
      refine Wp.istore_n dc_X1_lookPart_60 (by decide) ?_
      refine Wp.iconst dc_X1_lookPart_61 ic_0 ?_
      refine Wp.istore dc_X1_lookPart_62 (by decide) ?_
      exact ok_X1_lookPart_l64  hr1 hE hK
    · rw [if_pos hc30] at hE
      refine Wp.iconst dc_X1_lookPart_33 ic_0 ?_
      cases hE
      exact Wp.ireturn dc_X1_lookPart_34 rfl Nr.z0.1 (Nat.le_refl _) (Nat.le_refl _) hK
  · rw [if_neg hc5] at hE
    refine Wp.aload_n dc_X1_lookPart_8 rfl ?_
    refine Wp.sgetR (t := 0) dc_X1_lookPart_9 fw_X1_9 (mO1 (by decide)) rfl ?_
    refine Wp.bipush dc_X1_lookPart_12 bp_6 ?_
    obtain ⟨p14, h14, hE⟩ := bnd hE
    refine Wp.cV1i (ok_X5_fail  h14) dc_X1_lookPart_14 mw_X1_40 (mO4 (by decide)) (by decide) (Nat.le_of_ble_eq_true rfl) ?_
    obtain ⟨b17, h17, hE⟩ := bnd hE
    obtain ⟨e_17, hb17⟩ := zb_some h17
    skip
    cases hE
    exact Wp.ireturn dc_X1_lookPart_17 rfl hb17.1 (Nat.le_refl _) (Nat.le_refl _) hK
theorem ok_X1_lookPart  {σ : SS} {r1 : Nat}  {o}  (hr1 : r1 < 5) (hE : X1_lookPart  σ r1  = some o) : Runs 9 0 0 mi_X1_lookPart [vr 1 0, vr 0 r1] (hp σ) (fun v h => v = some (vi o.1) ∧ h = hp o.2) := by
  refine Runs.of pn_X1 (Nat.le_of_ble_eq_true rfl) ?_
  exact ok_X1_lookPart_j0  hr1 hE ⟨rfl, rfl⟩
def X1_isGood_P8 (Q : Option AV → AH → Prop)  (r1 : Nat)  (ss : Int32 × Int32 × SS) : Prop := Ws 11 mi_X1_isGood Q 8 [some (vr 1 0), some (vr 0 r1), some (vi ss.1), some (vi ss.2.1)] [] ss.2.2
def X1_isGood_R8 (Q : Option AV → AH → Prop)  (r1 : Nat)  (tt : Int32 × SS) : Prop := ∀ z0 z1 z3 : Option AV, Ws 11 mi_X1_isGood Q 103 [z0, z1, some (vi tt.1), z3] [] tt.2
theorem ok_X1_isGood_j96 {Q : Option AV → AH → Prop}  {σ : SS} {r1 : Nat} {x3 : Int32} {s0 : Int32} {o} {z2 : Option AV}  (hr1 : r1 < 5) (hE : X1_isGood_j96  σ r1 x3 s0 = some o) (hS : ∀ ss, o = Sum.inl ss → (X1_isGood_P8  Q  r1 ) ss) (hT : ∀ tt, o = Sum.inr tt → (X1_isGood_R8  Q  r1 ) tt) : Ws 11 mi_X1_isGood Q 96 [some (vr 1 0), some (vr 0 r1), z2, some (vi x3)] [vi s0] σ := by
  unfold X1_isGood_j96 at hE
  refine Wp.istore_n dc_X1_isGood_96 (by decide) ?_
  obtain ⟨x3_97, e_97, hE⟩ := bnS hE
  refine Wp.iinc dc_X1_isGood_97 rfl ((ii ic_1).trans e_97) (by decide) ?_
  refine Wp.goto (tgt := 8) dc_X1_isGood_100 (by decide) ?_
  cases hE
  exact hS _ rfl
theorem ok_X1_isGood_l8c {Q : Option AV → AH → Prop}  {σ : SS} {r1 : Nat}  {x2 : Int32} {x3 : Int32} {o}   (hr1 : r1 < 5) (hE : X1_isGood_l8c  σ r1  x2 x3 = some o) (hS : ∀ ss, o = Sum.inl ss → (X1_isGood_P8  Q  r1 ) ss) (hT : ∀ tt, o = Sum.inr tt → (X1_isGood_R8  Q  r1 ) tt) : Ws 11 mi_X1_isGood Q 8 [some (vr 1 0), some (vr 0 r1), some (vi x2), some (vi x3)] [] σ := by
  unfold X1_isGood_l8c at hE
  refine Wp.iload_n dc_X1_isGood_8 rfl ?_
  refine Wp.sipush dc_X1_isGood_9 sp_900 ?_
  refine Wp.icmp_gt (tgt := 103) dc_X1_isGood_12 (by decide) (fun hc12 => ?_) (fun hc12 => ?_)
  · rw [if_pos hc12] at hE
    cases hE
    exact hT _ rfl _ _ _
  · rw [if_neg hc12] at hE
    refine Wp.iload_n dc_X1_isGood_15 rfl ?_
    refine Wp.if_eq (tgt := 103) dc_X1_isGood_16 (by decide) (fun hc16 => ?_) (fun hc16 => ?_)
    · rw [if_pos hc16] at hE
      cases hE
      exact hT _ rfl _ _ _
    · rw [if_neg hc16] at hE
      refine Wp.aload_n dc_X1_isGood_19 rfl ?_
      refine Wp.sgetR (t := 0) dc_X1_isGood_20 fw_X1_9 (mO1 (by decide)) rfl ?_
      obtain ⟨v23, h23, hE⟩ := bnd hE
      refine Wp.cV0i (ok_X5_atEnd  h23) dc_X1_isGood_23 mw_X1_22 (mO4 (by decide)) (by decide) (Nat.le_of_ble_eq_true rfl) ?_
      refine Wp.if_ne (tgt := 103) dc_X1_isGood_26 (by decide) (fun hc26 => ?_) (fun hc26 => ?_)
      · rw [if_neg hc26] at hE
        cases hE
        exact hT _ rfl _ _ _
      · rw [if_pos hc26] at hE
        refine Wp.aload_n dc_X1_isGood_29 rfl ?_
        refine Wp.sgetR (t := 0) dc_X1_isGood_30 fw_X1_9 (mO1 (by decide)) rfl ?_
        refine Wp.iconst dc_X1_isGood_33 ic_0 ?_
        obtain ⟨v34, h34, hE⟩ := bnd hE
        refine Wp.cV1i (ok_X5_wordIs  h34) dc_X1_isGood_34 mw_X1_26 (mO4 (by decide)) (by decide) (Nat.le_of_ble_eq_true rfl) ?_
        refine Wp.if_eq (tgt := 48) dc_X1_isGood_37 (by decide) (fun hc37 => ?_) (fun hc37 => ?_)
        · rw [if_pos hc37] at hE
          refine Wp.aload_n dc_X1_isGood_48 rfl ?_
          refine Wp.sgetR (t := 0) dc_X1_isGood_49 fw_X1_9 (mO1 (by decide)) rfl ?_
          refine Wp.bipush dc_X1_isGood_52 bp_7 ?_
          obtain ⟨v54, h54, hE⟩ := bnd hE
          refine Wp.cV1i (ok_X5_wordIs  h54) dc_X1_isGood_54 mw_X1_26 (mO4 (by decide)) (by decide) (Nat.le_of_ble_eq_true rfl) ?_
          refine Wp.if_eq (tgt := 68) dc_X1_isGood_57 (by decide) (fun hc57 => ?_) (fun hc57 => ?_)
          · rw [if_pos hc57] at hE
            refine Wp.aload_n dc_X1_isGood_68 rfl ?_
            refine Wp.sgetR (t := 0) dc_X1_isGood_69 fw_X1_9 (mO1 (by decide)) rfl ?_
            refine Wp.bipush dc_X1_isGood_72 bp_11 ?_
            obtain ⟨v74, h74, hE⟩ := bnd hE
            refine Wp.cV1i (ok_X5_wordIs  h74) dc_X1_isGood_74 mw_X1_26 (mO4 (by decide)) (by decide) (Nat.le_of_ble_eq_true rfl) ?_
            refine Wp.if_eq (tgt := 88) dc_X1_isGood_77 (by decide) (fun hc77 => ?_) (fun hc77 => ?_)
            · rw [if_pos hc77] at hE
              refine Wp.aload_n dc_X1_isGood_88 rfl ?_
              refine Wp.sgetR (t := 0) dc_X1_isGood_89 fw_X1_9 (mO1 (by decide)) rfl ?_
              refine Wp.iconst dc_X1_isGood_92 ic_2 ?_
              obtain ⟨p93, h93, hE⟩ := bnd hE
              refine Wp.cV1i (ok_X5_fail  h93) dc_X1_isGood_93 mw_X1_40 (mO4 (by decide)) (by decide) (Nat.le_of_ble_eq_true rfl) ?_
              exact ok_X1_isGood_j96  hr1 hE hS hT
            · rw [if_neg hc77] at hE
              refine Wp.aload_n dc_X1_isGood_80 rfl ?_
              refine Wp.aload_n dc_X1_isGood_81 rfl ?_
              obtain ⟨p82, h82, hE⟩ := bnd hE
              refine Wp.cV1i (ok_X1_lookPart (by omega) h82) dc_X1_isGood_82 mw_X1_37 (mO1 (by decide)) (by decide) (Nat.le_of_ble_eq_true rfl) ?_
              refine Wp.goto (tgt := 96) dc_X1_isGood_85 (by decide) ?_
              exact ok_X1_isGood_j96  hr1 hE hS hT
          · rw [if_neg hc57] at hE
            refine Wp.aload_n dc_X1_isGood_60 rfl ?_
            refine Wp.aload_n dc_X1_isGood_61 rfl ?_
            obtain ⟨p62, h62, hE⟩ := bnd hE
            refine Wp.cV1i (ok_X1_crossPart (by omega) h62) dc_X1_isGood_62 mw_X1_34 (mO1 (by decide)) (by decide) (Nat.le_of_ble_eq_true rfl) ?_
            refine Wp.goto (tgt := 96) dc_X1_isGood_65 (by decide) ?_
            exact ok_X1_isGood_j96  hr1 hE hS hT
        · rw [if_neg hc37] at hE
          refine Wp.aload_n dc_X1_isGood_40 rfl ?_
          refine Wp.aload_n dc_X1_isGood_41 rfl ?_
          obtain ⟨p42, h42, hE⟩ := bnd hE
          refine Wp.cV1i (ok_X1_leadPart (by omega) h42) dc_X1_isGood_42 mw_X1_30 (mO1 (by decide)) (by decide) (Nat.le_of_ble_eq_true rfl) ?_
          refine Wp.goto (tgt := 96) dc_X1_isGood_45 (by decide) ?_
          exact ok_X1_isGood_j96  hr1 hE hS hT
theorem ok_X1_isGood_l8 {Q : Option AV → AH → Prop}  {σ : SS} {r1 : Nat} {x2 : Int32} {x3 : Int32} {o}   (hr1 : r1 < 5) (hE : X1_isGood_l8  σ r1 x2 x3 = some o) (hK : Q (some (vi o.1)) (hp o.2)) : Ws 11 mi_X1_isGood Q 8 [some (vr 1 0), some (vr 0 r1), some (vi x2), some (vi x3)] [] σ := by
  unfold X1_isGood_l8 at hE
  obtain ⟨t8, h1, hE⟩ := bnd hE
  refine iter_ok (P := (X1_isGood_P8  Q  r1 )) (R := (X1_isGood_R8  Q  r1 )) (fun ss o h2 hS hT => ?_) NF _ _ h1 ?_
  · skip
    exact ok_X1_isGood_l8c  hr1 h2 hS hT
  · intro z0 z1 z3
    show Ws 11 mi_X1_isGood Q 103 [z0, z1, some (vi t8.1), z3] [] t8.2
    refine Wp.iload_n dc_X1_isGood_103 rfl ?_
    obtain ⟨b104, h104, hE⟩ := bnd hE
    obtain ⟨e_104, hb104⟩ := zb_some h104
    skip
    cases hE
    exact Wp.ireturn dc_X1_isGood_104 rfl hb104.1 (Nat.le_refl _) (Nat.le_refl _) hK
theorem ok_X1_isGood_j0 {Q : Option AV → AH → Prop}  {σ : SS} {r1 : Nat}  {o} {z2 z3 : Option AV}  (hr1 : r1 < 5) (hE : X1_isGood_j0  σ r1  = some o) (hK : Q (some (vi o.1)) (hp o.2)) : Ws 11 mi_X1_isGood Q 0 [some (vr 1 0), some (vr 0 r1), z2, z3] [] σ := by
  unfold X1_isGood_j0 at hE
  refine Wp.aload_n dc_X1_isGood_0 rfl ?_
  obtain ⟨σ1, h1, hE⟩ := bnd hE
  refine Wp.cV0v (ok_X0_clear (by omega) h1) dc_X1_isGood_1 mw_X1_15 (mO0 (by omega)) (by decide) (Nat.le_of_ble_eq_true rfl) ?_
  refine Wp.iconst dc_X1_isGood_4 ic_1 ?_
  refine Wp.istore_n dc_X1_isGood_5 (by decide) ?_
  refine Wp.iconst dc_X1_isGood_6 ic_0 ?_
  refine Wp.istore_n dc_X1_isGood_7 (by decide) ?_
  exact ok_X1_isGood_l8  hr1 hE hK
theorem ok_X1_isGood  {σ : SS} {r1 : Nat}  {o}  (hr1 : r1 < 5) (hE : X1_isGood  σ r1  = some o) : Runs 11 0 0 mi_X1_isGood [vr 1 0, vr 0 r1] (hp σ) (fun v h => v = some (vi o.1) ∧ h = hp o.2) := by
  refine Runs.of pn_X1 (Nat.le_of_ble_eq_true rfl) ?_
  exact ok_X1_isGood_j0  hr1 hE ⟨rfl, rfl⟩
theorem ok_X2_keepCounts_j0 {Q : Option AV → AH → Prop}  {σ : SS}   {o}    (hE : X2_keepCounts_j0  σ   = some o) (hK : Q none (hp o)) : Ws 1 mi_X2_keepCounts Q 0 [some (vr 2 0)] [] σ := by
  unfold X2_keepCounts_j0 at hE
  refine Wp.aload_n dc_X2_keepCounts_0 rfl ?_
  refine Wp.sgetR (t := 29) dc_X2_keepCounts_1 fw_X2_18 (mO2 (by decide)) rfl ?_
  refine Wp.aload_n dc_X2_keepCounts_4 rfl ?_
  refine Wp.sgetR (t := 28) dc_X2_keepCounts_5 fw_X2_12 (mO2 (by decide)) rfl ?_
  obtain ⟨σ8, h8, hE⟩ := bnd hE
  refine Wp.cV1v (ok_X4_takeOver (by decide) (by decide) h8) dc_X2_keepCounts_8 mw_X2_30 (mO3 (by decide)) (by decide) (Nat.le_of_ble_eq_true rfl) ?_
  refine Wp.aload_n dc_X2_keepCounts_11 rfl ?_
  refine Wp.iconst dc_X2_keepCounts_12 ic_1 ?_
  refine Wp.sputI dc_X2_keepCounts_13 fw_X2_34 (mO2 (by decide)) Nr.z1 ?_
  obtain ⟨σ13, es_13, hE⟩ := bnS hE
  rw [es_13]
  cases hE
  exact Wp.return dc_X2_keepCounts_16 rfl (Nat.le_refl _) (Nat.le_refl _) hK
theorem ok_X2_keepCounts  {σ : SS}   {o}   (hE : X2_keepCounts  σ   = some o) : Runs 1 0 0 mi_X2_keepCounts [vr 2 0] (hp σ) (fun v h => v = none ∧ h = hp o) := by
  refine Runs.of pn_X2 (Nat.le_of_ble_eq_true rfl) ?_
  exact ok_X2_keepCounts_j0   hE ⟨rfl, rfl⟩
theorem ok_X2_hasCounts_j0 {Q : Option AV → AH → Prop}  {σ : SS}   {o}    (hE : X2_hasCounts_j0  σ   = some o) (hK : Q (some (vi o)) (hp σ)) : Ws 0 mi_X2_hasCounts Q 0 [some (vr 2 0)] [] σ := by
  unfold X2_hasCounts_j0 at hE
  refine Wp.aload_n dc_X2_hasCounts_0 rfl ?_
  refine Wp.sgetI dc_X2_hasCounts_1 fw_X2_34 (mO2 (by decide)) ?_
  obtain ⟨b4, h4, hE⟩ := bnd hE
  obtain ⟨e_4, hb4⟩ := zb_some h4
  skip
  cases hE
  exact Wp.ireturn dc_X2_hasCounts_4 rfl hb4.1 (Nat.le_refl _) (Nat.le_refl _) hK
theorem ok_X2_hasCounts  {σ : SS}   {o}   (hE : X2_hasCounts  σ   = some o) : Runs 0 0 0 mi_X2_hasCounts [vr 2 0] (hp σ) (fun v h => v = some (vi o) ∧ h = hp σ) := by
  refine Runs.of pn_X2 (Nat.le_of_ble_eq_true rfl) ?_
  exact ok_X2_hasCounts_j0   hE ⟨rfl, rfl⟩
theorem ok_X2_keptCount_j0 {Q : Option AV → AH → Prop}  {σ : SS}  {x1 : Int32} {o}    (hE : X2_keptCount_j0  σ  x1 = some o) (hK : Q (some (vi o)) (hp σ)) : Ws 1 mi_X2_keptCount Q 0 [some (vr 2 0), some (vi x1)] [] σ := by
  unfold X2_keptCount_j0 at hE
  refine Wp.aload_n dc_X2_keptCount_0 rfl ?_
  refine Wp.sgetR (t := 29) dc_X2_keptCount_1 fw_X2_18 (mO2 (by decide)) rfl ?_
  refine Wp.iconst dc_X2_keptCount_4 ic_0 ?_
  refine Wp.iload_n dc_X2_keptCount_5 rfl ?_
  obtain ⟨v6, h6, hE⟩ := bnd hE
  refine Wp.cV2i (ok_X4_at (by decide) h6) dc_X2_keptCount_6 mw_X2_38 (mO3 (by decide)) (by decide) (Nat.le_of_ble_eq_true rfl) ?_
  cases hE
  exact Wp.ireturn dc_X2_keptCount_9 rfl rfl (Nat.le_refl _) (Nat.le_refl _) hK
theorem ok_X2_keptCount  {σ : SS}  {x1 : Int32} {o}   (hE : X2_keptCount  σ  x1 = some o) : Runs 1 0 0 mi_X2_keptCount [vr 2 0, vi x1] (hp σ) (fun v h => v = some (vi o) ∧ h = hp σ) := by
  refine Runs.of pn_X2 (Nat.le_of_ble_eq_true rfl) ?_
  exact ok_X2_keptCount_j0   hE ⟨rfl, rfl⟩
theorem ok_X9_lineCount_j0 {Q : Option AV → AH → Prop}  {σ : SS} {t : Nat}  {o}   (ht : t < 5) (hE : X9_lineCount_j0  σ t  = some o) (hK : Q (some (vi o)) (hp σ)) : Ws 0 mi_X9_lineCount Q 0 [some (vr 8 t)] [] σ := by
  unfold X9_lineCount_j0 at hE
  refine Wp.aload_n dc_X9_lineCount_0 rfl ?_
  refine Wp.sgetI dc_X9_lineCount_1 fw_X9_24 (mO8 (by omega)) ?_
  cases hE
  exact Wp.ireturn dc_X9_lineCount_4 rfl rfl (Nat.le_refl _) (Nat.le_refl _) hK
theorem ok_X9_lineCount  {σ : SS} {t : Nat}  {o}  (ht : t < 5) (hE : X9_lineCount  σ t  = some o) : Runs 0 0 0 mi_X9_lineCount [vr 8 t] (hp σ) (fun v h => v = some (vi o) ∧ h = hp σ) := by
  refine Runs.of pn_X9 (Nat.le_of_ble_eq_true rfl) ?_
  exact ok_X9_lineCount_j0  ht hE ⟨rfl, rfl⟩
theorem ok_X9_wordAt_j0 {Q : Option AV → AH → Prop}  {σ : SS} {t : Nat} {x1 : Int32} {o}   (ht : t < 5) (hE : X9_wordAt_j0  σ t x1 = some o) (hK : Q (some (vi o)) (hp σ)) : Ws 1 mi_X9_wordAt Q 0 [some (vr 8 t), some (vi x1)] [] σ := by
  unfold X9_wordAt_j0 at hE
  refine Wp.aload_n dc_X9_wordAt_0 rfl ?_
  refine Wp.sgetR (t := (4 * t)) dc_X9_wordAt_1 fw_X9_16 (mO8 (by omega)) rfl ?_
  refine Wp.iconst dc_X9_wordAt_4 ic_0 ?_
  refine Wp.iload_n dc_X9_wordAt_5 rfl ?_
  obtain ⟨v6, h6, hE⟩ := bnd hE
  refine Wp.cV2i (ok_X4_at (by omega) h6) dc_X9_wordAt_6 mw_X9_41 (mO3 (by omega)) (by decide) (Nat.le_of_ble_eq_true rfl) ?_
  cases hE
  exact Wp.ireturn dc_X9_wordAt_9 rfl rfl (Nat.le_refl _) (Nat.le_refl _) hK
theorem ok_X9_wordAt  {σ : SS} {t : Nat} {x1 : Int32} {o}  (ht : t < 5) (hE : X9_wordAt  σ t x1 = some o) : Runs 1 0 0 mi_X9_wordAt [vr 8 t, vi x1] (hp σ) (fun v h => v = some (vi o) ∧ h = hp σ) := by
  refine Runs.of pn_X9 (Nat.le_of_ble_eq_true rfl) ?_
  exact ok_X9_wordAt_j0  ht hE ⟨rfl, rfl⟩
theorem ok_X9_partnerOf_j0 {Q : Option AV → AH → Prop}  {σ : SS} {t : Nat} {x1 : Int32} {o}   (ht : t < 5) (hE : X9_partnerOf_j0  σ t x1 = some o) (hK : Q (some (vi o)) (hp σ)) : Ws 1 mi_X9_partnerOf Q 0 [some (vr 8 t), some (vi x1)] [] σ := by
  unfold X9_partnerOf_j0 at hE
  refine Wp.aload_n dc_X9_partnerOf_0 rfl ?_
  refine Wp.sgetR (t := (4 * t)) dc_X9_partnerOf_1 fw_X9_16 (mO8 (by omega)) rfl ?_
  refine Wp.iconst dc_X9_partnerOf_4 ic_3 ?_
  refine Wp.iload_n dc_X9_partnerOf_5 rfl ?_
  obtain ⟨v6, h6, hE⟩ := bnd hE
  refine Wp.cV2i (ok_X4_at (by omega) h6) dc_X9_partnerOf_6 mw_X9_41 (mO3 (by omega)) (by decide) (Nat.le_of_ble_eq_true rfl) ?_
  cases hE
  exact Wp.ireturn dc_X9_partnerOf_9 rfl rfl (Nat.le_refl _) (Nat.le_refl _) hK
theorem ok_X9_partnerOf  {σ : SS} {t : Nat} {x1 : Int32} {o}  (ht : t < 5) (hE : X9_partnerOf  σ t x1 = some o) : Runs 1 0 0 mi_X9_partnerOf [vr 8 t, vi x1] (hp σ) (fun v h => v = some (vi o) ∧ h = hp σ) := by
  refine Runs.of pn_X9 (Nat.le_of_ble_eq_true rfl) ?_
  exact ok_X9_partnerOf_j0  ht hE ⟨rfl, rfl⟩
theorem ok_X2_behindEnd_j34 {Q : Option AV → AH → Prop}  {σ : SS} {r1 : Nat} {x2 : Int32} {o} {z0 z1 z3 z4 : Option AV}  (hr1 : r1 < 5) (hE : X2_behindEnd_j34  σ r1 x2 = some o) (hK : Q (some (vi o.1)) (hp o.2)) : Ws 2 mi_X2_behindEnd Q 34 [z0, z1, some (vi x2), z3, z4] [] σ := by
  unfold X2_behindEnd_j34 at hE
  refine Wp.iload_n dc_X2_behindEnd_34 rfl ?_
  refine Wp.iconst dc_X2_behindEnd_35 ic_1 ?_
  refine Wp.iadd dc_X2_behindEnd_36 ?_
  cases hE
  exact Wp.ireturn dc_X2_behindEnd_37 rfl rfl (Nat.le_refl _) (Nat.le_refl _) hK
theorem ok_X2_behindEnd_j0 {Q : Option AV → AH → Prop}  {σ : SS} {r1 : Nat} {x2 : Int32} {o} {z3 z4 : Option AV}  (hr1 : r1 < 5) (hE : X2_behindEnd_j0  σ r1 x2 = some o) (hK : Q (some (vi o.1)) (hp o.2)) : Ws 2 mi_X2_behindEnd Q 0 [some (vr 2 0), some (vr 8 r1), some (vi x2), z3, z4] [] σ := by
  unfold X2_behindEnd_j0 at hE
  refine Wp.aload_n dc_X2_behindEnd_0 rfl ?_
  refine Wp.iload_n dc_X2_behindEnd_1 rfl ?_
  obtain ⟨v2, h2, hE⟩ := bnd hE
  refine Wp.cV1i (ok_X9_partnerOf (by omega) h2) dc_X2_behindEnd_2 mw_X2_78 (mO8 (by omega)) (by decide) (Nat.le_of_ble_eq_true rfl) ?_
  refine Wp.istore_n dc_X2_behindEnd_5 (by decide) ?_
  refine Wp.aload_n dc_X2_behindEnd_6 rfl ?_
  refine Wp.sgetR (t := 30) dc_X2_behindEnd_7 fw_X2_23 (mO2 (by decide)) rfl ?_
  refine Wp.iconst dc_X2_behindEnd_10 ic_0 ?_
  refine Wp.iload_n dc_X2_behindEnd_11 rfl ?_
  obtain ⟨v12, h12, hE⟩ := bnd hE
  refine Wp.cV2i (ok_X4_at (by decide) h12) dc_X2_behindEnd_12 mw_X2_38 (mO3 (by decide)) (by decide) (Nat.le_of_ble_eq_true rfl) ?_
  refine Wp.iconst dc_X2_behindEnd_15 ic_1 ?_
  refine Wp.isub dc_X2_behindEnd_16 ?_
  obtain ⟨x4_17, e_17, hE⟩ := bnS hE
  rw [e_17]
  refine Wp.istore dc_X2_behindEnd_17 (by decide) ?_
  refine Wp.aload_n dc_X2_behindEnd_19 rfl ?_
  refine Wp.iload_n dc_X2_behindEnd_20 rfl ?_
  obtain ⟨v21, h21, hE⟩ := bnd hE
  refine Wp.cV1i (ok_X9_wordAt (by omega) h21) dc_X2_behindEnd_21 mw_X2_61 (mO8 (by omega)) (by decide) (Nat.le_of_ble_eq_true rfl) ?_
  refine Wp.bipush dc_X2_behindEnd_24 bp_21 ?_
  refine Wp.icmp_ne (tgt := 34) dc_X2_behindEnd_26 (by decide) (fun hc26 => ?_) (fun hc26 => ?_)
  · rw [if_neg hc26] at hE
    exact ok_X2_behindEnd_j34  hr1 hE hK
  · rw [if_pos hc26] at hE
    refine Wp.iload dc_X2_behindEnd_29 rfl ?_
    refine Wp.if_gt (tgt := 38) dc_X2_behindEnd_31 (by decide) (fun hc31 => ?_) (fun hc31 => ?_)
    · rw [if_pos hc31] at hE
      refine Wp.aload_n dc_X2_behindEnd_38 rfl ?_
      refine Wp.sgetR (t := 30) dc_X2_behindEnd_39 fw_X2_23 (mO2 (by decide)) rfl ?_
      refine Wp.iconst dc_X2_behindEnd_42 ic_0 ?_
      refine Wp.iload_n dc_X2_behindEnd_43 rfl ?_
      refine Wp.iload dc_X2_behindEnd_44 rfl ?_
      obtain ⟨σ46, h46, hE⟩ := bnd hE
      refine Wp.cV3v (ok_X4_put (by decide) h46) dc_X2_behindEnd_46 mw_X2_42 (mO3 (by decide)) (by decide) (Nat.le_of_ble_eq_true rfl) ?_
      refine Wp.iload_n dc_X2_behindEnd_49 rfl ?_
      refine Wp.iconst dc_X2_behindEnd_50 ic_1 ?_
      refine Wp.iadd dc_X2_behindEnd_51 ?_
      cases hE
      exact Wp.ireturn dc_X2_behindEnd_52 rfl rfl (Nat.le_refl _) (Nat.le_refl _) hK
    · rw [if_neg hc31] at hE
      exact ok_X2_behindEnd_j34  hr1 hE hK
theorem ok_X2_behindEnd  {σ : SS} {r1 : Nat} {x2 : Int32} {o}  (hr1 : r1 < 5) (hE : X2_behindEnd  σ r1 x2 = some o) : Runs 2 0 0 mi_X2_behindEnd [vr 2 0, vr 8 r1, vi x2] (hp σ) (fun v h => v = some (vi o.1) ∧ h = hp o.2) := by
  refine Runs.of pn_X2 (Nat.le_of_ble_eq_true rfl) ?_
  exact ok_X2_behindEnd_j0  hr1 hE ⟨rfl, rfl⟩
theorem ok_X2_add_j0 {Q : Option AV → AH → Prop}  {σ : SS}  {x1 : Int32} {x2 : Int32} {o}    (hE : X2_add_j0  σ  x1 x2 = some o) (hK : Q none (hp o)) : Ws 1 mi_X2_add Q 0 [some (vr 2 0), some (vi x1), some (vi x2)] [] σ := by
  unfold X2_add_j0 at hE
  refine Wp.aload_n dc_X2_add_0 rfl ?_
  refine Wp.sgetR (t := 28) dc_X2_add_1 fw_X2_12 (mO2 (by decide)) rfl ?_
  refine Wp.iconst dc_X2_add_4 ic_0 ?_
  refine Wp.iload_n dc_X2_add_5 rfl ?_
  refine Wp.aload_n dc_X2_add_6 rfl ?_
  refine Wp.sgetR (t := 28) dc_X2_add_7 fw_X2_12 (mO2 (by decide)) rfl ?_
  refine Wp.iconst dc_X2_add_10 ic_0 ?_
  refine Wp.iload_n dc_X2_add_11 rfl ?_
  obtain ⟨v12, h12, hE⟩ := bnd hE
  refine Wp.cV2i (ok_X4_at (by decide) h12) dc_X2_add_12 mw_X2_38 (mO3 (by decide)) (by decide) (Nat.le_of_ble_eq_true rfl) ?_
  refine Wp.iload_n dc_X2_add_15 rfl ?_
  refine Wp.iadd dc_X2_add_16 ?_
  obtain ⟨σ17, h17, hE⟩ := bnd hE
  refine Wp.cV3v (ok_X4_put (by decide) h17) dc_X2_add_17 mw_X2_42 (mO3 (by decide)) (by decide) (Nat.le_of_ble_eq_true rfl) ?_
  cases hE
  exact Wp.return dc_X2_add_20 rfl (Nat.le_refl _) (Nat.le_refl _) hK
theorem ok_X2_add  {σ : SS}  {x1 : Int32} {x2 : Int32} {o}   (hE : X2_add  σ  x1 x2 = some o) : Runs 1 0 0 mi_X2_add [vr 2 0, vi x1, vi x2] (hp σ) (fun v h => v = none ∧ h = hp o) := by
  refine Runs.of pn_X2 (Nat.le_of_ble_eq_true rfl) ?_
  exact ok_X2_add_j0   hE ⟨rfl, rfl⟩
theorem ok_X9_numberAt_j0 {Q : Option AV → AH → Prop}  {σ : SS} {t : Nat} {x1 : Int32} {o}   (ht : t < 5) (hE : X9_numberAt_j0  σ t x1 = some o) (hK : Q (some (vi o)) (hp σ)) : Ws 1 mi_X9_numberAt Q 0 [some (vr 8 t), some (vi x1)] [] σ := by
  unfold X9_numberAt_j0 at hE
  refine Wp.aload_n dc_X9_numberAt_0 rfl ?_
  refine Wp.sgetR (t := (4 * t)) dc_X9_numberAt_1 fw_X9_16 (mO8 (by omega)) rfl ?_
  refine Wp.iconst dc_X9_numberAt_4 ic_1 ?_
  refine Wp.iload_n dc_X9_numberAt_5 rfl ?_
  obtain ⟨v6, h6, hE⟩ := bnd hE
  refine Wp.cV2i (ok_X4_at (by omega) h6) dc_X9_numberAt_6 mw_X9_41 (mO3 (by omega)) (by decide) (Nat.le_of_ble_eq_true rfl) ?_
  cases hE
  exact Wp.ireturn dc_X9_numberAt_9 rfl rfl (Nat.le_refl _) (Nat.le_refl _) hK
theorem ok_X9_numberAt  {σ : SS} {t : Nat} {x1 : Int32} {o}  (ht : t < 5) (hE : X9_numberAt  σ t x1 = some o) : Runs 1 0 0 mi_X9_numberAt [vr 8 t, vi x1] (hp σ) (fun v h => v = some (vi o) ∧ h = hp σ) := by
  refine Runs.of pn_X9 (Nat.le_of_ble_eq_true rfl) ?_
  exact ok_X9_numberAt_j0  ht hE ⟨rfl, rfl⟩
def X3_around_P24 (Q : Option AV → AH → Prop) (σ : SS) (r0 : Nat) (x2 : Int32) (ss : Int32 × Int32 × Int32) : Prop := ∀ z1 z6 z7 z8 : Option AV, Ws 2 mi_X3_around Q 24 [some (vr 0 r0), z1, some (vi x2), some (vi ss.1), some (vi ss.2.1), some (vi ss.2.2), z6, z7, z8] [] σ
def X3_around_R24 (Q : Option AV → AH → Prop) (σ : SS) (r0 : Nat) (x2 : Int32) (tt : Int32) : Prop := ∀ z0 z1 z2 z4 z5 z6 z7 z8 : Option AV, Ws 2 mi_X3_around Q 131 [z0, z1, z2, some (vi tt), z4, z5, z6, z7, z8] [] σ
def X3_around_P43 (Q : Option AV → AH → Prop) (σ : SS) (r0 : Nat) (x2 : Int32) (x4 : Int32) (x5 : Int32) (ss : Int32 × Int32) : Prop := ∀ z1 z7 z8 : Option AV, Ws 2 mi_X3_around Q 43 [some (vr 0 r0), z1, some (vi x2), some (vi ss.1), some (vi x4), some (vi x5), some (vi ss.2), z7, z8] [] σ
def X3_around_R43 (Q : Option AV → AH → Prop) (σ : SS) (r0 : Nat) (x2 : Int32) (x4 : Int32) (x5 : Int32) (tt : Int32) : Prop := ∀ z1 z6 z7 z8 : Option AV, Ws 2 mi_X3_around Q 125 [some (vr 0 r0), z1, some (vi x2), some (vi tt), some (vi x4), some (vi x5), z6, z7, z8] [] σ
theorem ok_X3_around_j117 {Q : Option AV → AH → Prop}  {σ : SS} {r0 : Nat} {x2 : Int32} {x4 : Int32} {x5 : Int32} {x6 : Int32} {s0 : Int32} {s1 : Int32} {o} {z1 z3 z7 z8 : Option AV}  (hr0 : r0 < 5) (hE : X3_around_j117  σ r0 x2 x4 x5 x6 s0 s1 = some o) (hS : ∀ ss, o = Sum.inl ss → (X3_around_P43  Q σ r0 x2 x4 x5) ss) (hT : ∀ tt, o = Sum.inr tt → (X3_around_R43  Q σ r0 x2 x4 x5) tt) : Ws 2 mi_X3_around Q 117 [some (vr 0 r0), z1, some (vi x2), z3, some (vi x4), some (vi x5), some (vi x6), z7, z8] [vi s1, vi s0] σ := by
  unfold X3_around_j117 at hE
  refine Wp.ior dc_X3_around_117 ?_
  obtain ⟨x3_118, e_118, hE⟩ := bnS hE
  rw [e_118]
  refine Wp.istore_n dc_X3_around_118 (by decide) ?_
  obtain ⟨x6_119, e_119, hE⟩ := bnS hE
  refine Wp.iinc dc_X3_around_119 rfl ((ii ic_1).trans e_119) (by decide) ?_
  refine Wp.goto (tgt := 43) dc_X3_around_122 (by decide) ?_
  cases hE
  exact hS _ rfl _ _ _
theorem ok_X3_around_j116 {Q : Option AV → AH → Prop}  {σ : SS} {r0 : Nat} {x2 : Int32} {x4 : Int32} {x5 : Int32} {x6 : Int32} {s0 : Int32} {o} {z1 z3 z7 z8 : Option AV}  (hr0 : r0 < 5) (hE : X3_around_j116  σ r0 x2 x4 x5 x6 s0 = some o) (hS : ∀ ss, o = Sum.inl ss → (X3_around_P43  Q σ r0 x2 x4 x5) ss) (hT : ∀ tt, o = Sum.inr tt → (X3_around_R43  Q σ r0 x2 x4 x5) tt) : Ws 2 mi_X3_around Q 116 [some (vr 0 r0), z1, some (vi x2), z3, some (vi x4), some (vi x5), some (vi x6), z7, z8] [vi s0] σ := by
  unfold X3_around_j116 at hE
  refine Wp.iconst dc_X3_around_116 ic_0 ?_
  exact ok_X3_around_j117  hr0 hE hS hT
theorem ok_X3_around_j96 {Q : Option AV → AH → Prop}  {σ : SS} {r0 : Nat} {x2 : Int32} {x3 : Int32} {x4 : Int32} {x5 : Int32} {x6 : Int32} {x7 : Int32} {s0 : Int32} {o} {z1 z8 : Option AV}  (hr0 : r0 < 5) (hE : X3_around_j96  σ r0 x2 x3 x4 x5 x6 x7 s0 = some o) (hS : ∀ ss, o = Sum.inl ss → (X3_around_P43  Q σ r0 x2 x4 x5) ss) (hT : ∀ tt, o = Sum.inr tt → (X3_around_R43  Q σ r0 x2 x4 x5) tt) : Ws 2 mi_X3_around Q 96 [some (vr 0 r0), z1, some (vi x2), some (vi x3), some (vi x4), some (vi x5), some (vi x6), some (vi x7), z8] [vi s0] σ := by
  unfold X3_around_j96 at hE
  refine Wp.istore dc_X3_around_96 (by decide) ?_
  refine Wp.iload_n dc_X3_around_98 rfl ?_
  refine Wp.iload dc_X3_around_99 rfl ?_
  refine Wp.if_eq (tgt := 116) dc_X3_around_101 (by decide) (fun hc101 => ?_) (fun hc101 => ?_)
  · rw [if_pos hc101] at hE
    exact ok_X3_around_j116  hr0 hE hS hT
  · rw [if_neg hc101] at hE
    refine Wp.iload_n dc_X3_around_104 rfl ?_
    refine Wp.iload dc_X3_around_105 rfl ?_
    refine Wp.iand dc_X3_around_107 ?_
    refine Wp.if_eq (tgt := 116) dc_X3_around_108 (by decide) (fun hc108 => ?_) (fun hc108 => ?_)
    · rw [if_pos hc108] at hE
      exact ok_X3_around_j116  hr0 hE hS hT
    · rw [if_neg hc108] at hE
      refine Wp.iload dc_X3_around_111 rfl ?_
      refine Wp.goto (tgt := 117) dc_X3_around_113 (by decide) ?_
      exact ok_X3_around_j117  hr0 hE hS hT
theorem ok_X3_around_j95 {Q : Option AV → AH → Prop}  {σ : SS} {r0 : Nat} {x2 : Int32} {x3 : Int32} {x4 : Int32} {x5 : Int32} {x6 : Int32} {x7 : Int32} {o} {z1 z8 : Option AV}  (hr0 : r0 < 5) (hE : X3_around_j95  σ r0 x2 x3 x4 x5 x6 x7 = some o) (hS : ∀ ss, o = Sum.inl ss → (X3_around_P43  Q σ r0 x2 x4 x5) ss) (hT : ∀ tt, o = Sum.inr tt → (X3_around_R43  Q σ r0 x2 x4 x5) tt) : Ws 2 mi_X3_around Q 95 [some (vr 0 r0), z1, some (vi x2), some (vi x3), some (vi x4), some (vi x5), some (vi x6), some (vi x7), z8] [] σ := by
  unfold X3_around_j95 at hE
  refine Wp.iconst dc_X3_around_95 ic_0 ?_
  exact ok_X3_around_j96  hr0 hE hS hT
theorem ok_X3_around_l43c {Q : Option AV → AH → Prop}  {σ : SS} {r0 : Nat} {x2 : Int32} {x4 : Int32} {x5 : Int32} {x3 : Int32} {x6 : Int32} {o} {z1 z7 z8 : Option AV}  (hr0 : r0 < 5) (hE : X3_around_l43c  σ r0 x2 x4 x5 x3 x6 = some o) (hS : ∀ ss, o = Sum.inl ss → (X3_around_P43  Q σ r0 x2 x4 x5) ss) (hT : ∀ tt, o = Sum.inr tt → (X3_around_R43  Q σ r0 x2 x4 x5) tt) : Ws 2 mi_X3_around Q 43 [some (vr 0 r0), z1, some (vi x2), some (vi x3), some (vi x4), some (vi x5), some (vi x6), z7, z8] [] σ := by
  unfold X3_around_l43c at hE
  refine Wp.iload dc_X3_around_43 rfl ?_
  refine Wp.aload_n dc_X3_around_45 rfl ?_
  obtain ⟨v46, h46, hE⟩ := bnd hE
  refine Wp.cV0i (ok_X0_crossingCount (by omega) h46) dc_X3_around_46 mw_X3_15 (mO0 (by omega)) (by decide) (Nat.le_of_ble_eq_true rfl) ?_
  refine Wp.icmp_ge (tgt := 125) dc_X3_around_49 (by decide) (fun hc49 => ?_) (fun hc49 => ?_)
  · rw [if_pos hc49] at hE
    cases hE
    exact hT _ rfl _ _ _ _
  · rw [if_neg hc49] at hE
    refine Wp.iconst dc_X3_around_52 ic_1 ?_
    refine Wp.aload_n dc_X3_around_53 rfl ?_
    refine Wp.iconst dc_X3_around_54 ic_0 ?_
    refine Wp.iload dc_X3_around_55 rfl ?_
    obtain ⟨v57, h57, hE⟩ := bnd hE
    refine Wp.cV2i (ok_X0_crossingAt (by omega) h57) dc_X3_around_57 mw_X3_19 (mO0 (by omega)) (by decide) (Nat.le_of_ble_eq_true rfl) ?_
    refine Wp.ishl dc_X3_around_60 ?_
    refine Wp.iconst dc_X3_around_61 ic_1 ?_
    refine Wp.aload_n dc_X3_around_62 rfl ?_
    refine Wp.iconst dc_X3_around_63 ic_1 ?_
    refine Wp.iload dc_X3_around_64 rfl ?_
    obtain ⟨v66, h66, hE⟩ := bnd hE
    refine Wp.cV2i (ok_X0_crossingAt (by omega) h66) dc_X3_around_66 mw_X3_19 (mO0 (by omega)) (by decide) (Nat.le_of_ble_eq_true rfl) ?_
    refine Wp.ishl dc_X3_around_69 ?_
    refine Wp.ior dc_X3_around_70 ?_
    obtain ⟨x7_71, e_71, hE⟩ := bnS hE
    rw [e_71]
    refine Wp.istore dc_X3_around_71 (by decide) ?_
    refine Wp.aload_n dc_X3_around_73 rfl ?_
    refine Wp.iload dc_X3_around_74 rfl ?_
    obtain ⟨v76, h76, hE⟩ := bnd hE
    refine Wp.cV1i (ok_X0_stateAt (by omega) h76) dc_X3_around_76 mw_X3_23 (mO0 (by omega)) (by decide) (Nat.le_of_ble_eq_true rfl) ?_
    refine Wp.if_eq (tgt := 95) dc_X3_around_79 (by decide) (fun hc79 => ?_) (fun hc79 => ?_)
    · rw [if_pos hc79] at hE
      exact ok_X3_around_j95  hr0 hE hS hT
    · rw [if_neg hc79] at hE
      refine Wp.iload dc_X3_around_82 rfl ?_
      refine Wp.iload_n dc_X3_around_84 rfl ?_
      refine Wp.iconst dc_X3_around_85 ic_m1 ?_
      refine Wp.ixor dc_X3_around_86 ?_
      refine Wp.iand dc_X3_around_87 ?_
      refine Wp.if_ne (tgt := 95) dc_X3_around_88 (by decide) (fun hc88 => ?_) (fun hc88 => ?_)
      · rw [if_neg hc88] at hE
        exact ok_X3_around_j95  hr0 hE hS hT
      · rw [if_pos hc88] at hE
        refine Wp.iconst dc_X3_around_91 ic_1 ?_
        refine Wp.goto (tgt := 96) dc_X3_around_92 (by decide) ?_
        exact ok_X3_around_j96  hr0 hE hS hT
theorem ok_X3_around_l43 {Q : Option AV → AH → Prop}  {σ : SS} {r0 : Nat} {x2 : Int32} {x3 : Int32} {x4 : Int32} {x5 : Int32} {x6 : Int32} {o} {z1 z7 z8 : Option AV}  (hr0 : r0 < 5) (hE : X3_around_l43  σ r0 x2 x3 x4 x5 x6 = some o) (hS : ∀ ss, o = Sum.inl ss → (X3_around_P24  Q σ r0 x2) ss) (hT : ∀ tt, o = Sum.inr tt → (X3_around_R24  Q σ r0 x2) tt) : Ws 2 mi_X3_around Q 43 [some (vr 0 r0), z1, some (vi x2), some (vi x3), some (vi x4), some (vi x5), some (vi x6), z7, z8] [] σ := by
  unfold X3_around_l43 at hE
  obtain ⟨t43, h1, hE⟩ := bnd hE
  refine iter_ok (P := (X3_around_P43  Q σ r0 x2 x4 x5)) (R := (X3_around_R43  Q σ r0 x2 x4 x5)) (fun ss o h2 hS hT => ?_) NF _ _ h1 ?_ _ _ _
  · intro z1 z7 z8
    exact ok_X3_around_l43c  hr0 h2 hS hT
  · intro z1 z6 z7 z8
    show Ws 2 mi_X3_around Q 125 [some (vr 0 r0), z1, some (vi x2), some (vi t43), some (vi x4), some (vi x5), z6, z7, z8] [] σ
    obtain ⟨x5_125, e_125, hE⟩ := bnS hE
    refine Wp.iinc dc_X3_around_125 rfl ((ii ic_1).trans e_125) (by decide) ?_
    refine Wp.goto (tgt := 24) dc_X3_around_128 (by decide) ?_
    cases hE
    exact hS _ rfl _ _ _ _
theorem ok_X3_around_l24c {Q : Option AV → AH → Prop}  {σ : SS} {r0 : Nat} {x2 : Int32} {x3 : Int32} {x4 : Int32} {x5 : Int32} {o} {z1 z6 z7 z8 : Option AV}  (hr0 : r0 < 5) (hE : X3_around_l24c  σ r0 x2 x3 x4 x5 = some o) (hS : ∀ ss, o = Sum.inl ss → (X3_around_P24  Q σ r0 x2) ss) (hT : ∀ tt, o = Sum.inr tt → (X3_around_R24  Q σ r0 x2) tt) : Ws 2 mi_X3_around Q 24 [some (vr 0 r0), z1, some (vi x2), some (vi x3), some (vi x4), some (vi x5), z6, z7, z8] [] σ := by
  unfold X3_around_l24c at hE
  refine Wp.iload dc_X3_around_24 rfl ?_
  refine Wp.bipush dc_X3_around_26 bp_8 ?_
  refine Wp.icmp_gt (tgt := 131) dc_X3_around_28 (by decide) (fun hc28 => ?_) (fun hc28 => ?_)
  · rw [if_pos hc28] at hE
    cases hE
    exact hT _ rfl _ _ _ _ _ _ _ _
  · rw [if_neg hc28] at hE
    refine Wp.iload_n dc_X3_around_31 rfl ?_
    refine Wp.iload dc_X3_around_32 rfl ?_
    refine Wp.icmp_eq (tgt := 131) dc_X3_around_34 (by decide) (fun hc34 => ?_) (fun hc34 => ?_)
    · rw [if_pos hc34] at hE
      cases hE
      exact hT _ rfl _ _ _ _ _ _ _ _
    · rw [if_neg hc34] at hE
      refine Wp.iload_n dc_X3_around_37 rfl ?_
      refine Wp.istore dc_X3_around_38 (by decide) ?_
      refine Wp.iconst dc_X3_around_40 ic_0 ?_
      refine Wp.istore dc_X3_around_41 (by decide) ?_
      exact ok_X3_around_l43  hr0 hE hS hT
theorem ok_X3_around_l24 {Q : Option AV → AH → Prop}  {σ : SS} {r0 : Nat} {x2 : Int32} {x3 : Int32} {x4 : Int32} {x5 : Int32} {o} {z1 z6 z7 z8 : Option AV}  (hr0 : r0 < 5) (hE : X3_around_l24  σ r0 x2 x3 x4 x5 = some o) (hK : Q (some (vi o)) (hp σ)) : Ws 2 mi_X3_around Q 24 [some (vr 0 r0), z1, some (vi x2), some (vi x3), some (vi x4), some (vi x5), z6, z7, z8] [] σ := by
  unfold X3_around_l24 at hE
  obtain ⟨t24, h1, hE⟩ := bnd hE
  refine iter_ok (P := (X3_around_P24  Q σ r0 x2)) (R := (X3_around_R24  Q σ r0 x2)) (fun ss o h2 hS hT => ?_) NF _ _ h1 ?_ _ _ _ _
  · intro z1 z6 z7 z8
    exact ok_X3_around_l24c  hr0 h2 hS hT
  · intro z0 z1 z2 z4 z5 z6 z7 z8
    show Ws 2 mi_X3_around Q 131 [z0, z1, z2, some (vi t24), z4, z5, z6, z7, z8] [] σ
    refine Wp.iload_n dc_X3_around_131 rfl ?_
    cases hE
    exact Wp.ireturn dc_X3_around_132 rfl rfl (Nat.le_refl _) (Nat.le_refl _) hK
theorem ok_X3_around_j17 {Q : Option AV → AH → Prop}  {σ : SS} {r0 : Nat} {x2 : Int32} {s0 : Int32} {o} {z1 z3 z4 z5 z6 z7 z8 : Option AV}  (hr0 : r0 < 5) (hE : X3_around_j17  σ r0 x2 s0 = some o) (hK : Q (some (vi o)) (hp σ)) : Ws 2 mi_X3_around Q 17 [some (vr 0 r0), z1, some (vi x2), z3, z4, z5, z6, z7, z8] [vi s0] σ := by
  unfold X3_around_j17 at hE
  refine Wp.istore_n dc_X3_around_17 (by decide) ?_
  refine Wp.iconst dc_X3_around_18 ic_0 ?_
  refine Wp.istore dc_X3_around_19 (by decide) ?_
  refine Wp.iconst dc_X3_around_21 ic_0 ?_
  refine Wp.istore dc_X3_around_22 (by decide) ?_
  exact ok_X3_around_l24  hr0 hE hK
theorem ok_X3_around_j0 {Q : Option AV → AH → Prop}  {σ : SS} {r0 : Nat} {x1 : Int32} {x2 : Int32} {o} {z3 z4 z5 z6 z7 z8 : Option AV}  (hr0 : r0 < 5) (hE : X3_around_j0  σ r0 x1 x2 = some o) (hK : Q (some (vi o)) (hp σ)) : Ws 2 mi_X3_around Q 0 [some (vr 0 r0), some (vi x1), some (vi x2), z3, z4, z5, z6, z7, z8] [] σ := by
  unfold X3_around_j0 at hE
  refine Wp.aload_n dc_X3_around_0 rfl ?_
  refine Wp.iload_n dc_X3_around_1 rfl ?_
  obtain ⟨v2, h2, hE⟩ := bnd hE
  refine Wp.cV1i (ok_X0_has (by omega) h2) dc_X3_around_2 mw_X3_9 (mO0 (by omega)) (by decide) (Nat.le_of_ble_eq_true rfl) ?_
  refine Wp.if_eq (tgt := 16) dc_X3_around_5 (by decide) (fun hc5 => ?_) (fun hc5 => ?_)
  · rw [if_pos hc5] at hE
    refine Wp.iconst dc_X3_around_16 ic_0 ?_
    exact ok_X3_around_j17  hr0 hE hK
  · rw [if_neg hc5] at hE
    refine Wp.iconst dc_X3_around_8 ic_1 ?_
    refine Wp.iload_n dc_X3_around_9 rfl ?_
    refine Wp.ishl dc_X3_around_10 ?_
    refine Wp.iload_n dc_X3_around_11 rfl ?_
    refine Wp.iand dc_X3_around_12 ?_
    refine Wp.goto (tgt := 17) dc_X3_around_13 (by decide) ?_
    exact ok_X3_around_j17  hr0 hE hK
theorem ok_X3_around  {σ : SS} {r0 : Nat} {x1 : Int32} {x2 : Int32} {o}  (hr0 : r0 < 5) (hE : X3_around  σ r0 x1 x2 = some o) : Runs 2 0 0 mi_X3_around [vr 0 r0, vi x1, vi x2] (hp σ) (fun v h => v = some (vi o) ∧ h = hp σ) := by
  refine Runs.of pn_X3 (Nat.le_of_ble_eq_true rfl) ?_
  exact ok_X3_around_j0  hr0 hE ⟨rfl, rfl⟩
def X3_largest_P4 (Q : Option AV → AH → Prop) (σ : SS) (r0 : Nat) (x1 : Int32) (ss : Int32 × Int32) : Prop := Ws 3 mi_X3_largest Q 4 [some (vr 0 r0), some (vi x1), some (vi ss.1), some (vi ss.2)] [] σ
def X3_largest_R4 (Q : Option AV → AH → Prop) (σ : SS) (r0 : Nat) (x1 : Int32) (tt : Int32) : Prop := ∀ z0 z1 z3 : Option AV, Ws 3 mi_X3_largest Q 32 [z0, z1, some (vi tt), z3] [] σ
theorem ok_X3_largest_l4c {Q : Option AV → AH → Prop}  {σ : SS} {r0 : Nat} {x1 : Int32} {x2 : Int32} {x3 : Int32} {o}   (hr0 : r0 < 5) (hE : X3_largest_l4c  σ r0 x1 x2 x3 = some o) (hS : ∀ ss, o = Sum.inl ss → (X3_largest_P4  Q σ r0 x1) ss) (hT : ∀ tt, o = Sum.inr tt → (X3_largest_R4  Q σ r0 x1) tt) : Ws 3 mi_X3_largest Q 4 [some (vr 0 r0), some (vi x1), some (vi x2), some (vi x3)] [] σ := by
  unfold X3_largest_l4c at hE
  refine Wp.iload_n dc_X3_largest_4 rfl ?_
  refine Wp.aload_n dc_X3_largest_5 rfl ?_
  obtain ⟨v6, h6, hE⟩ := bnd hE
  refine Wp.cV0i (ok_X0_leadCount (by omega) h6) dc_X3_largest_6 mw_X3_41 (mO0 (by omega)) (by decide) (Nat.le_of_ble_eq_true rfl) ?_
  refine Wp.icmp_ge (tgt := 32) dc_X3_largest_9 (by decide) (fun hc9 => ?_) (fun hc9 => ?_)
  · rw [if_pos hc9] at hE
    cases hE
    exact hT _ rfl _ _ _
  · rw [if_neg hc9] at hE
    refine Wp.iload_n dc_X3_largest_12 rfl ?_
    refine Wp.aload_n dc_X3_largest_13 rfl ?_
    refine Wp.iload_n dc_X3_largest_14 rfl ?_
    refine Wp.iload_n dc_X3_largest_15 rfl ?_
    obtain ⟨v16, h16, hE⟩ := bnd hE
    refine Wp.cS3i (ok_X3_around (by omega) h16) dc_X3_largest_16 mw_X3_30 (by decide) (Nat.le_of_ble_eq_true rfl) ?_
    obtain ⟨v19, h19, hE⟩ := bnd hE
    refine Wp.cS1i (ok_J6_bitCount_0f7a4  h19) dc_X3_largest_19 mw_X3_36 (by decide) (Nat.le_of_ble_eq_true rfl) ?_
    refine Wp.mmax dc_X3_largest_22 lw_X3_48 ms_max mi_Math mk_max (by decide) (Nat.le_refl _) (Nat.le_refl _) (Nat.le_of_ble_eq_true rfl) ?_
    obtain ⟨x2_25, e_25, hE⟩ := bnS hE
    rw [e_25]
    refine Wp.istore_n dc_X3_largest_25 (by decide) ?_
    obtain ⟨x3_26, e_26, hE⟩ := bnS hE
    refine Wp.iinc dc_X3_largest_26 rfl ((ii ic_1).trans e_26) (by decide) ?_
    refine Wp.goto (tgt := 4) dc_X3_largest_29 (by decide) ?_
    cases hE
    exact hS _ rfl
theorem ok_X3_largest_l4 {Q : Option AV → AH → Prop}  {σ : SS} {r0 : Nat} {x1 : Int32} {x2 : Int32} {x3 : Int32} {o}   (hr0 : r0 < 5) (hE : X3_largest_l4  σ r0 x1 x2 x3 = some o) (hK : Q (some (vi o)) (hp σ)) : Ws 3 mi_X3_largest Q 4 [some (vr 0 r0), some (vi x1), some (vi x2), some (vi x3)] [] σ := by
  unfold X3_largest_l4 at hE
  obtain ⟨t4, h1, hE⟩ := bnd hE
  refine iter_ok (P := (X3_largest_P4  Q σ r0 x1)) (R := (X3_largest_R4  Q σ r0 x1)) (fun ss o h2 hS hT => ?_) NF _ _ h1 ?_
  · skip
    exact ok_X3_largest_l4c  hr0 h2 hS hT
  · intro z0 z1 z3
    show Ws 3 mi_X3_largest Q 32 [z0, z1, some (vi t4), z3] [] σ
    refine Wp.iload_n dc_X3_largest_32 rfl ?_
    cases hE
    exact Wp.ireturn dc_X3_largest_33 rfl rfl (Nat.le_refl _) (Nat.le_refl _) hK
theorem ok_X3_largest_j0 {Q : Option AV → AH → Prop}  {σ : SS} {r0 : Nat} {x1 : Int32} {o} {z2 z3 : Option AV}  (hr0 : r0 < 5) (hE : X3_largest_j0  σ r0 x1 = some o) (hK : Q (some (vi o)) (hp σ)) : Ws 3 mi_X3_largest Q 0 [some (vr 0 r0), some (vi x1), z2, z3] [] σ := by
  unfold X3_largest_j0 at hE
  refine Wp.iconst dc_X3_largest_0 ic_0 ?_
  refine Wp.istore_n dc_X3_largest_1 (by decide) ?_
  refine Wp.iconst dc_X3_largest_2 ic_0 ?_
  refine Wp.istore_n dc_X3_largest_3 (by decide) ?_
  exact ok_X3_largest_l4  hr0 hE hK
theorem ok_X3_largest  {σ : SS} {r0 : Nat} {x1 : Int32} {o}  (hr0 : r0 < 5) (hE : X3_largest  σ r0 x1 = some o) : Runs 3 0 0 mi_X3_largest [vr 0 r0, vi x1] (hp σ) (fun v h => v = some (vi o) ∧ h = hp σ) := by
  refine Runs.of pn_X3 (Nat.le_of_ble_eq_true rfl) ?_
  exact ok_X3_largest_j0  hr0 hE ⟨rfl, rfl⟩
theorem ok_X9_comparesAt_j0 {Q : Option AV → AH → Prop}  {σ : SS} {t : Nat} {x1 : Int32} {o}   (ht : t < 5) (hE : X9_comparesAt_j0  σ t x1 = some o) (hK : Q (some (vi o)) (hp σ)) : Ws 1 mi_X9_comparesAt Q 0 [some (vr 8 t), some (vi x1)] [] σ := by
  unfold X9_comparesAt_j0 at hE
  refine Wp.aload_n dc_X9_comparesAt_0 rfl ?_
  refine Wp.sgetR (t := (4 * t)) dc_X9_comparesAt_1 fw_X9_16 (mO8 (by omega)) rfl ?_
  refine Wp.iconst dc_X9_comparesAt_4 ic_2 ?_
  refine Wp.iload_n dc_X9_comparesAt_5 rfl ?_
  obtain ⟨v6, h6, hE⟩ := bnd hE
  refine Wp.cV2i (ok_X4_at (by omega) h6) dc_X9_comparesAt_6 mw_X9_41 (mO3 (by omega)) (by decide) (Nat.le_of_ble_eq_true rfl) ?_
  cases hE
  exact Wp.ireturn dc_X9_comparesAt_9 rfl rfl (Nat.le_refl _) (Nat.le_refl _) hK
theorem ok_X9_comparesAt  {σ : SS} {t : Nat} {x1 : Int32} {o}  (ht : t < 5) (hE : X9_comparesAt  σ t x1 = some o) : Runs 1 0 0 mi_X9_comparesAt [vr 8 t, vi x1] (hp σ) (fun v h => v = some (vi o) ∧ h = hp σ) := by
  refine Runs.of pn_X9 (Nat.le_of_ble_eq_true rfl) ?_
  exact ok_X9_comparesAt_j0  ht hE ⟨rfl, rfl⟩
theorem ok_X2_holds_j51 {Q : Option AV → AH → Prop}  {σ : SS} {r0 : Nat} {x1 : Int32} {x3 : Int32} {s0 : Int32} {o} {z2 z4 z5 : Option AV}  (hr0 : r0 < 5) (hE : X2_holds_j51  σ r0 x1 x3 s0 = some o) (hK : Q (some (vi o)) (hp σ)) : Ws 4 mi_X2_holds Q 51 [some (vr 0 r0), some (vi x1), z2, some (vi x3), z4, z5] [vi s0] σ := by
  unfold X2_holds_j51 at hE
  refine Wp.istore dc_X2_holds_51 (by decide) ?_
  refine Wp.aload_n dc_X2_holds_53 rfl ?_
  refine Wp.sgetR (t := r0) dc_X2_holds_54 fw_X2_52 (mO0 (by omega)) rfl ?_
  refine Wp.iload_n dc_X2_holds_57 rfl ?_
  obtain ⟨v58, h58, hE⟩ := bnd hE
  refine Wp.cV1i (ok_X9_comparesAt (by omega) h58) dc_X2_holds_58 mw_X2_132 (mO8 (by omega)) (by decide) (Nat.le_of_ble_eq_true rfl) ?_
  refine Wp.istore dc_X2_holds_61 (by decide) ?_
  refine Wp.iload dc_X2_holds_63 rfl ?_
  refine Wp.bipush dc_X2_holds_65 bp_60 ?_
  refine Wp.icmp_ne (tgt := 84) dc_X2_holds_67 (by decide) (fun hc67 => ?_) (fun hc67 => ?_)
  · rw [if_neg hc67] at hE
    refine Wp.iload dc_X2_holds_84 rfl ?_
    refine Wp.bipush dc_X2_holds_86 bp_62 ?_
    refine Wp.icmp_ne (tgt := 105) dc_X2_holds_88 (by decide) (fun hc88 => ?_) (fun hc88 => ?_)
    · rw [if_neg hc88] at hE
      refine Wp.iload dc_X2_holds_105 rfl ?_
      refine Wp.iload_n dc_X2_holds_107 rfl ?_
      refine Wp.icmp_ne (tgt := 115) dc_X2_holds_108 (by decide) (fun hc108 => ?_) (fun hc108 => ?_)
      · rw [if_neg hc108] at hE
        refine Wp.iconst dc_X2_holds_115 ic_0 ?_
        cases hE
        exact Wp.ireturn dc_X2_holds_116 rfl Nr.z0.1 (Nat.le_refl _) (Nat.le_refl _) hK
      · rw [if_pos hc108] at hE
        refine Wp.iconst dc_X2_holds_111 ic_1 ?_
        refine Wp.goto (tgt := 116) dc_X2_holds_112 (by decide) ?_
        cases hE
        exact Wp.ireturn dc_X2_holds_116 rfl Nr.z1.1 (Nat.le_refl _) (Nat.le_refl _) hK
    · rw [if_pos hc88] at hE
      refine Wp.iload dc_X2_holds_91 rfl ?_
      refine Wp.iload_n dc_X2_holds_93 rfl ?_
      refine Wp.icmp_le (tgt := 101) dc_X2_holds_94 (by decide) (fun hc94 => ?_) (fun hc94 => ?_)
      · rw [if_pos hc94] at hE
        refine Wp.iconst dc_X2_holds_101 ic_0 ?_
        refine Wp.goto (tgt := 116) dc_X2_holds_102 (by decide) ?_
        cases hE
        exact Wp.ireturn dc_X2_holds_116 rfl Nr.z0.1 (Nat.le_refl _) (Nat.le_refl _) hK
      · rw [if_neg hc94] at hE
        refine Wp.iconst dc_X2_holds_97 ic_1 ?_
        refine Wp.goto (tgt := 116) dc_X2_holds_98 (by decide) ?_
        cases hE
        exact Wp.ireturn dc_X2_holds_116 rfl Nr.z1.1 (Nat.le_refl _) (Nat.le_refl _) hK
  · rw [if_pos hc67] at hE
    refine Wp.iload dc_X2_holds_70 rfl ?_
    refine Wp.iload_n dc_X2_holds_72 rfl ?_
    refine Wp.icmp_ge (tgt := 80) dc_X2_holds_73 (by decide) (fun hc73 => ?_) (fun hc73 => ?_)
    · rw [if_pos hc73] at hE
      refine Wp.iconst dc_X2_holds_80 ic_0 ?_
      refine Wp.goto (tgt := 116) dc_X2_holds_81 (by decide) ?_
      cases hE
      exact Wp.ireturn dc_X2_holds_116 rfl Nr.z0.1 (Nat.le_refl _) (Nat.le_refl _) hK
    · rw [if_neg hc73] at hE
      refine Wp.iconst dc_X2_holds_76 ic_1 ?_
      refine Wp.goto (tgt := 116) dc_X2_holds_77 (by decide) ?_
      cases hE
      exact Wp.ireturn dc_X2_holds_116 rfl Nr.z1.1 (Nat.le_refl _) (Nat.le_refl _) hK
theorem ok_X2_holds_j0 {Q : Option AV → AH → Prop}  {σ : SS} {r0 : Nat} {x1 : Int32} {o} {z2 z3 z4 z5 : Option AV}  (hr0 : r0 < 5) (hE : X2_holds_j0  σ r0 x1 = some o) (hK : Q (some (vi o)) (hp σ)) : Ws 4 mi_X2_holds Q 0 [some (vr 0 r0), some (vi x1), z2, z3, z4, z5] [] σ := by
  unfold X2_holds_j0 at hE
  refine Wp.aload_n dc_X2_holds_0 rfl ?_
  refine Wp.sgetR (t := r0) dc_X2_holds_1 fw_X2_52 (mO0 (by omega)) rfl ?_
  refine Wp.iload_n dc_X2_holds_4 rfl ?_
  obtain ⟨v5, h5, hE⟩ := bnd hE
  refine Wp.cV1i (ok_X9_wordAt (by omega) h5) dc_X2_holds_5 mw_X2_61 (mO8 (by omega)) (by decide) (Nat.le_of_ble_eq_true rfl) ?_
  refine Wp.istore_n dc_X2_holds_8 (by decide) ?_
  refine Wp.aload_n dc_X2_holds_9 rfl ?_
  refine Wp.sgetR (t := r0) dc_X2_holds_10 fw_X2_52 (mO0 (by omega)) rfl ?_
  refine Wp.iload_n dc_X2_holds_13 rfl ?_
  obtain ⟨v14, h14, hE⟩ := bnd hE
  refine Wp.cV1i (ok_X9_numberAt (by omega) h14) dc_X2_holds_14 mw_X2_81 (mO8 (by omega)) (by decide) (Nat.le_of_ble_eq_true rfl) ?_
  refine Wp.istore_n dc_X2_holds_17 (by decide) ?_
  refine Wp.iload_n dc_X2_holds_18 rfl ?_
  refine Wp.bipush dc_X2_holds_19 bp_20 ?_
  refine Wp.icmp_ne (tgt := 30) dc_X2_holds_21 (by decide) (fun hc21 => ?_) (fun hc21 => ?_)
  · rw [if_neg hc21] at hE
    refine Wp.iload_n dc_X2_holds_30 rfl ?_
    refine Wp.bipush dc_X2_holds_31 bp_7 ?_
    refine Wp.icmp_ne (tgt := 43) dc_X2_holds_33 (by decide) (fun hc33 => ?_) (fun hc33 => ?_)
    · rw [if_neg hc33] at hE
      refine Wp.aload_n dc_X2_holds_43 rfl ?_
      refine Wp.aload_n dc_X2_holds_44 rfl ?_
      obtain ⟨v45, h45, hE⟩ := bnd hE
      refine Wp.cV0i (ok_X0_insideSet (by omega) h45) dc_X2_holds_45 mw_X2_126 (mO0 (by omega)) (by decide) (Nat.le_of_ble_eq_true rfl) ?_
      obtain ⟨v48, h48, hE⟩ := bnd hE
      refine Wp.cS2i (ok_X3_largest (by omega) h48) dc_X2_holds_48 mw_X2_129 (by decide) (Nat.le_of_ble_eq_true rfl) ?_
      exact ok_X2_holds_j51  hr0 hE hK
    · rw [if_pos hc33] at hE
      refine Wp.aload_n dc_X2_holds_36 rfl ?_
      obtain ⟨v37, h37, hE⟩ := bnd hE
      refine Wp.cV0i (ok_X0_crossingCount (by omega) h37) dc_X2_holds_37 mw_X2_123 (mO0 (by omega)) (by decide) (Nat.le_of_ble_eq_true rfl) ?_
      refine Wp.goto (tgt := 51) dc_X2_holds_40 (by decide) ?_
      exact ok_X2_holds_j51  hr0 hE hK
  · rw [if_pos hc21] at hE
    refine Wp.aload_n dc_X2_holds_24 rfl ?_
    refine Wp.iload_n dc_X2_holds_25 rfl ?_
    obtain ⟨v26, h26, hE⟩ := bnd hE
    refine Wp.cV1i (ok_X0_isFree (by omega) h26) dc_X2_holds_26 mw_X2_120 (mO0 (by omega)) (by decide) (Nat.le_of_ble_eq_true rfl) ?_
    obtain ⟨b29, h29, hE⟩ := bnd hE
    obtain ⟨e_29, hb29⟩ := zb_some h29
    skip
    cases hE
    exact Wp.ireturn dc_X2_holds_29 rfl hb29.1 (Nat.le_refl _) (Nat.le_refl _) hK
theorem ok_X2_holds  {σ : SS} {r0 : Nat} {x1 : Int32} {o}  (hr0 : r0 < 5) (hE : X2_holds  σ r0 x1 = some o) : Runs 4 0 0 mi_X2_holds [vr 0 r0, vi x1] (hp σ) (fun v h => v = some (vi o) ∧ h = hp σ) := by
  refine Runs.of pn_X2 (Nat.le_of_ble_eq_true rfl) ?_
  exact ok_X2_holds_j0  hr0 hE ⟨rfl, rfl⟩
def X2_openOften_P2 (Q : Option AV → AH → Prop)  (r1 : Nat) (x2 : Int32) (ss : Int32 × SS) : Prop := Ws 4 mi_X2_openOften Q 2 [some (vr 2 0), some (vr 0 r1), some (vi x2), some (vi ss.1)] [] ss.2
def X2_openOften_R2 (Q : Option AV → AH → Prop)  (r1 : Nat) (x2 : Int32) (tt : SS) : Prop := ∀ z1 z3 : Option AV, Ws 4 mi_X2_openOften Q 22 [some (vr 2 0), z1, some (vi x2), z3] [] tt
theorem ok_X2_openOften_l2c {Q : Option AV → AH → Prop}  {σ : SS} {r1 : Nat} {x2 : Int32} {x3 : Int32} {o}   (hr1 : r1 < 5) (hE : X2_openOften_l2c  σ r1 x2 x3 = some o) (hS : ∀ ss, o = Sum.inl ss → (X2_openOften_P2  Q  r1 x2) ss) (hT : ∀ tt, o = Sum.inr tt → (X2_openOften_R2  Q  r1 x2) tt) : Ws 4 mi_X2_openOften Q 2 [some (vr 2 0), some (vr 0 r1), some (vi x2), some (vi x3)] [] σ := by
  unfold X2_openOften_l2c at hE
  refine Wp.iload_n dc_X2_openOften_2 rfl ?_
  refine Wp.iload_n dc_X2_openOften_3 rfl ?_
  refine Wp.icmp_ge (tgt := 22) dc_X2_openOften_4 (by decide) (fun hc4 => ?_) (fun hc4 => ?_)
  · rw [if_pos hc4] at hE
    cases hE
    exact hT _ rfl _ _
  · rw [if_neg hc4] at hE
    refine Wp.aload_n dc_X2_openOften_7 rfl ?_
    refine Wp.iconst dc_X2_openOften_8 ic_2 ?_
    refine Wp.aload_n dc_X2_openOften_9 rfl ?_
    obtain ⟨p10, h10, hE⟩ := bnd hE
    refine Wp.cV0i (ok_X0_openOnce (by omega) h10) dc_X2_openOften_10 mw_X2_135 (mO0 (by omega)) (by decide) (Nat.le_of_ble_eq_true rfl) ?_
    obtain ⟨σ13, h13, hE⟩ := bnd hE
    refine Wp.cV2v (ok_X2_add  h13) dc_X2_openOften_13 mw_X2_71 (mO2 (by decide)) (by decide) (Nat.le_of_ble_eq_true rfl) ?_
    obtain ⟨x3_16, e_16, hE⟩ := bnS hE
    refine Wp.iinc dc_X2_openOften_16 rfl ((ii ic_1).trans e_16) (by decide) ?_
    refine Wp.goto (tgt := 2) dc_X2_openOften_19 (by decide) ?_
    cases hE
    exact hS _ rfl
theorem ok_X2_openOften_l2 {Q : Option AV → AH → Prop}  {σ : SS} {r1 : Nat} {x2 : Int32} {x3 : Int32} {o}   (hr1 : r1 < 5) (hE : X2_openOften_l2  σ r1 x2 x3 = some o) (hK : Q none (hp o)) : Ws 4 mi_X2_openOften Q 2 [some (vr 2 0), some (vr 0 r1), some (vi x2), some (vi x3)] [] σ := by
  unfold X2_openOften_l2 at hE
  obtain ⟨t2, h1, hE⟩ := bnd hE
  refine iter_ok (P := (X2_openOften_P2  Q  r1 x2)) (R := (X2_openOften_R2  Q  r1 x2)) (fun ss o h2 hS hT => ?_) NF _ _ h1 ?_
  · skip
    exact ok_X2_openOften_l2c  hr1 h2 hS hT
  · intro z1 z3
    show Ws 4 mi_X2_openOften Q 22 [some (vr 2 0), z1, some (vi x2), z3] [] t2
    refine Wp.aload_n dc_X2_openOften_22 rfl ?_
    refine Wp.iconst dc_X2_openOften_23 ic_1 ?_
    refine Wp.iload_n dc_X2_openOften_24 rfl ?_
    obtain ⟨σ25, h25, hE⟩ := bnd hE
    refine Wp.cV2v (ok_X2_add  h25) dc_X2_openOften_25 mw_X2_71 (mO2 (by decide)) (by decide) (Nat.le_of_ble_eq_true rfl) ?_
    cases hE
    exact Wp.return dc_X2_openOften_28 rfl (Nat.le_refl _) (Nat.le_refl _) hK
theorem ok_X2_openOften_j0 {Q : Option AV → AH → Prop}  {σ : SS} {r1 : Nat} {x2 : Int32} {o} {z3 : Option AV}  (hr1 : r1 < 5) (hE : X2_openOften_j0  σ r1 x2 = some o) (hK : Q none (hp o)) : Ws 4 mi_X2_openOften Q 0 [some (vr 2 0), some (vr 0 r1), some (vi x2), z3] [] σ := by
  unfold X2_openOften_j0 at hE
  refine Wp.iconst dc_X2_openOften_0 ic_0 ?_
  refine Wp.istore_n dc_X2_openOften_1 (by decide) ?_
  exact ok_X2_openOften_l2  hr1 hE hK
theorem ok_X2_openOften  {σ : SS} {r1 : Nat} {x2 : Int32} {o}  (hr1 : r1 < 5) (hE : X2_openOften  σ r1 x2 = some o) : Runs 4 0 0 mi_X2_openOften [vr 2 0, vr 0 r1, vi x2] (hp σ) (fun v h => v = none ∧ h = hp o) := by
  refine Runs.of pn_X2 (Nat.le_of_ble_eq_true rfl) ?_
  exact ok_X2_openOften_j0  hr1 hE ⟨rfl, rfl⟩
def X7_layRow_P8 (Q : Option AV → AH → Prop)  (r1 : Nat) (x2 : Int32) (x3 : Int32) (x4 : Int32) (ss : Int32 × SS) : Prop := ∀ z6 z7 : Option AV, Ws 2 mi_X7_layRow Q 8 [some (vr 6 0), some (vr 0 r1), some (vi x2), some (vi x3), some (vi x4), some (vi ss.1), z6, z7] [] ss.2
def X7_layRow_R8 (Q : Option AV → AH → Prop)  (r1 : Nat) (x2 : Int32) (x3 : Int32) (x4 : Int32) (tt : SS) : Prop := ∀ z0 z1 z2 z3 z4 z5 z6 z7 : Option AV, Ws 2 mi_X7_layRow Q 107 [z0, z1, z2, z3, z4, z5, z6, z7] [] tt
theorem ok_X7_layRow_j101 {Q : Option AV → AH → Prop}  {σ : SS} {r1 : Nat} {x2 : Int32} {x3 : Int32} {x4 : Int32} {x5 : Int32} {o} {z6 z7 : Option AV}  (hr1 : r1 < 5) (hE : X7_layRow_j101  σ r1 x2 x3 x4 x5 = some o) (hS : ∀ ss, o = Sum.inl ss → (X7_layRow_P8  Q  r1 x2 x3 x4) ss) (hT : ∀ tt, o = Sum.inr tt → (X7_layRow_R8  Q  r1 x2 x3 x4) tt) : Ws 2 mi_X7_layRow Q 101 [some (vr 6 0), some (vr 0 r1), some (vi x2), some (vi x3), some (vi x4), some (vi x5), z6, z7] [] σ := by
  unfold X7_layRow_j101 at hE
  obtain ⟨x5_101, e_101, hE⟩ := bnS hE
  refine Wp.iinc dc_X7_layRow_101 rfl ((ii ic_1).trans e_101) (by decide) ?_
  refine Wp.goto (tgt := 8) dc_X7_layRow_104 (by decide) ?_
  cases hE
  exact hS _ rfl _ _
theorem ok_X7_layRow_l8c {Q : Option AV → AH → Prop}  {σ : SS} {r1 : Nat} {x2 : Int32} {x3 : Int32} {x4 : Int32} {x5 : Int32} {o} {z6 z7 : Option AV}  (hr1 : r1 < 5) (hE : X7_layRow_l8c  σ r1 x2 x3 x4 x5 = some o) (hS : ∀ ss, o = Sum.inl ss → (X7_layRow_P8  Q  r1 x2 x3 x4) ss) (hT : ∀ tt, o = Sum.inr tt → (X7_layRow_R8  Q  r1 x2 x3 x4) tt) : Ws 2 mi_X7_layRow Q 8 [some (vr 6 0), some (vr 0 r1), some (vi x2), some (vi x3), some (vi x4), some (vi x5), z6, z7] [] σ := by
  unfold X7_layRow_l8c at hE
  refine Wp.iload dc_X7_layRow_8 rfl ?_
  refine Wp.aload_n dc_X7_layRow_10 rfl ?_
  obtain ⟨v11, h11, hE⟩ := bnd hE
  refine Wp.cV0i (ok_X0_crossingCount (by omega) h11) dc_X7_layRow_11 mw_X7_123 (mO0 (by omega)) (by decide) (Nat.le_of_ble_eq_true rfl) ?_
  refine Wp.icmp_ge (tgt := 107) dc_X7_layRow_14 (by decide) (fun hc14 => ?_) (fun hc14 => ?_)
  · rw [if_pos hc14] at hE
    cases hE
    exact hT _ rfl _ _ _ _ _ _ _ _
  · rw [if_neg hc14] at hE
    refine Wp.aload_n dc_X7_layRow_17 rfl ?_
    refine Wp.iload dc_X7_layRow_18 rfl ?_
    refine Wp.iload_n dc_X7_layRow_20 rfl ?_
    obtain ⟨v21, h21, hE⟩ := bnd hE
    refine Wp.cV2i (ok_X0_otherAt (by omega) h21) dc_X7_layRow_21 mw_X7_126 (mO0 (by omega)) (by decide) (Nat.le_of_ble_eq_true rfl) ?_
    refine Wp.istore dc_X7_layRow_24 (by decide) ?_
    refine Wp.iload dc_X7_layRow_26 rfl ?_
    refine Wp.iconst dc_X7_layRow_28 ic_m1 ?_
    refine Wp.icmp_eq (tgt := 101) dc_X7_layRow_29 (by decide) (fun hc29 => ?_) (fun hc29 => ?_)
    · rw [if_pos hc29] at hE
      exact ok_X7_layRow_j101  hr1 hE hS hT
    · rw [if_neg hc29] at hE
      refine Wp.iload_n dc_X7_layRow_32 rfl ?_
      refine Wp.iload dc_X7_layRow_33 rfl ?_
      refine Wp.ishr dc_X7_layRow_35 ?_
      refine Wp.iconst dc_X7_layRow_36 ic_1 ?_
      refine Wp.iand dc_X7_layRow_37 ?_
      refine Wp.if_ne (tgt := 101) dc_X7_layRow_38 (by decide) (fun hc38 => ?_) (fun hc38 => ?_)
      · rw [if_neg hc38] at hE
        exact ok_X7_layRow_j101  hr1 hE hS hT
      · rw [if_pos hc38] at hE
        refine Wp.aload_n dc_X7_layRow_41 rfl ?_
        refine Wp.iload dc_X7_layRow_42 rfl ?_
        refine Wp.iload dc_X7_layRow_44 rfl ?_
        obtain ⟨v46, h46, hE⟩ := bnd hE
        refine Wp.cV2i (ok_X0_stateAfter (by omega) h46) dc_X7_layRow_46 mw_X7_129 (mO0 (by omega)) (by decide) (Nat.le_of_ble_eq_true rfl) ?_
        refine Wp.istore dc_X7_layRow_49 (by decide) ?_
        refine Wp.iload dc_X7_layRow_51 rfl ?_
        refine Wp.iconst dc_X7_layRow_53 ic_m1 ?_
        refine Wp.icmp_le (tgt := 101) dc_X7_layRow_54 (by decide) (fun hc54 => ?_) (fun hc54 => ?_)
        · rw [if_pos hc54] at hE
          exact ok_X7_layRow_j101  hr1 hE hS hT
        · rw [if_neg hc54] at hE
          refine Wp.aload_n dc_X7_layRow_57 rfl ?_
          refine Wp.sgetR (t := 22) dc_X7_layRow_58 fw_X7_16 (mO6 (by decide)) rfl ?_
          refine Wp.iconst dc_X7_layRow_61 ic_0 ?_
          refine Wp.aload_n dc_X7_layRow_62 rfl ?_
          refine Wp.sgetI dc_X7_layRow_63 fw_X7_58 (mO6 (by decide)) ?_
          refine Wp.aload_n dc_X7_layRow_66 rfl ?_
          refine Wp.iload dc_X7_layRow_67 rfl ?_
          refine Wp.iload dc_X7_layRow_69 rfl ?_
          obtain ⟨v71, h71, hE⟩ := bnd hE
          refine Wp.cV2i (ok_X0_secondsToUndo (by omega) h71) dc_X7_layRow_71 mw_X7_132 (mO0 (by omega)) (by decide) (Nat.le_of_ble_eq_true rfl) ?_
          obtain ⟨σ74, h74, hE⟩ := bnd hE
          refine Wp.cV3v (ok_X4_put (by decide) h74) dc_X7_layRow_74 mw_X7_47 (mO3 (by decide)) (by decide) (Nat.le_of_ble_eq_true rfl) ?_
          refine Wp.aload_n dc_X7_layRow_77 rfl ?_
          refine Wp.sgetR (t := 22) dc_X7_layRow_78 fw_X7_16 (mO6 (by decide)) rfl ?_
          refine Wp.iconst dc_X7_layRow_81 ic_1 ?_
          refine Wp.aload_n dc_X7_layRow_82 rfl ?_
          refine Wp.sgetI dc_X7_layRow_83 fw_X7_58 (mO6 (by decide)) ?_
          refine Wp.iload dc_X7_layRow_86 rfl ?_
          obtain ⟨σ88, h88, hE⟩ := bnd hE
          refine Wp.cV3v (ok_X4_put (by decide) h88) dc_X7_layRow_88 mw_X7_47 (mO3 (by decide)) (by decide) (Nat.le_of_ble_eq_true rfl) ?_
          refine Wp.aload_n dc_X7_layRow_91 rfl ?_
          refine Wp.dup dc_X7_layRow_92 rfl ?_
          refine Wp.sgetI dc_X7_layRow_93 fw_X7_58 (mO6 (by decide)) ?_
          refine Wp.iconst dc_X7_layRow_96 ic_1 ?_
          refine Wp.iadd dc_X7_layRow_97 ?_
          refine Wp.sputI dc_X7_layRow_98 fw_X7_58 (mO6 (by decide)) (Nr.i _) ?_
          obtain ⟨σ98, es_98, hE⟩ := bnS hE
          rw [es_98]
          exact ok_X7_layRow_j101  hr1 hE hS hT
theorem ok_X7_layRow_l8 {Q : Option AV → AH → Prop}  {σ : SS} {r1 : Nat} {x2 : Int32} {x3 : Int32} {x4 : Int32} {x5 : Int32} {o} {z6 z7 : Option AV}  (hr1 : r1 < 5) (hE : X7_layRow_l8  σ r1 x2 x3 x4 x5 = some o) (hK : Q none (hp o)) : Ws 2 mi_X7_layRow Q 8 [some (vr 6 0), some (vr 0 r1), some (vi x2), some (vi x3), some (vi x4), some (vi x5), z6, z7] [] σ := by
  unfold X7_layRow_l8 at hE
  obtain ⟨t8, h1, hE⟩ := bnd hE
  refine iter_ok (P := (X7_layRow_P8  Q  r1 x2 x3 x4)) (R := (X7_layRow_R8  Q  r1 x2 x3 x4)) (fun ss o h2 hS hT => ?_) NF _ _ h1 ?_ _ _
  · intro z6 z7
    exact ok_X7_layRow_l8c  hr1 h2 hS hT
  · intro z0 z1 z2 z3 z4 z5 z6 z7
    show Ws 2 mi_X7_layRow Q 107 [z0, z1, z2, z3, z4, z5, z6, z7] [] t8
    cases hE
    exact Wp.return dc_X7_layRow_107 rfl (Nat.le_refl _) (Nat.le_refl _) hK
theorem ok_X7_layRow_j0 {Q : Option AV → AH → Prop}  {σ : SS} {r1 : Nat} {x2 : Int32} {x3 : Int32} {x4 : Int32} {o} {z5 z6 z7 : Option AV}  (hr1 : r1 < 5) (hE : X7_layRow_j0  σ r1 x2 x3 x4 = some o) (hK : Q none (hp o)) : Ws 2 mi_X7_layRow Q 0 [some (vr 6 0), some (vr 0 r1), some (vi x2), some (vi x3), some (vi x4), z5, z6, z7] [] σ := by
  unfold X7_layRow_j0 at hE
  refine Wp.aload_n dc_X7_layRow_0 rfl ?_
  refine Wp.iconst dc_X7_layRow_1 ic_0 ?_
  refine Wp.sputI dc_X7_layRow_2 fw_X7_58 (mO6 (by decide)) (Nr.i _) ?_
  obtain ⟨σ2, es_2, hE⟩ := bnS hE
  rw [es_2]
  refine Wp.iconst dc_X7_layRow_5 ic_0 ?_
  refine Wp.istore dc_X7_layRow_6 (by decide) ?_
  exact ok_X7_layRow_l8  hr1 hE hK
theorem ok_X7_layRow  {σ : SS} {r1 : Nat} {x2 : Int32} {x3 : Int32} {x4 : Int32} {o}  (hr1 : r1 < 5) (hE : X7_layRow  σ r1 x2 x3 x4 = some o) : Runs 2 0 0 mi_X7_layRow [vr 6 0, vr 0 r1, vi x2, vi x3, vi x4] (hp σ) (fun v h => v = none ∧ h = hp o) := by
  refine Runs.of pn_X7 (Nat.le_of_ble_eq_true rfl) ?_
  exact ok_X7_layRow_j0  hr1 hE ⟨rfl, rfl⟩
def X7_firstTied_P2 (Q : Option AV → AH → Prop) (σ : SS)   (ss : Int32) : Prop := ∀ z1 : Option AV, Ws 1 mi_X7_firstTied Q 2 [some (vr 6 0), z1, some (vi ss)] [] σ
def X7_firstTied_R2 (Q : Option AV → AH → Prop) (σ : SS)   (tt : (Int32) ⊕ (Unit)) : Prop := match tt with
  | Sum.inl tt => ∀ z0 z1 : Option AV, Ws 1 mi_X7_firstTied Q 22 [z0, z1, some (vi tt)] [] σ
  | Sum.inr tt => ∀ z1 z2 : Option AV, Ws 1 mi_X7_firstTied Q 30 [some (vr 6 0), z1, z2] [] σ
theorem ok_X7_firstTied_l2c {Q : Option AV → AH → Prop}  {σ : SS}   {x2 : Int32} {o} {z1 : Option AV}   (hE : X7_firstTied_l2c  σ   x2 = some o) (hS : ∀ ss, o = Sum.inl ss → (X7_firstTied_P2  Q σ  ) ss) (hT : ∀ tt, o = Sum.inr tt → (X7_firstTied_R2  Q σ  ) tt) : Ws 1 mi_X7_firstTied Q 2 [some (vr 6 0), z1, some (vi x2)] [] σ := by
  unfold X7_firstTied_l2c at hE
  refine Wp.iload_n dc_X7_firstTied_2 rfl ?_
  refine Wp.aload_n dc_X7_firstTied_3 rfl ?_
  refine Wp.sgetI dc_X7_firstTied_4 fw_X7_58 (mO6 (by decide)) ?_
  refine Wp.icmp_ge (tgt := 30) dc_X7_firstTied_7 (by decide) (fun hc7 => ?_) (fun hc7 => ?_)
  · rw [if_pos hc7] at hE
    cases hE
    exact hT _ rfl _ _
  · rw [if_neg hc7] at hE
    refine Wp.aload_n dc_X7_firstTied_10 rfl ?_
    refine Wp.sgetR (t := 22) dc_X7_firstTied_11 fw_X7_16 (mO6 (by decide)) rfl ?_
    refine Wp.iconst dc_X7_firstTied_14 ic_1 ?_
    refine Wp.iload_n dc_X7_firstTied_15 rfl ?_
    obtain ⟨v16, h16, hE⟩ := bnd hE
    refine Wp.cV2i (ok_X4_at (by decide) h16) dc_X7_firstTied_16 mw_X7_61 (mO3 (by decide)) (by decide) (Nat.le_of_ble_eq_true rfl) ?_
    refine Wp.if_eq (tgt := 24) dc_X7_firstTied_19 (by decide) (fun hc19 => ?_) (fun hc19 => ?_)
    · rw [if_pos hc19] at hE
      obtain ⟨x2_24, e_24, hE⟩ := bnS hE
      refine Wp.iinc dc_X7_firstTied_24 rfl ((ii ic_1).trans e_24) (by decide) ?_
      refine Wp.goto (tgt := 2) dc_X7_firstTied_27 (by decide) ?_
      cases hE
      exact hS _ rfl _
    · rw [if_neg hc19] at hE
      cases hE
      exact hT _ rfl _ _
theorem ok_X7_firstTied_l2 {Q : Option AV → AH → Prop}  {σ : SS}  {x2 : Int32} {o} {z1 : Option AV}   (hE : X7_firstTied_l2  σ  x2 = some o) (hK : Q (some (vi o)) (hp σ)) : Ws 1 mi_X7_firstTied Q 2 [some (vr 6 0), z1, some (vi x2)] [] σ := by
  unfold X7_firstTied_l2 at hE
  obtain ⟨t2, h1, hE⟩ := bnd hE
  refine iter_ok (P := (X7_firstTied_P2  Q σ  )) (R := (X7_firstTied_R2  Q σ  )) (fun ss o h2 hS hT => ?_) NF _ _ h1 ?_ _
  · intro z1
    exact ok_X7_firstTied_l2c   h2 hS hT
  · rcases t2 with e22 | u22
    · dsimp only at hE
      intro z0 z1
      show Ws 1 mi_X7_firstTied Q 22 [z0, z1, some (vi e22)] [] σ
      refine Wp.iload_n dc_X7_firstTied_22 rfl ?_
      cases hE
      exact Wp.ireturn dc_X7_firstTied_23 rfl rfl (Nat.le_refl _) (Nat.le_refl _) hK
    · dsimp only at hE
      skip
      intro z1 z2
      show Ws 1 mi_X7_firstTied Q 30 [some (vr 6 0), z1, z2] [] σ
      refine Wp.aload_n dc_X7_firstTied_30 rfl ?_
      refine Wp.sgetI dc_X7_firstTied_31 fw_X7_58 (mO6 (by decide)) ?_
      cases hE
      exact Wp.ireturn dc_X7_firstTied_34 rfl rfl (Nat.le_refl _) (Nat.le_refl _) hK
theorem ok_X7_firstTied_j0 {Q : Option AV → AH → Prop}  {σ : SS}  {x1 : Int32} {o} {z2 : Option AV}   (hE : X7_firstTied_j0  σ  x1 = some o) (hK : Q (some (vi o)) (hp σ)) : Ws 1 mi_X7_firstTied Q 0 [some (vr 6 0), some (vi x1), z2] [] σ := by
  unfold X7_firstTied_j0 at hE
  refine Wp.iload_n dc_X7_firstTied_0 rfl ?_
  refine Wp.istore_n dc_X7_firstTied_1 (by decide) ?_
  exact ok_X7_firstTied_l2   hE hK
theorem ok_X7_firstTied  {σ : SS}  {x1 : Int32} {o}   (hE : X7_firstTied  σ  x1 = some o) : Runs 1 0 0 mi_X7_firstTied [vr 6 0, vi x1] (hp σ) (fun v h => v = some (vi o) ∧ h = hp σ) := by
  refine Runs.of pn_X7 (Nat.le_of_ble_eq_true rfl) ?_
  exact ok_X7_firstTied_j0   hE ⟨rfl, rfl⟩
def X7_fewestSeconds_P7 (Q : Option AV → AH → Prop)    (ss : Int32 × Int32 × Int32 × SS) : Prop := ∀ z4 z5 z6 z7 z8 : Option AV, Ws 2 mi_X7_fewestSeconds Q 7 [some (vr 6 0), some (vi ss.1), some (vi ss.2.1), some (vi ss.2.2.1), z4, z5, z6, z7, z8] [] ss.2.2.2
def X7_fewestSeconds_R7 (Q : Option AV → AH → Prop)    (tt : Int32 × SS) : Prop := ∀ z0 z2 z3 z4 z5 z6 z7 z8 : Option AV, Ws 2 mi_X7_fewestSeconds Q 132 [z0, some (vi tt.1), z2, z3, z4, z5, z6, z7, z8] [] tt.2
def X7_fewestSeconds_P28 (Q : Option AV → AH → Prop)   (x2 : Int32) (x3 : Int32) (x4 : Int32) (ss : Int32 × Int32 × Int32 × SS) : Prop := ∀ z7 z8 : Option AV, Ws 2 mi_X7_fewestSeconds Q 28 [some (vr 6 0), some (vi ss.1), some (vi x2), some (vi x3), some (vi x4), some (vi ss.2.1), some (vi ss.2.2.1), z7, z8] [] ss.2.2.2
def X7_fewestSeconds_R28 (Q : Option AV → AH → Prop)   (x2 : Int32) (x3 : Int32) (x4 : Int32) (tt : Int32 × SS) : Prop := ∀ z4 z5 z6 z7 z8 : Option AV, Ws 2 mi_X7_fewestSeconds Q 114 [some (vr 6 0), some (vi tt.1), some (vi x2), some (vi x3), z4, z5, z6, z7, z8] [] tt.2
theorem ok_X7_fewestSeconds_j91 {Q : Option AV → AH → Prop}  {σ : SS}  {x1 : Int32} {x2 : Int32} {x3 : Int32} {x4 : Int32} {x5 : Int32} {x6 : Int32} {x7 : Int32} {o} {z8 : Option AV}   (hE : X7_fewestSeconds_j91  σ  x1 x2 x3 x4 x5 x6 x7 = some o) (hS : ∀ ss, o = Sum.inl ss → (X7_fewestSeconds_P28  Q   x2 x3 x4) ss) (hT : ∀ tt, o = Sum.inr tt → (X7_fewestSeconds_R28  Q   x2 x3 x4) tt) : Ws 2 mi_X7_fewestSeconds Q 91 [some (vr 6 0), some (vi x1), some (vi x2), some (vi x3), some (vi x4), some (vi x5), some (vi x6), some (vi x7), z8] [] σ := by
  unfold X7_fewestSeconds_j91 at hE
  refine Wp.iload dc_X7_fewestSeconds_91 rfl ?_
  refine Wp.aload_n dc_X7_fewestSeconds_93 rfl ?_
  refine Wp.sgetR (t := 22) dc_X7_fewestSeconds_94 fw_X7_16 (mO6 (by decide)) rfl ?_
  refine Wp.iconst dc_X7_fewestSeconds_97 ic_0 ?_
  refine Wp.iload dc_X7_fewestSeconds_98 rfl ?_
  refine Wp.iconst dc_X7_fewestSeconds_100 ic_1 ?_
  refine Wp.isub dc_X7_fewestSeconds_101 ?_
  obtain ⟨v102, h102, hE⟩ := bnd hE
  refine Wp.cV2i (ok_X4_at (by decide) h102) dc_X7_fewestSeconds_102 mw_X7_61 (mO3 (by decide)) (by decide) (Nat.le_of_ble_eq_true rfl) ?_
  refine Wp.iadd dc_X7_fewestSeconds_105 ?_
  obtain ⟨x5_106, e_106, hE⟩ := bnS hE
  rw [e_106]
  refine Wp.istore dc_X7_fewestSeconds_106 (by decide) ?_
  obtain ⟨x6_108, e_108, hE⟩ := bnS hE
  refine Wp.iinc dc_X7_fewestSeconds_108 rfl ((ii ic_1).trans e_108) (by decide) ?_
  refine Wp.goto (tgt := 28) dc_X7_fewestSeconds_111 (by decide) ?_
  cases hE
  exact hS _ rfl _ _
theorem ok_X7_fewestSeconds_j61 {Q : Option AV → AH → Prop}  {σ : SS}  {x1 : Int32} {x2 : Int32} {x3 : Int32} {x4 : Int32} {x5 : Int32} {x6 : Int32} {x7 : Int32} {s0 : Int32} {s1 : Int32} {o} {z8 : Option AV}   (hE : X7_fewestSeconds_j61  σ  x1 x2 x3 x4 x5 x6 x7 s0 s1 = some o) (hS : ∀ ss, o = Sum.inl ss → (X7_fewestSeconds_P28  Q   x2 x3 x4) ss) (hT : ∀ tt, o = Sum.inr tt → (X7_fewestSeconds_R28  Q   x2 x3 x4) tt) : Ws 2 mi_X7_fewestSeconds Q 61 [some (vr 6 0), some (vi x1), some (vi x2), some (vi x3), some (vi x4), some (vi x5), some (vi x6), some (vi x7), z8] [vi s1, vi s0] σ := by
  unfold X7_fewestSeconds_j61 at hE
  refine Wp.iadd dc_X7_fewestSeconds_61 ?_
  obtain ⟨x8_62, e_62, hE⟩ := bnS hE
  rw [e_62]
  refine Wp.istore dc_X7_fewestSeconds_62 (by decide) ?_
  refine Wp.iload dc_X7_fewestSeconds_64 rfl ?_
  refine Wp.iload dc_X7_fewestSeconds_66 rfl ?_
  refine Wp.icmp_gt (tgt := 91) dc_X7_fewestSeconds_68 (by decide) (fun hc68 => ?_) (fun hc68 => ?_)
  · rw [if_pos hc68] at hE
    exact ok_X7_fewestSeconds_j91   hE hS hT
  · rw [if_neg hc68] at hE
    refine Wp.iload dc_X7_fewestSeconds_71 rfl ?_
    refine Wp.iload_n dc_X7_fewestSeconds_73 rfl ?_
    refine Wp.icmp_ge (tgt := 91) dc_X7_fewestSeconds_74 (by decide) (fun hc74 => ?_) (fun hc74 => ?_)
    · rw [if_pos hc74] at hE
      exact ok_X7_fewestSeconds_j91   hE hS hT
    · rw [if_neg hc74] at hE
      refine Wp.iload dc_X7_fewestSeconds_77 rfl ?_
      refine Wp.istore_n dc_X7_fewestSeconds_79 (by decide) ?_
      refine Wp.aload_n dc_X7_fewestSeconds_80 rfl ?_
      refine Wp.iload_n dc_X7_fewestSeconds_81 rfl ?_
      refine Wp.sputI dc_X7_fewestSeconds_82 fw_X7_51 (mO6 (by decide)) (Nr.i _) ?_
      obtain ⟨σ82, es_82, hE⟩ := bnS hE
      rw [es_82]
      refine Wp.aload_n dc_X7_fewestSeconds_85 rfl ?_
      refine Wp.iload dc_X7_fewestSeconds_86 rfl ?_
      refine Wp.sputI dc_X7_fewestSeconds_88 fw_X7_55 (mO6 (by decide)) (Nr.i _) ?_
      obtain ⟨σ88, es_88, hE⟩ := bnS hE
      rw [es_88]
      exact ok_X7_fewestSeconds_j91   hE hS hT
theorem ok_X7_fewestSeconds_l28c {Q : Option AV → AH → Prop}  {σ : SS}  {x2 : Int32} {x3 : Int32} {x4 : Int32} {x1 : Int32} {x5 : Int32} {x6 : Int32} {o} {z7 z8 : Option AV}   (hE : X7_fewestSeconds_l28c  σ  x2 x3 x4 x1 x5 x6 = some o) (hS : ∀ ss, o = Sum.inl ss → (X7_fewestSeconds_P28  Q   x2 x3 x4) ss) (hT : ∀ tt, o = Sum.inr tt → (X7_fewestSeconds_R28  Q   x2 x3 x4) tt) : Ws 2 mi_X7_fewestSeconds Q 28 [some (vr 6 0), some (vi x1), some (vi x2), some (vi x3), some (vi x4), some (vi x5), some (vi x6), z7, z8] [] σ := by
  unfold X7_fewestSeconds_l28c at hE
  refine Wp.iload_n dc_X7_fewestSeconds_28 rfl ?_
  refine Wp.iload dc_X7_fewestSeconds_29 rfl ?_
  refine Wp.iadd dc_X7_fewestSeconds_31 ?_
  refine Wp.aload_n dc_X7_fewestSeconds_32 rfl ?_
  refine Wp.sgetI dc_X7_fewestSeconds_33 fw_X7_58 (mO6 (by decide)) ?_
  refine Wp.icmp_gt (tgt := 114) dc_X7_fewestSeconds_36 (by decide) (fun hc36 => ?_) (fun hc36 => ?_)
  · rw [if_pos hc36] at hE
    cases hE
    exact hT _ rfl _ _ _ _ _
  · rw [if_neg hc36] at hE
    refine Wp.aload_n dc_X7_fewestSeconds_39 rfl ?_
    refine Wp.sgetI dc_X7_fewestSeconds_40 fw_X7_58 (mO6 (by decide)) ?_
    refine Wp.iload dc_X7_fewestSeconds_43 rfl ?_
    refine Wp.isub dc_X7_fewestSeconds_45 ?_
    obtain ⟨x7_46, e_46, hE⟩ := bnS hE
    rw [e_46]
    refine Wp.istore dc_X7_fewestSeconds_46 (by decide) ?_
    refine Wp.iload dc_X7_fewestSeconds_48 rfl ?_
    refine Wp.iload dc_X7_fewestSeconds_50 rfl ?_
    refine Wp.iload_n dc_X7_fewestSeconds_52 rfl ?_
    refine Wp.icmp_le (tgt := 60) dc_X7_fewestSeconds_53 (by decide) (fun hc53 => ?_) (fun hc53 => ?_)
    · rw [if_pos hc53] at hE
      refine Wp.iconst dc_X7_fewestSeconds_60 ic_0 ?_
      exact ok_X7_fewestSeconds_j61   hE hS hT
    · rw [if_neg hc53] at hE
      refine Wp.iconst dc_X7_fewestSeconds_56 ic_2 ?_
      refine Wp.goto (tgt := 61) dc_X7_fewestSeconds_57 (by decide) ?_
      exact ok_X7_fewestSeconds_j61   hE hS hT
theorem ok_X7_fewestSeconds_l28 {Q : Option AV → AH → Prop}  {σ : SS}  {x1 : Int32} {x2 : Int32} {x3 : Int32} {x4 : Int32} {x5 : Int32} {x6 : Int32} {o} {z7 z8 : Option AV}   (hE : X7_fewestSeconds_l28  σ  x1 x2 x3 x4 x5 x6 = some o) (hS : ∀ ss, o = Sum.inl ss → (X7_fewestSeconds_P7  Q   ) ss) (hT : ∀ tt, o = Sum.inr tt → (X7_fewestSeconds_R7  Q   ) tt) : Ws 2 mi_X7_fewestSeconds Q 28 [some (vr 6 0), some (vi x1), some (vi x2), some (vi x3), some (vi x4), some (vi x5), some (vi x6), z7, z8] [] σ := by
  unfold X7_fewestSeconds_l28 at hE
  obtain ⟨t28, h1, hE⟩ := bnd hE
  refine iter_ok (P := (X7_fewestSeconds_P28  Q   x2 x3 x4)) (R := (X7_fewestSeconds_R28  Q   x2 x3 x4)) (fun ss o h2 hS hT => ?_) NF _ _ h1 ?_ _ _
  · intro z7 z8
    exact ok_X7_fewestSeconds_l28c   h2 hS hT
  · intro z4 z5 z6 z7 z8
    show Ws 2 mi_X7_fewestSeconds Q 114 [some (vr 6 0), some (vi t28.1), some (vi x2), some (vi x3), z4, z5, z6, z7, z8] [] t28.2
    refine Wp.iload_n dc_X7_fewestSeconds_114 rfl ?_
    refine Wp.aload_n dc_X7_fewestSeconds_115 rfl ?_
    refine Wp.sgetR (t := 22) dc_X7_fewestSeconds_116 fw_X7_16 (mO6 (by decide)) rfl ?_
    refine Wp.iconst dc_X7_fewestSeconds_119 ic_0 ?_
    refine Wp.iload_n dc_X7_fewestSeconds_120 rfl ?_
    obtain ⟨v121, h121, hE⟩ := bnd hE
    refine Wp.cV2i (ok_X4_at (by decide) h121) dc_X7_fewestSeconds_121 mw_X7_61 (mO3 (by decide)) (by decide) (Nat.le_of_ble_eq_true rfl) ?_
    refine Wp.iadd dc_X7_fewestSeconds_124 ?_
    obtain ⟨x2_125, e_125, hE⟩ := bnS hE
    rw [e_125]
    refine Wp.istore_n dc_X7_fewestSeconds_125 (by decide) ?_
    obtain ⟨x3_126, e_126, hE⟩ := bnS hE
    refine Wp.iinc dc_X7_fewestSeconds_126 rfl ((ii ic_1).trans e_126) (by decide) ?_
    refine Wp.goto (tgt := 7) dc_X7_fewestSeconds_129 (by decide) ?_
    cases hE
    exact hS _ rfl _ _ _ _ _
theorem ok_X7_fewestSeconds_l7c {Q : Option AV → AH → Prop}  {σ : SS}   {x1 : Int32} {x2 : Int32} {x3 : Int32} {o} {z4 z5 z6 z7 z8 : Option AV}   (hE : X7_fewestSeconds_l7c  σ   x1 x2 x3 = some o) (hS : ∀ ss, o = Sum.inl ss → (X7_fewestSeconds_P7  Q   ) ss) (hT : ∀ tt, o = Sum.inr tt → (X7_fewestSeconds_R7  Q   ) tt) : Ws 2 mi_X7_fewestSeconds Q 7 [some (vr 6 0), some (vi x1), some (vi x2), some (vi x3), z4, z5, z6, z7, z8] [] σ := by
  unfold X7_fewestSeconds_l7c at hE
  refine Wp.iload_n dc_X7_fewestSeconds_7 rfl ?_
  refine Wp.aload_n dc_X7_fewestSeconds_8 rfl ?_
  refine Wp.sgetI dc_X7_fewestSeconds_9 fw_X7_58 (mO6 (by decide)) ?_
  refine Wp.icmp_gt (tgt := 132) dc_X7_fewestSeconds_12 (by decide) (fun hc12 => ?_) (fun hc12 => ?_)
  · rw [if_pos hc12] at hE
    cases hE
    exact hT _ rfl _ _ _ _ _ _ _ _
  · rw [if_neg hc12] at hE
    refine Wp.aload_n dc_X7_fewestSeconds_15 rfl ?_
    refine Wp.iload_n dc_X7_fewestSeconds_16 rfl ?_
    obtain ⟨v17, h17, hE⟩ := bnd hE
    refine Wp.cV1i (ok_X7_firstTied  h17) dc_X7_fewestSeconds_17 mw_X7_135 (mO6 (by decide)) (by decide) (Nat.le_of_ble_eq_true rfl) ?_
    refine Wp.istore dc_X7_fewestSeconds_20 (by decide) ?_
    refine Wp.iload_n dc_X7_fewestSeconds_22 rfl ?_
    refine Wp.istore dc_X7_fewestSeconds_23 (by decide) ?_
    refine Wp.iconst dc_X7_fewestSeconds_25 ic_0 ?_
    refine Wp.istore dc_X7_fewestSeconds_26 (by decide) ?_
    exact ok_X7_fewestSeconds_l28   hE hS hT
theorem ok_X7_fewestSeconds_l7 {Q : Option AV → AH → Prop}  {σ : SS}  {x1 : Int32} {x2 : Int32} {x3 : Int32} {o} {z4 z5 z6 z7 z8 : Option AV}   (hE : X7_fewestSeconds_l7  σ  x1 x2 x3 = some o) (hK : Q (some (vi o.1)) (hp o.2)) : Ws 2 mi_X7_fewestSeconds Q 7 [some (vr 6 0), some (vi x1), some (vi x2), some (vi x3), z4, z5, z6, z7, z8] [] σ := by
  unfold X7_fewestSeconds_l7 at hE
  obtain ⟨t7, h1, hE⟩ := bnd hE
  refine iter_ok (P := (X7_fewestSeconds_P7  Q   )) (R := (X7_fewestSeconds_R7  Q   )) (fun ss o h2 hS hT => ?_) NF _ _ h1 ?_ _ _ _ _ _
  · intro z4 z5 z6 z7 z8
    exact ok_X7_fewestSeconds_l7c   h2 hS hT
  · intro z0 z2 z3 z4 z5 z6 z7 z8
    show Ws 2 mi_X7_fewestSeconds Q 132 [z0, some (vi t7.1), z2, z3, z4, z5, z6, z7, z8] [] t7.2
    refine Wp.iload_n dc_X7_fewestSeconds_132 rfl ?_
    cases hE
    exact Wp.ireturn dc_X7_fewestSeconds_133 rfl rfl (Nat.le_refl _) (Nat.le_refl _) hK
theorem ok_X7_fewestSeconds_j0 {Q : Option AV → AH → Prop}  {σ : SS}   {o} {z1 z2 z3 z4 z5 z6 z7 z8 : Option AV}   (hE : X7_fewestSeconds_j0  σ   = some o) (hK : Q (some (vi o.1)) (hp o.2)) : Ws 2 mi_X7_fewestSeconds Q 0 [some (vr 6 0), z1, z2, z3, z4, z5, z6, z7, z8] [] σ := by
  unfold X7_fewestSeconds_j0 at hE
  refine Wp.ldc dc_X7_fewestSeconds_0 kw_X7_34 ?_
  refine Wp.istore_n dc_X7_fewestSeconds_2 (by decide) ?_
  refine Wp.iconst dc_X7_fewestSeconds_3 ic_0 ?_
  refine Wp.istore_n dc_X7_fewestSeconds_4 (by decide) ?_
  refine Wp.iconst dc_X7_fewestSeconds_5 ic_0 ?_
  refine Wp.istore_n dc_X7_fewestSeconds_6 (by decide) ?_
  exact ok_X7_fewestSeconds_l7   hE hK
theorem ok_X7_fewestSeconds  {σ : SS}   {o}   (hE : X7_fewestSeconds  σ   = some o) : Runs 2 0 0 mi_X7_fewestSeconds [vr 6 0] (hp σ) (fun v h => v = some (vi o.1) ∧ h = hp o.2) := by
  refine Runs.of pn_X7 (Nat.le_of_ble_eq_true rfl) ?_
  exact ok_X7_fewestSeconds_j0   hE ⟨rfl, rfl⟩
def X7_find_P6 (Q : Option AV → AH → Prop)  (r1 : Nat) (x2 : Int32) (ss : Int32 × Int32 × SS) : Prop := ∀ z5 : Option AV, Ws 3 mi_X7_find Q 6 [some (vr 6 0), some (vr 0 r1), some (vi x2), some (vi ss.1), some (vi ss.2.1), z5] [] ss.2.2
def X7_find_R6 (Q : Option AV → AH → Prop)  (r1 : Nat) (x2 : Int32) (tt : Int32 × SS) : Prop := ∀ z0 z1 z2 z4 z5 : Option AV, Ws 3 mi_X7_find Q 116 [z0, z1, z2, some (vi tt.1), z4, z5] [] tt.2
theorem ok_X7_find_j110 {Q : Option AV → AH → Prop}  {σ : SS} {r1 : Nat} {x2 : Int32} {x3 : Int32} {x4 : Int32} {o} {z5 : Option AV}  (hr1 : r1 < 5) (hE : X7_find_j110  σ r1 x2 x3 x4 = some o) (hS : ∀ ss, o = Sum.inl ss → (X7_find_P6  Q  r1 x2) ss) (hT : ∀ tt, o = Sum.inr tt → (X7_find_R6  Q  r1 x2) tt) : Ws 3 mi_X7_find Q 110 [some (vr 6 0), some (vr 0 r1), some (vi x2), some (vi x3), some (vi x4), z5] [] σ := by
  unfold X7_find_j110 at hE
  obtain ⟨x4_110, e_110, hE⟩ := bnS hE
  refine Wp.iinc dc_X7_find_110 rfl ((ii ic_1).trans e_110) (by decide) ?_
  refine Wp.goto (tgt := 6) dc_X7_find_113 (by decide) ?_
  cases hE
  exact hS _ rfl _
theorem ok_X7_find_j107 {Q : Option AV → AH → Prop}  {σ : SS} {r1 : Nat} {x2 : Int32} {x3 : Int32} {x4 : Int32} {s1 : Int32} {s2 : Int32} {s3 : Int32} {o} {z5 : Option AV}  (hr1 : r1 < 5) (hE : X7_find_j107  σ r1 x2 x3 x4 s1 s2 s3 = some o) (hS : ∀ ss, o = Sum.inl ss → (X7_find_P6  Q  r1 x2) ss) (hT : ∀ tt, o = Sum.inr tt → (X7_find_R6  Q  r1 x2) tt) : Ws 3 mi_X7_find Q 107 [some (vr 6 0), some (vr 0 r1), some (vi x2), some (vi x3), some (vi x4), z5] [vi s3, vi s2, vi s1, vr 3 23] σ := by
  unfold X7_find_j107 at hE
  obtain ⟨σ107, h107, hE⟩ := bnd hE
  refine Wp.cV3v (ok_X4_put (by decide) h107) dc_X7_find_107 mw_X7_47 (mO3 (by decide)) (by decide) (Nat.le_of_ble_eq_true rfl) ?_
  exact ok_X7_find_j110  hr1 hE hS hT
theorem ok_X7_find_l6c {Q : Option AV → AH → Prop}  {σ : SS} {r1 : Nat} {x2 : Int32} {x3 : Int32} {x4 : Int32} {o} {z5 : Option AV}  (hr1 : r1 < 5) (hE : X7_find_l6c  σ r1 x2 x3 x4 = some o) (hS : ∀ ss, o = Sum.inl ss → (X7_find_P6  Q  r1 x2) ss) (hT : ∀ tt, o = Sum.inr tt → (X7_find_R6  Q  r1 x2) tt) : Ws 3 mi_X7_find Q 6 [some (vr 6 0), some (vr 0 r1), some (vi x2), some (vi x3), some (vi x4), z5] [] σ := by
  unfold X7_find_l6c at hE
  refine Wp.iload dc_X7_find_6 rfl ?_
  refine Wp.iconst dc_X7_find_8 ic_3 ?_
  refine Wp.icmp_gt (tgt := 116) dc_X7_find_9 (by decide) (fun hc9 => ?_) (fun hc9 => ?_)
  · rw [if_pos hc9] at hE
    cases hE
    exact hT _ rfl _ _ _ _ _
  · rw [if_neg hc9] at hE
    refine Wp.aload_n dc_X7_find_12 rfl ?_
    refine Wp.aload_n dc_X7_find_13 rfl ?_
    refine Wp.iload_n dc_X7_find_14 rfl ?_
    refine Wp.iconst dc_X7_find_15 ic_0 ?_
    refine Wp.iload dc_X7_find_16 rfl ?_
    obtain ⟨σ18, h18, hE⟩ := bnd hE
    refine Wp.cV4v (ok_X7_layRow (by omega) h18) dc_X7_find_18 mw_X7_35 (mO6 (by decide)) (by decide) (Nat.le_of_ble_eq_true rfl) ?_
    refine Wp.aload_n dc_X7_find_21 rfl ?_
    refine Wp.iload dc_X7_find_22 rfl ?_
    obtain ⟨v24, h24, hE⟩ := bnd hE
    refine Wp.cV1i (ok_X0_secondsToLoosen (by omega) h24) dc_X7_find_24 mw_X7_39 (mO0 (by omega)) (by decide) (Nat.le_of_ble_eq_true rfl) ?_
    refine Wp.aload_n dc_X7_find_27 rfl ?_
    obtain ⟨p28, h28, hE⟩ := bnd hE
    refine Wp.cV0i (ok_X7_fewestSeconds  h28) dc_X7_find_28 mw_X7_43 (mO6 (by decide)) (by decide) (Nat.le_of_ble_eq_true rfl) ?_
    refine Wp.iadd dc_X7_find_31 ?_
    obtain ⟨x5_32, e_32, hE⟩ := bnS hE
    rw [e_32]
    refine Wp.istore dc_X7_find_32 (by decide) ?_
    refine Wp.iload dc_X7_find_34 rfl ?_
    refine Wp.iload_n dc_X7_find_36 rfl ?_
    refine Wp.icmp_ge (tgt := 110) dc_X7_find_37 (by decide) (fun hc37 => ?_) (fun hc37 => ?_)
    · rw [if_pos hc37] at hE
      exact ok_X7_find_j110  hr1 hE hS hT
    · rw [if_neg hc37] at hE
      refine Wp.iload dc_X7_find_40 rfl ?_
      refine Wp.istore_n dc_X7_find_42 (by decide) ?_
      refine Wp.aload_n dc_X7_find_43 rfl ?_
      refine Wp.sgetR (t := 23) dc_X7_find_44 fw_X7_22 (mO6 (by decide)) rfl ?_
      refine Wp.iconst dc_X7_find_47 ic_0 ?_
      refine Wp.iconst dc_X7_find_48 ic_0 ?_
      refine Wp.iload dc_X7_find_49 rfl ?_
      obtain ⟨σ51, h51, hE⟩ := bnd hE
      refine Wp.cV3v (ok_X4_put (by decide) h51) dc_X7_find_51 mw_X7_47 (mO3 (by decide)) (by decide) (Nat.le_of_ble_eq_true rfl) ?_
      refine Wp.aload_n dc_X7_find_54 rfl ?_
      refine Wp.sgetR (t := 23) dc_X7_find_55 fw_X7_22 (mO6 (by decide)) rfl ?_
      refine Wp.iconst dc_X7_find_58 ic_0 ?_
      refine Wp.iconst dc_X7_find_59 ic_1 ?_
      refine Wp.aload_n dc_X7_find_60 rfl ?_
      refine Wp.sgetI dc_X7_find_61 fw_X7_51 (mO6 (by decide)) ?_
      obtain ⟨σ64, h64, hE⟩ := bnd hE
      refine Wp.cV3v (ok_X4_put (by decide) h64) dc_X7_find_64 mw_X7_47 (mO3 (by decide)) (by decide) (Nat.le_of_ble_eq_true rfl) ?_
      refine Wp.aload_n dc_X7_find_67 rfl ?_
      refine Wp.sgetR (t := 23) dc_X7_find_68 fw_X7_22 (mO6 (by decide)) rfl ?_
      refine Wp.iconst dc_X7_find_71 ic_0 ?_
      refine Wp.iconst dc_X7_find_72 ic_2 ?_
      refine Wp.aload_n dc_X7_find_73 rfl ?_
      refine Wp.sgetI dc_X7_find_74 fw_X7_55 (mO6 (by decide)) ?_
      obtain ⟨σ77, h77, hE⟩ := bnd hE
      refine Wp.cV3v (ok_X4_put (by decide) h77) dc_X7_find_77 mw_X7_47 (mO3 (by decide)) (by decide) (Nat.le_of_ble_eq_true rfl) ?_
      refine Wp.aload_n dc_X7_find_80 rfl ?_
      refine Wp.sgetR (t := 23) dc_X7_find_81 fw_X7_22 (mO6 (by decide)) rfl ?_
      refine Wp.iconst dc_X7_find_84 ic_0 ?_
      refine Wp.iconst dc_X7_find_85 ic_3 ?_
      refine Wp.aload_n dc_X7_find_86 rfl ?_
      refine Wp.sgetI dc_X7_find_87 fw_X7_51 (mO6 (by decide)) ?_
      refine Wp.aload_n dc_X7_find_90 rfl ?_
      refine Wp.sgetI dc_X7_find_91 fw_X7_55 (mO6 (by decide)) ?_
      refine Wp.iadd dc_X7_find_94 ?_
      refine Wp.aload_n dc_X7_find_95 rfl ?_
      refine Wp.sgetI dc_X7_find_96 fw_X7_58 (mO6 (by decide)) ?_
      refine Wp.icmp_ge (tgt := 106) dc_X7_find_99 (by decide) (fun hc99 => ?_) (fun hc99 => ?_)
      · rw [if_pos hc99] at hE
        refine Wp.iconst dc_X7_find_106 ic_0 ?_
        exact ok_X7_find_j107  hr1 hE hS hT
      · rw [if_neg hc99] at hE
        refine Wp.iconst dc_X7_find_102 ic_1 ?_
        refine Wp.goto (tgt := 107) dc_X7_find_103 (by decide) ?_
        exact ok_X7_find_j107  hr1 hE hS hT
theorem ok_X7_find_l6 {Q : Option AV → AH → Prop}  {σ : SS} {r1 : Nat} {x2 : Int32} {x3 : Int32} {x4 : Int32} {o} {z5 : Option AV}  (hr1 : r1 < 5) (hE : X7_find_l6  σ r1 x2 x3 x4 = some o) (hK : Q (some (vi o.1)) (hp o.2)) : Ws 3 mi_X7_find Q 6 [some (vr 6 0), some (vr 0 r1), some (vi x2), some (vi x3), some (vi x4), z5] [] σ := by
  unfold X7_find_l6 at hE
  obtain ⟨t6, h1, hE⟩ := bnd hE
  refine iter_ok (P := (X7_find_P6  Q  r1 x2)) (R := (X7_find_R6  Q  r1 x2)) (fun ss o h2 hS hT => ?_) NF _ _ h1 ?_ _
  · intro z5
    exact ok_X7_find_l6c  hr1 h2 hS hT
  · intro z0 z1 z2 z4 z5
    show Ws 3 mi_X7_find Q 116 [z0, z1, z2, some (vi t6.1), z4, z5] [] t6.2
    refine Wp.iload_n dc_X7_find_116 rfl ?_
    cases hE
    exact Wp.ireturn dc_X7_find_117 rfl rfl (Nat.le_refl _) (Nat.le_refl _) hK
theorem ok_X7_find_j0 {Q : Option AV → AH → Prop}  {σ : SS} {r1 : Nat} {x2 : Int32} {o} {z3 z4 z5 : Option AV}  (hr1 : r1 < 5) (hE : X7_find_j0  σ r1 x2 = some o) (hK : Q (some (vi o.1)) (hp o.2)) : Ws 3 mi_X7_find Q 0 [some (vr 6 0), some (vr 0 r1), some (vi x2), z3, z4, z5] [] σ := by
  unfold X7_find_j0 at hE
  refine Wp.ldc dc_X7_find_0 kw_X7_34 ?_
  refine Wp.istore_n dc_X7_find_2 (by decide) ?_
  refine Wp.iconst dc_X7_find_3 ic_0 ?_
  refine Wp.istore dc_X7_find_4 (by decide) ?_
  exact ok_X7_find_l6  hr1 hE hK
theorem ok_X7_find  {σ : SS} {r1 : Nat} {x2 : Int32} {o}  (hr1 : r1 < 5) (hE : X7_find  σ r1 x2 = some o) : Runs 3 0 0 mi_X7_find [vr 6 0, vr 0 r1, vi x2] (hp σ) (fun v h => v = some (vi o.1) ∧ h = hp o.2) := by
  refine Runs.of pn_X7 (Nat.le_of_ble_eq_true rfl) ?_
  exact ok_X7_find_j0  hr1 hE ⟨rfl, rfl⟩
theorem ok_X7_wayAt_j0 {Q : Option AV → AH → Prop}  {σ : SS}  {x1 : Int32} {o}    (hE : X7_wayAt_j0  σ  x1 = some o) (hK : Q (some (vi o)) (hp σ)) : Ws 1 mi_X7_wayAt Q 0 [some (vr 6 0), some (vi x1)] [] σ := by
  unfold X7_wayAt_j0 at hE
  refine Wp.aload_n dc_X7_wayAt_0 rfl ?_
  refine Wp.sgetR (t := 23) dc_X7_wayAt_1 fw_X7_22 (mO6 (by decide)) rfl ?_
  refine Wp.iconst dc_X7_wayAt_4 ic_0 ?_
  refine Wp.iload_n dc_X7_wayAt_5 rfl ?_
  obtain ⟨v6, h6, hE⟩ := bnd hE
  refine Wp.cV2i (ok_X4_at (by decide) h6) dc_X7_wayAt_6 mw_X7_61 (mO3 (by decide)) (by decide) (Nat.le_of_ble_eq_true rfl) ?_
  cases hE
  exact Wp.ireturn dc_X7_wayAt_9 rfl rfl (Nat.le_refl _) (Nat.le_refl _) hK
theorem ok_X7_wayAt  {σ : SS}  {x1 : Int32} {o}   (hE : X7_wayAt  σ  x1 = some o) : Runs 1 0 0 mi_X7_wayAt [vr 6 0, vi x1] (hp σ) (fun v h => v = some (vi o) ∧ h = hp σ) := by
  refine Runs.of pn_X7 (Nat.le_of_ble_eq_true rfl) ?_
  exact ok_X7_wayAt_j0   hE ⟨rfl, rfl⟩
def X2_takeOut_P18 (Q : Option AV → AH → Prop)  (r1 : Nat) (x2 : Int32) (ss : Int32 × SS) : Prop := Ws 4 mi_X2_takeOut Q 18 [some (vr 2 0), some (vr 0 r1), some (vi x2), some (vi ss.1)] [] ss.2
def X2_takeOut_R18 (Q : Option AV → AH → Prop)  (r1 : Nat) (x2 : Int32) (tt : SS) : Prop := ∀ z3 : Option AV, Ws 4 mi_X2_takeOut Q 41 [some (vr 2 0), some (vr 0 r1), some (vi x2), z3] [] tt
theorem ok_X2_takeOut_l18c {Q : Option AV → AH → Prop}  {σ : SS} {r1 : Nat} {x2 : Int32} {x3 : Int32} {o}   (hr1 : r1 < 5) (hE : X2_takeOut_l18c  σ r1 x2 x3 = some o) (hS : ∀ ss, o = Sum.inl ss → (X2_takeOut_P18  Q  r1 x2) ss) (hT : ∀ tt, o = Sum.inr tt → (X2_takeOut_R18  Q  r1 x2) tt) : Ws 4 mi_X2_takeOut Q 18 [some (vr 2 0), some (vr 0 r1), some (vi x2), some (vi x3)] [] σ := by
  unfold X2_takeOut_l18c at hE
  refine Wp.iload_n dc_X2_takeOut_18 rfl ?_
  refine Wp.aload_n dc_X2_takeOut_19 rfl ?_
  refine Wp.sgetR (t := 0) dc_X2_takeOut_20 fw_X2_26 (mO2 (by decide)) rfl ?_
  refine Wp.iconst dc_X2_takeOut_23 ic_0 ?_
  obtain ⟨v24, h24, hE⟩ := bnd hE
  refine Wp.cV1i (ok_X7_wayAt  h24) dc_X2_takeOut_24 mw_X2_143 (mO6 (by decide)) (by decide) (Nat.le_of_ble_eq_true rfl) ?_
  refine Wp.icmp_ge (tgt := 41) dc_X2_takeOut_27 (by decide) (fun hc27 => ?_) (fun hc27 => ?_)
  · rw [if_pos hc27] at hE
    cases hE
    exact hT _ rfl _
  · rw [if_neg hc27] at hE
    refine Wp.aload_n dc_X2_takeOut_30 rfl ?_
    obtain ⟨p31, h31, hE⟩ := bnd hE
    refine Wp.cV0i (ok_X0_loosenOnce (by omega) h31) dc_X2_takeOut_31 mw_X2_92 (mO0 (by omega)) (by decide) (Nat.le_of_ble_eq_true rfl) ?_
    refine Wp.pop dc_X2_takeOut_34 rfl ?_
    obtain ⟨x3_35, e_35, hE⟩ := bnS hE
    refine Wp.iinc dc_X2_takeOut_35 rfl ((ii ic_1).trans e_35) (by decide) ?_
    refine Wp.goto (tgt := 18) dc_X2_takeOut_38 (by decide) ?_
    cases hE
    exact hS _ rfl
def X2_takeOut_P43 (Q : Option AV → AH → Prop)  (r1 : Nat) (x2 : Int32) (ss : Int32 × SS) : Prop := Ws 4 mi_X2_takeOut Q 43 [some (vr 2 0), some (vr 0 r1), some (vi x2), some (vi ss.1)] [] ss.2
def X2_takeOut_R43 (Q : Option AV → AH → Prop)  (r1 : Nat) (x2 : Int32) (tt : SS) : Prop := ∀ z3 : Option AV, Ws 4 mi_X2_takeOut Q 68 [some (vr 2 0), some (vr 0 r1), some (vi x2), z3] [] tt
theorem ok_X2_takeOut_l43c {Q : Option AV → AH → Prop}  {σ : SS} {r1 : Nat} {x2 : Int32} {x3 : Int32} {o}   (hr1 : r1 < 5) (hE : X2_takeOut_l43c  σ r1 x2 x3 = some o) (hS : ∀ ss, o = Sum.inl ss → (X2_takeOut_P43  Q  r1 x2) ss) (hT : ∀ tt, o = Sum.inr tt → (X2_takeOut_R43  Q  r1 x2) tt) : Ws 4 mi_X2_takeOut Q 43 [some (vr 2 0), some (vr 0 r1), some (vi x2), some (vi x3)] [] σ := by
  unfold X2_takeOut_l43c at hE
  refine Wp.iload_n dc_X2_takeOut_43 rfl ?_
  refine Wp.aload_n dc_X2_takeOut_44 rfl ?_
  refine Wp.sgetR (t := 0) dc_X2_takeOut_45 fw_X2_26 (mO2 (by decide)) rfl ?_
  refine Wp.iconst dc_X2_takeOut_48 ic_1 ?_
  obtain ⟨v49, h49, hE⟩ := bnd hE
  refine Wp.cV1i (ok_X7_wayAt  h49) dc_X2_takeOut_49 mw_X2_143 (mO6 (by decide)) (by decide) (Nat.le_of_ble_eq_true rfl) ?_
  refine Wp.icmp_ge (tgt := 68) dc_X2_takeOut_52 (by decide) (fun hc52 => ?_) (fun hc52 => ?_)
  · rw [if_pos hc52] at hE
    cases hE
    exact hT _ rfl _
  · rw [if_neg hc52] at hE
    refine Wp.aload_n dc_X2_takeOut_55 rfl ?_
    refine Wp.iload_n dc_X2_takeOut_56 rfl ?_
    refine Wp.iconst dc_X2_takeOut_57 ic_0 ?_
    obtain ⟨p58, h58, hE⟩ := bnd hE
    refine Wp.cV2i (ok_X0_undoNearest (by omega) h58) dc_X2_takeOut_58 mw_X2_146 (mO0 (by omega)) (by decide) (Nat.le_of_ble_eq_true rfl) ?_
    refine Wp.pop dc_X2_takeOut_61 rfl ?_
    obtain ⟨x3_62, e_62, hE⟩ := bnS hE
    refine Wp.iinc dc_X2_takeOut_62 rfl ((ii ic_1).trans e_62) (by decide) ?_
    refine Wp.goto (tgt := 43) dc_X2_takeOut_65 (by decide) ?_
    cases hE
    exact hS _ rfl
def X2_takeOut_P70 (Q : Option AV → AH → Prop)  (r1 : Nat) (x2 : Int32) (ss : Int32 × SS) : Prop := Ws 4 mi_X2_takeOut Q 70 [some (vr 2 0), some (vr 0 r1), some (vi x2), some (vi ss.1)] [] ss.2
def X2_takeOut_R70 (Q : Option AV → AH → Prop)  (r1 : Nat) (x2 : Int32) (tt : SS) : Prop := ∀ z3 : Option AV, Ws 4 mi_X2_takeOut Q 95 [some (vr 2 0), some (vr 0 r1), some (vi x2), z3] [] tt
theorem ok_X2_takeOut_l70c {Q : Option AV → AH → Prop}  {σ : SS} {r1 : Nat} {x2 : Int32} {x3 : Int32} {o}   (hr1 : r1 < 5) (hE : X2_takeOut_l70c  σ r1 x2 x3 = some o) (hS : ∀ ss, o = Sum.inl ss → (X2_takeOut_P70  Q  r1 x2) ss) (hT : ∀ tt, o = Sum.inr tt → (X2_takeOut_R70  Q  r1 x2) tt) : Ws 4 mi_X2_takeOut Q 70 [some (vr 2 0), some (vr 0 r1), some (vi x2), some (vi x3)] [] σ := by
  unfold X2_takeOut_l70c at hE
  refine Wp.iload_n dc_X2_takeOut_70 rfl ?_
  refine Wp.aload_n dc_X2_takeOut_71 rfl ?_
  refine Wp.sgetR (t := 0) dc_X2_takeOut_72 fw_X2_26 (mO2 (by decide)) rfl ?_
  refine Wp.iconst dc_X2_takeOut_75 ic_2 ?_
  obtain ⟨v76, h76, hE⟩ := bnd hE
  refine Wp.cV1i (ok_X7_wayAt  h76) dc_X2_takeOut_76 mw_X2_143 (mO6 (by decide)) (by decide) (Nat.le_of_ble_eq_true rfl) ?_
  refine Wp.icmp_ge (tgt := 95) dc_X2_takeOut_79 (by decide) (fun hc79 => ?_) (fun hc79 => ?_)
  · rw [if_pos hc79] at hE
    cases hE
    exact hT _ rfl _
  · rw [if_neg hc79] at hE
    refine Wp.aload_n dc_X2_takeOut_82 rfl ?_
    refine Wp.iload_n dc_X2_takeOut_83 rfl ?_
    refine Wp.iconst dc_X2_takeOut_84 ic_1 ?_
    obtain ⟨p85, h85, hE⟩ := bnd hE
    refine Wp.cV2i (ok_X0_undoNearest (by omega) h85) dc_X2_takeOut_85 mw_X2_146 (mO0 (by omega)) (by decide) (Nat.le_of_ble_eq_true rfl) ?_
    refine Wp.pop dc_X2_takeOut_88 rfl ?_
    obtain ⟨x3_89, e_89, hE⟩ := bnS hE
    refine Wp.iinc dc_X2_takeOut_89 rfl ((ii ic_1).trans e_89) (by decide) ?_
    refine Wp.goto (tgt := 70) dc_X2_takeOut_92 (by decide) ?_
    cases hE
    exact hS _ rfl
theorem ok_X2_takeOut_l70 {Q : Option AV → AH → Prop}  {σ : SS} {r1 : Nat} {x2 : Int32} {x3 : Int32} {o}   (hr1 : r1 < 5) (hE : X2_takeOut_l70  σ r1 x2 x3 = some o) (hK : Q none (hp o)) : Ws 4 mi_X2_takeOut Q 70 [some (vr 2 0), some (vr 0 r1), some (vi x2), some (vi x3)] [] σ := by
  unfold X2_takeOut_l70 at hE
  obtain ⟨t70, h1, hE⟩ := bnd hE
  refine iter_ok (P := (X2_takeOut_P70  Q  r1 x2)) (R := (X2_takeOut_R70  Q  r1 x2)) (fun ss o h2 hS hT => ?_) NF _ _ h1 ?_
  · skip
    exact ok_X2_takeOut_l70c  hr1 h2 hS hT
  · intro z3
    show Ws 4 mi_X2_takeOut Q 95 [some (vr 2 0), some (vr 0 r1), some (vi x2), z3] [] t70
    refine Wp.aload_n dc_X2_takeOut_95 rfl ?_
    refine Wp.sgetR (t := 0) dc_X2_takeOut_96 fw_X2_26 (mO2 (by decide)) rfl ?_
    refine Wp.iconst dc_X2_takeOut_99 ic_3 ?_
    obtain ⟨v100, h100, hE⟩ := bnd hE
    refine Wp.cV1i (ok_X7_wayAt  h100) dc_X2_takeOut_100 mw_X2_143 (mO6 (by decide)) (by decide) (Nat.le_of_ble_eq_true rfl) ?_
    refine Wp.iconst dc_X2_takeOut_103 ic_1 ?_
    refine Wp.icmp_ne (tgt := 113) dc_X2_takeOut_104 (by decide) (fun hc104 => ?_) (fun hc104 => ?_)
    · rw [if_neg hc104] at hE
      cases hE
      exact Wp.return dc_X2_takeOut_113 rfl (Nat.le_refl _) (Nat.le_refl _) hK
    · rw [if_pos hc104] at hE
      refine Wp.aload_n dc_X2_takeOut_107 rfl ?_
      refine Wp.iload_n dc_X2_takeOut_108 rfl ?_
      refine Wp.iconst dc_X2_takeOut_109 ic_1 ?_
      obtain ⟨σ110, h110, hE⟩ := bnd hE
      refine Wp.cV2v (ok_X0_pullAt (by omega) h110) dc_X2_takeOut_110 mw_X2_110 (mO0 (by omega)) (by decide) (Nat.le_of_ble_eq_true rfl) ?_
      cases hE
      exact Wp.return dc_X2_takeOut_113 rfl (Nat.le_refl _) (Nat.le_refl _) hK
theorem ok_X2_takeOut_l43 {Q : Option AV → AH → Prop}  {σ : SS} {r1 : Nat} {x2 : Int32} {x3 : Int32} {o}   (hr1 : r1 < 5) (hE : X2_takeOut_l43  σ r1 x2 x3 = some o) (hK : Q none (hp o)) : Ws 4 mi_X2_takeOut Q 43 [some (vr 2 0), some (vr 0 r1), some (vi x2), some (vi x3)] [] σ := by
  unfold X2_takeOut_l43 at hE
  obtain ⟨t43, h1, hE⟩ := bnd hE
  refine iter_ok (P := (X2_takeOut_P43  Q  r1 x2)) (R := (X2_takeOut_R43  Q  r1 x2)) (fun ss o h2 hS hT => ?_) NF _ _ h1 ?_
  · skip
    exact ok_X2_takeOut_l43c  hr1 h2 hS hT
  · intro z3
    show Ws 4 mi_X2_takeOut Q 68 [some (vr 2 0), some (vr 0 r1), some (vi x2), z3] [] t43
    refine Wp.iconst dc_X2_takeOut_68 ic_0 ?_
    refine Wp.istore_n dc_X2_takeOut_69 (by decide) ?_
    exact ok_X2_takeOut_l70  hr1 hE hK
theorem ok_X2_takeOut_l18 {Q : Option AV → AH → Prop}  {σ : SS} {r1 : Nat} {x2 : Int32} {x3 : Int32} {o}   (hr1 : r1 < 5) (hE : X2_takeOut_l18  σ r1 x2 x3 = some o) (hK : Q none (hp o)) : Ws 4 mi_X2_takeOut Q 18 [some (vr 2 0), some (vr 0 r1), some (vi x2), some (vi x3)] [] σ := by
  unfold X2_takeOut_l18 at hE
  obtain ⟨t18, h1, hE⟩ := bnd hE
  refine iter_ok (P := (X2_takeOut_P18  Q  r1 x2)) (R := (X2_takeOut_R18  Q  r1 x2)) (fun ss o h2 hS hT => ?_) NF _ _ h1 ?_
  · skip
    exact ok_X2_takeOut_l18c  hr1 h2 hS hT
  · intro z3
    show Ws 4 mi_X2_takeOut Q 41 [some (vr 2 0), some (vr 0 r1), some (vi x2), z3] [] t18
    refine Wp.iconst dc_X2_takeOut_41 ic_0 ?_
    refine Wp.istore_n dc_X2_takeOut_42 (by decide) ?_
    exact ok_X2_takeOut_l43  hr1 hE hK
theorem ok_X2_takeOut_j0 {Q : Option AV → AH → Prop}  {σ : SS} {r1 : Nat} {x2 : Int32} {o} {z3 : Option AV}  (hr1 : r1 < 5) (hE : X2_takeOut_j0  σ r1 x2 = some o) (hK : Q none (hp o)) : Ws 4 mi_X2_takeOut Q 0 [some (vr 2 0), some (vr 0 r1), some (vi x2), z3] [] σ := by
  unfold X2_takeOut_j0 at hE
  refine Wp.aload_n dc_X2_takeOut_0 rfl ?_
  refine Wp.iconst dc_X2_takeOut_1 ic_3 ?_
  refine Wp.iconst dc_X2_takeOut_2 ic_1 ?_
  obtain ⟨σ3, h3, hE⟩ := bnd hE
  refine Wp.cV2v (ok_X2_add  h3) dc_X2_takeOut_3 mw_X2_71 (mO2 (by decide)) (by decide) (Nat.le_of_ble_eq_true rfl) ?_
  refine Wp.aload_n dc_X2_takeOut_6 rfl ?_
  refine Wp.sgetR (t := 0) dc_X2_takeOut_7 fw_X2_26 (mO2 (by decide)) rfl ?_
  refine Wp.aload_n dc_X2_takeOut_10 rfl ?_
  refine Wp.iload_n dc_X2_takeOut_11 rfl ?_
  obtain ⟨p12, h12, hE⟩ := bnd hE
  refine Wp.cV2i (ok_X7_find (by omega) h12) dc_X2_takeOut_12 mw_X2_138 (mO6 (by decide)) (by decide) (Nat.le_of_ble_eq_true rfl) ?_
  refine Wp.pop dc_X2_takeOut_15 rfl ?_
  refine Wp.iconst dc_X2_takeOut_16 ic_0 ?_
  refine Wp.istore_n dc_X2_takeOut_17 (by decide) ?_
  exact ok_X2_takeOut_l18  hr1 hE hK
theorem ok_X2_takeOut  {σ : SS} {r1 : Nat} {x2 : Int32} {o}  (hr1 : r1 < 5) (hE : X2_takeOut  σ r1 x2 = some o) : Runs 4 0 0 mi_X2_takeOut [vr 2 0, vr 0 r1, vi x2] (hp σ) (fun v h => v = none ∧ h = hp o) := by
  refine Runs.of pn_X2 (Nat.le_of_ble_eq_true rfl) ?_
  exact ok_X2_takeOut_j0  hr1 hE ⟨rfl, rfl⟩
theorem ok_X3_isLone_j0 {Q : Option AV → AH → Prop}  {σ : SS} {r0 : Nat} {x1 : Int32} {o}   (hr0 : r0 < 5) (hE : X3_isLone_j0  σ r0 x1 = some o) (hK : Q (some (vi o)) (hp σ)) : Ws 3 mi_X3_isLone Q 0 [some (vr 0 r0), some (vi x1)] [] σ := by
  unfold X3_isLone_j0 at hE
  refine Wp.aload_n dc_X3_isLone_0 rfl ?_
  refine Wp.iload_n dc_X3_isLone_1 rfl ?_
  refine Wp.aload_n dc_X3_isLone_2 rfl ?_
  obtain ⟨v3, h3, hE⟩ := bnd hE
  refine Wp.cV0i (ok_X0_insideSet (by omega) h3) dc_X3_isLone_3 mw_X3_27 (mO0 (by omega)) (by decide) (Nat.le_of_ble_eq_true rfl) ?_
  obtain ⟨v6, h6, hE⟩ := bnd hE
  refine Wp.cS3i (ok_X3_around (by omega) h6) dc_X3_isLone_6 mw_X3_30 (by decide) (Nat.le_of_ble_eq_true rfl) ?_
  obtain ⟨v9, h9, hE⟩ := bnd hE
  refine Wp.cS1i (ok_J6_bitCount_0f7a4  h9) dc_X3_isLone_9 mw_X3_36 (by decide) (Nat.le_of_ble_eq_true rfl) ?_
  refine Wp.iconst dc_X3_isLone_12 ic_1 ?_
  refine Wp.icmp_ne (tgt := 20) dc_X3_isLone_13 (by decide) (fun hc13 => ?_) (fun hc13 => ?_)
  · rw [if_neg hc13] at hE
    refine Wp.iconst dc_X3_isLone_20 ic_0 ?_
    cases hE
    exact Wp.ireturn dc_X3_isLone_21 rfl Nr.z0.1 (Nat.le_refl _) (Nat.le_refl _) hK
  · rw [if_pos hc13] at hE
    refine Wp.iconst dc_X3_isLone_16 ic_1 ?_
    refine Wp.goto (tgt := 21) dc_X3_isLone_17 (by decide) ?_
    cases hE
    exact Wp.ireturn dc_X3_isLone_21 rfl Nr.z1.1 (Nat.le_refl _) (Nat.le_refl _) hK
theorem ok_X3_isLone  {σ : SS} {r0 : Nat} {x1 : Int32} {o}  (hr0 : r0 < 5) (hE : X3_isLone  σ r0 x1 = some o) : Runs 3 0 0 mi_X3_isLone [vr 0 r0, vi x1] (hp σ) (fun v h => v = some (vi o) ∧ h = hp σ) := by
  refine Runs.of pn_X3 (Nat.le_of_ble_eq_true rfl) ?_
  exact ok_X3_isLone_j0  hr0 hE ⟨rfl, rfl⟩
theorem ok_X2_behindStep_j40 {Q : Option AV → AH → Prop}  {σ : SS} {r1 : Nat} {x2 : Int32} {o} {z0 z4 z5 : Option AV}  (hr1 : r1 < 5) (hE : X2_behindStep_j40  σ r1 x2 = some o) (hK : Q (some (vi o.1)) (hp o.2)) : Ws 5 mi_X2_behindStep Q 40 [z0, some (vr 0 r1), some (vi x2), some (vr 8 r1), z4, z5] [] σ := by
  unfold X2_behindStep_j40 at hE
  refine Wp.aload_n dc_X2_behindStep_40 rfl ?_
  refine Wp.iload_n dc_X2_behindStep_41 rfl ?_
  obtain ⟨v42, h42, hE⟩ := bnd hE
  refine Wp.cS2i (ok_X2_holds (by omega) h42) dc_X2_behindStep_42 mw_X2_84 (by decide) (Nat.le_of_ble_eq_true rfl) ?_
  refine Wp.if_eq (tgt := 54) dc_X2_behindStep_45 (by decide) (fun hc45 => ?_) (fun hc45 => ?_)
  · rw [if_pos hc45] at hE
    refine Wp.aload_n dc_X2_behindStep_54 rfl ?_
    refine Wp.iload_n dc_X2_behindStep_55 rfl ?_
    obtain ⟨v56, h56, hE⟩ := bnd hE
    refine Wp.cV1i (ok_X9_partnerOf (by omega) h56) dc_X2_behindStep_56 mw_X2_78 (mO8 (by omega)) (by decide) (Nat.le_of_ble_eq_true rfl) ?_
    refine Wp.iconst dc_X2_behindStep_59 ic_1 ?_
    refine Wp.iadd dc_X2_behindStep_60 ?_
    cases hE
    exact Wp.ireturn dc_X2_behindStep_61 rfl rfl (Nat.le_refl _) (Nat.le_refl _) hK
  · rw [if_neg hc45] at hE
    refine Wp.iload_n dc_X2_behindStep_48 rfl ?_
    refine Wp.iconst dc_X2_behindStep_49 ic_1 ?_
    refine Wp.iadd dc_X2_behindStep_50 ?_
    refine Wp.goto (tgt := 61) dc_X2_behindStep_51 (by decide) ?_
    cases hE
    exact Wp.ireturn dc_X2_behindStep_61 rfl rfl (Nat.le_refl _) (Nat.le_refl _) hK
theorem ok_X2_behindStep_j212 {Q : Option AV → AH → Prop}  {σ : SS} {r1 : Nat} {x2 : Int32} {o} {z0 z1 z3 z4 z5 : Option AV}  (hr1 : r1 < 5) (hE : X2_behindStep_j212  σ r1 x2 = some o) (hK : Q (some (vi o.1)) (hp o.2)) : Ws 5 mi_X2_behindStep Q 212 [z0, z1, some (vi x2), z3, z4, z5] [] σ := by
  unfold X2_behindStep_j212 at hE
  refine Wp.iload_n dc_X2_behindStep_212 rfl ?_
  refine Wp.iconst dc_X2_behindStep_213 ic_1 ?_
  refine Wp.iadd dc_X2_behindStep_214 ?_
  cases hE
  exact Wp.ireturn dc_X2_behindStep_215 rfl rfl (Nat.le_refl _) (Nat.le_refl _) hK
theorem ok_X2_behindStep_j140 {Q : Option AV → AH → Prop}  {σ : SS} {r1 : Nat} {x2 : Int32} {o} {z1 z3 z4 z5 : Option AV}  (hr1 : r1 < 5) (hE : X2_behindStep_j140  σ r1 x2 = some o) (hK : Q (some (vi o.1)) (hp o.2)) : Ws 5 mi_X2_behindStep Q 140 [some (vr 2 0), z1, some (vi x2), z3, z4, z5] [] σ := by
  unfold X2_behindStep_j140 at hE
  refine Wp.aload_n dc_X2_behindStep_140 rfl ?_
  refine Wp.iconst dc_X2_behindStep_141 ic_0 ?_
  refine Wp.iconst dc_X2_behindStep_142 ic_1 ?_
  obtain ⟨σ143, h143, hE⟩ := bnd hE
  refine Wp.cV2v (ok_X2_add  h143) dc_X2_behindStep_143 mw_X2_71 (mO2 (by decide)) (by decide) (Nat.le_of_ble_eq_true rfl) ?_
  refine Wp.goto (tgt := 212) dc_X2_behindStep_146 (by decide) ?_
  exact ok_X2_behindStep_j212  hr1 hE hK
theorem ok_X2_behindStep_j149 {Q : Option AV → AH → Prop}  {σ : SS} {r1 : Nat} {x2 : Int32} {x4 : Int32} {x5 : Int32} {o} {z3 : Option AV}  (hr1 : r1 < 5) (hE : X2_behindStep_j149  σ r1 x2 x4 x5 = some o) (hK : Q (some (vi o.1)) (hp o.2)) : Ws 5 mi_X2_behindStep Q 149 [some (vr 2 0), some (vr 0 r1), some (vi x2), z3, some (vi x4), some (vi x5)] [] σ := by
  unfold X2_behindStep_j149 at hE
  refine Wp.iload dc_X2_behindStep_149 rfl ?_
  refine Wp.bipush dc_X2_behindStep_151 bp_13 ?_
  refine Wp.icmp_ne (tgt := 166) dc_X2_behindStep_153 (by decide) (fun hc153 => ?_) (fun hc153 => ?_)
  · rw [if_neg hc153] at hE
    refine Wp.iload dc_X2_behindStep_166 rfl ?_
    refine Wp.bipush dc_X2_behindStep_168 bp_15 ?_
    refine Wp.icmp_ne (tgt := 188) dc_X2_behindStep_170 (by decide) (fun hc170 => ?_) (fun hc170 => ?_)
    · rw [if_neg hc170] at hE
      refine Wp.iload dc_X2_behindStep_188 rfl ?_
      refine Wp.bipush dc_X2_behindStep_190 bp_17 ?_
      refine Wp.icmp_ne (tgt := 205) dc_X2_behindStep_192 (by decide) (fun hc192 => ?_) (fun hc192 => ?_)
      · rw [if_neg hc192] at hE
        refine Wp.aload_n dc_X2_behindStep_205 rfl ?_
        refine Wp.iload dc_X2_behindStep_206 rfl ?_
        obtain ⟨p208, h208, hE⟩ := bnd hE
        refine Wp.cV1i (ok_X0_putClip (by omega) h208) dc_X2_behindStep_208 mw_X2_117 (mO0 (by omega)) (by decide) (Nat.le_of_ble_eq_true rfl) ?_
        refine Wp.pop dc_X2_behindStep_211 rfl ?_
        exact ok_X2_behindStep_j212  hr1 hE hK
      · rw [if_pos hc192] at hE
        refine Wp.aload_n dc_X2_behindStep_195 rfl ?_
        refine Wp.iload dc_X2_behindStep_196 rfl ?_
        obtain ⟨p198, h198, hE⟩ := bnd hE
        refine Wp.cV1i (ok_X0_cutOff (by omega) h198) dc_X2_behindStep_198 mw_X2_114 (mO0 (by omega)) (by decide) (Nat.le_of_ble_eq_true rfl) ?_
        refine Wp.pop dc_X2_behindStep_201 rfl ?_
        refine Wp.goto (tgt := 212) dc_X2_behindStep_202 (by decide) ?_
        exact ok_X2_behindStep_j212  hr1 hE hK
    · rw [if_pos hc170] at hE
      refine Wp.aload_n dc_X2_behindStep_173 rfl ?_
      refine Wp.iload dc_X2_behindStep_174 rfl ?_
      refine Wp.aload_n dc_X2_behindStep_176 rfl ?_
      refine Wp.iload dc_X2_behindStep_177 rfl ?_
      obtain ⟨v179, h179, hE⟩ := bnd hE
      refine Wp.cS2i (ok_X3_isLone (by omega) h179) dc_X2_behindStep_179 mw_X2_105 (by decide) (Nat.le_of_ble_eq_true rfl) ?_
      obtain ⟨σ182, h182, hE⟩ := bnd hE
      refine Wp.cV2v (ok_X0_pullAt (by omega) h182) dc_X2_behindStep_182 mw_X2_110 (mO0 (by omega)) (by decide) (Nat.le_of_ble_eq_true rfl) ?_
      refine Wp.goto (tgt := 212) dc_X2_behindStep_185 (by decide) ?_
      exact ok_X2_behindStep_j212  hr1 hE hK
  · rw [if_pos hc153] at hE
    refine Wp.aload_n dc_X2_behindStep_156 rfl ?_
    refine Wp.aload_n dc_X2_behindStep_157 rfl ?_
    refine Wp.iload dc_X2_behindStep_158 rfl ?_
    obtain ⟨σ160, h160, hE⟩ := bnd hE
    refine Wp.cV2v (ok_X2_takeOut (by omega) h160) dc_X2_behindStep_160 mw_X2_102 (mO2 (by decide)) (by decide) (Nat.le_of_ble_eq_true rfl) ?_
    refine Wp.goto (tgt := 212) dc_X2_behindStep_163 (by decide) ?_
    exact ok_X2_behindStep_j212  hr1 hE hK
theorem ok_X2_behindStep_j0 {Q : Option AV → AH → Prop}  {σ : SS} {r1 : Nat} {x2 : Int32} {o} {z3 z4 z5 : Option AV}  (hr1 : r1 < 5) (hE : X2_behindStep_j0  σ r1 x2 = some o) (hK : Q (some (vi o.1)) (hp o.2)) : Ws 5 mi_X2_behindStep Q 0 [some (vr 2 0), some (vr 0 r1), some (vi x2), z3, z4, z5] [] σ := by
  unfold X2_behindStep_j0 at hE
  refine Wp.aload_n dc_X2_behindStep_0 rfl ?_
  refine Wp.sgetR (t := r1) dc_X2_behindStep_1 fw_X2_52 (mO0 (by omega)) rfl ?_
  refine Wp.astore_n dc_X2_behindStep_4 (by decide) ?_
  refine Wp.aload_n dc_X2_behindStep_5 rfl ?_
  refine Wp.iload_n dc_X2_behindStep_6 rfl ?_
  obtain ⟨v7, h7, hE⟩ := bnd hE
  refine Wp.cV1i (ok_X9_wordAt (by omega) h7) dc_X2_behindStep_7 mw_X2_61 (mO8 (by omega)) (by decide) (Nat.le_of_ble_eq_true rfl) ?_
  refine Wp.istore dc_X2_behindStep_10 (by decide) ?_
  refine Wp.aload_n dc_X2_behindStep_12 rfl ?_
  refine Wp.iload_n dc_X2_behindStep_13 rfl ?_
  obtain ⟨v14, h14, hE⟩ := bnd hE
  refine Wp.cV1i (ok_X9_numberAt (by omega) h14) dc_X2_behindStep_14 mw_X2_81 (mO8 (by omega)) (by decide) (Nat.le_of_ble_eq_true rfl) ?_
  refine Wp.istore dc_X2_behindStep_17 (by decide) ?_
  refine Wp.iload dc_X2_behindStep_19 rfl ?_
  refine Wp.bipush dc_X2_behindStep_21 bp_19 ?_
  refine Wp.icmp_eq (tgt := 40) dc_X2_behindStep_23 (by decide) (fun hc23 => ?_) (fun hc23 => ?_)
  · rw [if_pos hc23] at hE
    exact ok_X2_behindStep_j40  hr1 hE hK
  · rw [if_neg hc23] at hE
    refine Wp.iload dc_X2_behindStep_26 rfl ?_
    refine Wp.bipush dc_X2_behindStep_28 bp_7 ?_
    refine Wp.icmp_eq (tgt := 40) dc_X2_behindStep_30 (by decide) (fun hc30 => ?_) (fun hc30 => ?_)
    · rw [if_pos hc30] at hE
      exact ok_X2_behindStep_j40  hr1 hE hK
    · rw [if_neg hc30] at hE
      refine Wp.iload dc_X2_behindStep_33 rfl ?_
      refine Wp.bipush dc_X2_behindStep_35 bp_20 ?_
      refine Wp.icmp_ne (tgt := 62) dc_X2_behindStep_37 (by decide) (fun hc37 => ?_) (fun hc37 => ?_)
      · rw [if_neg hc37] at hE
        refine Wp.iload dc_X2_behindStep_62 rfl ?_
        refine Wp.bipush dc_X2_behindStep_64 bp_21 ?_
        refine Wp.icmp_ne (tgt := 83) dc_X2_behindStep_66 (by decide) (fun hc66 => ?_) (fun hc66 => ?_)
        · rw [if_neg hc66] at hE
          refine Wp.iload dc_X2_behindStep_83 rfl ?_
          refine Wp.bipush dc_X2_behindStep_85 bp_12 ?_
          refine Wp.icmp_ne (tgt := 100) dc_X2_behindStep_87 (by decide) (fun hc87 => ?_) (fun hc87 => ?_)
          · rw [if_neg hc87] at hE
            refine Wp.iload dc_X2_behindStep_100 rfl ?_
            refine Wp.bipush dc_X2_behindStep_102 bp_14 ?_
            refine Wp.icmp_ne (tgt := 115) dc_X2_behindStep_104 (by decide) (fun hc104 => ?_) (fun hc104 => ?_)
            · rw [if_neg hc104] at hE
              refine Wp.aload_n dc_X2_behindStep_115 rfl ?_
              refine Wp.iload dc_X2_behindStep_116 rfl ?_
              obtain ⟨v118, h118, hE⟩ := bnd hE
              refine Wp.cV1i (ok_X0_isIn (by omega) h118) dc_X2_behindStep_118 mw_X2_95 (mO0 (by omega)) (by decide) (Nat.le_of_ble_eq_true rfl) ?_
              refine Wp.if_eq (tgt := 140) dc_X2_behindStep_121 (by decide) (fun hc121 => ?_) (fun hc121 => ?_)
              · rw [if_pos hc121] at hE
                exact ok_X2_behindStep_j140  hr1 hE hK
              · rw [if_neg hc121] at hE
                refine Wp.iload dc_X2_behindStep_124 rfl ?_
                refine Wp.bipush dc_X2_behindStep_126 bp_6 ?_
                refine Wp.icmp_ne (tgt := 149) dc_X2_behindStep_128 (by decide) (fun hc128 => ?_) (fun hc128 => ?_)
                · rw [if_neg hc128] at hE
                  exact ok_X2_behindStep_j149  hr1 hE hK
                · rw [if_pos hc128] at hE
                  refine Wp.aload_n dc_X2_behindStep_131 rfl ?_
                  refine Wp.iload dc_X2_behindStep_132 rfl ?_
                  obtain ⟨v134, h134, hE⟩ := bnd hE
                  refine Wp.cV1i (ok_X0_canGetClip (by omega) h134) dc_X2_behindStep_134 mw_X2_99 (mO0 (by omega)) (by decide) (Nat.le_of_ble_eq_true rfl) ?_
                  refine Wp.if_ne (tgt := 149) dc_X2_behindStep_137 (by decide) (fun hc137 => ?_) (fun hc137 => ?_)
                  · rw [if_neg hc137] at hE
                    exact ok_X2_behindStep_j149  hr1 hE hK
                  · rw [if_pos hc137] at hE
                    exact ok_X2_behindStep_j140  hr1 hE hK
            · rw [if_pos hc104] at hE
              refine Wp.aload_n dc_X2_behindStep_107 rfl ?_
              obtain ⟨p108, h108, hE⟩ := bnd hE
              refine Wp.cV0i (ok_X0_loosenOnce (by omega) h108) dc_X2_behindStep_108 mw_X2_92 (mO0 (by omega)) (by decide) (Nat.le_of_ble_eq_true rfl) ?_
              refine Wp.pop dc_X2_behindStep_111 rfl ?_
              refine Wp.goto (tgt := 212) dc_X2_behindStep_112 (by decide) ?_
              exact ok_X2_behindStep_j212  hr1 hE hK
          · rw [if_pos hc87] at hE
            refine Wp.aload_n dc_X2_behindStep_90 rfl ?_
            refine Wp.aload_n dc_X2_behindStep_91 rfl ?_
            refine Wp.iload dc_X2_behindStep_92 rfl ?_
            obtain ⟨σ94, h94, hE⟩ := bnd hE
            refine Wp.cV2v (ok_X2_openOften (by omega) h94) dc_X2_behindStep_94 mw_X2_88 (mO2 (by decide)) (by decide) (Nat.le_of_ble_eq_true rfl) ?_
            refine Wp.goto (tgt := 212) dc_X2_behindStep_97 (by decide) ?_
            exact ok_X2_behindStep_j212  hr1 hE hK
        · rw [if_pos hc66] at hE
          refine Wp.aload_n dc_X2_behindStep_69 rfl ?_
          refine Wp.sgetR (t := 30) dc_X2_behindStep_70 fw_X2_23 (mO2 (by decide)) rfl ?_
          refine Wp.iconst dc_X2_behindStep_73 ic_0 ?_
          refine Wp.iload_n dc_X2_behindStep_74 rfl ?_
          refine Wp.iload dc_X2_behindStep_75 rfl ?_
          obtain ⟨σ77, h77, hE⟩ := bnd hE
          refine Wp.cV3v (ok_X4_put (by decide) h77) dc_X2_behindStep_77 mw_X2_42 (mO3 (by decide)) (by decide) (Nat.le_of_ble_eq_true rfl) ?_
          refine Wp.goto (tgt := 212) dc_X2_behindStep_80 (by decide) ?_
          exact ok_X2_behindStep_j212  hr1 hE hK
      · rw [if_pos hc37] at hE
        exact ok_X2_behindStep_j40  hr1 hE hK
theorem ok_X2_behindStep  {σ : SS} {r1 : Nat} {x2 : Int32} {o}  (hr1 : r1 < 5) (hE : X2_behindStep  σ r1 x2 = some o) : Runs 5 0 0 mi_X2_behindStep [vr 2 0, vr 0 r1, vi x2] (hp σ) (fun v h => v = some (vi o.1) ∧ h = hp o.2) := by
  refine Runs.of pn_X2 (Nat.le_of_ble_eq_true rfl) ?_
  exact ok_X2_behindStep_j0  hr1 hE ⟨rfl, rfl⟩
def X2_run_P2 (Q : Option AV → AH → Prop)  (r1 : Nat) (x2 : Int32) (ss : Int32 × SS) : Prop := ∀ z4 z5 z6 z7 : Option AV, Ws 6 mi_X2_run Q 2 [some (vr 2 0), some (vr 0 r1), some (vi x2), some (vi ss.1), z4, z5, z6, z7] [] ss.2
def X2_run_R2 (Q : Option AV → AH → Prop)  (r1 : Nat) (x2 : Int32) (tt : SS) : Prop := ∀ z3 z4 z5 z6 z7 : Option AV, Ws 6 mi_X2_run Q 23 [some (vr 2 0), some (vr 0 r1), some (vi x2), z3, z4, z5, z6, z7] [] tt
theorem ok_X2_run_l2c {Q : Option AV → AH → Prop}  {σ : SS} {r1 : Nat} {x2 : Int32} {x3 : Int32} {o} {z4 z5 z6 z7 : Option AV}  (hr1 : r1 < 5) (hE : X2_run_l2c  σ r1 x2 x3 = some o) (hS : ∀ ss, o = Sum.inl ss → (X2_run_P2  Q  r1 x2) ss) (hT : ∀ tt, o = Sum.inr tt → (X2_run_R2  Q  r1 x2) tt) : Ws 6 mi_X2_run Q 2 [some (vr 2 0), some (vr 0 r1), some (vi x2), some (vi x3), z4, z5, z6, z7] [] σ := by
  unfold X2_run_l2c at hE
  refine Wp.iload_n dc_X2_run_2 rfl ?_
  refine Wp.iconst dc_X2_run_3 ic_4 ?_
  refine Wp.icmp_gt (tgt := 23) dc_X2_run_4 (by decide) (fun hc4 => ?_) (fun hc4 => ?_)
  · rw [if_pos hc4] at hE
    cases hE
    exact hT _ rfl _ _ _ _ _
  · rw [if_neg hc4] at hE
    refine Wp.aload_n dc_X2_run_7 rfl ?_
    refine Wp.sgetR (t := 28) dc_X2_run_8 fw_X2_12 (mO2 (by decide)) rfl ?_
    refine Wp.iconst dc_X2_run_11 ic_0 ?_
    refine Wp.iload_n dc_X2_run_12 rfl ?_
    refine Wp.iconst dc_X2_run_13 ic_0 ?_
    obtain ⟨σ14, h14, hE⟩ := bnd hE
    refine Wp.cV3v (ok_X4_put (by decide) h14) dc_X2_run_14 mw_X2_42 (mO3 (by decide)) (by decide) (Nat.le_of_ble_eq_true rfl) ?_
    obtain ⟨x3_17, e_17, hE⟩ := bnS hE
    refine Wp.iinc dc_X2_run_17 rfl ((ii ic_1).trans e_17) (by decide) ?_
    refine Wp.goto (tgt := 2) dc_X2_run_20 (by decide) ?_
    cases hE
    exact hS _ rfl _ _ _ _
def X2_run_P42 (Q : Option AV → AH → Prop)  (r1 : Nat)  (ss : Int32 × Int32 × Int32 × SS) : Prop := ∀ z2 z7 : Option AV, Ws 6 mi_X2_run Q 42 [some (vr 2 0), some (vr 0 r1), z2, some (vr 8 r1), some (vi ss.1), some (vi ss.2.1), some (vi ss.2.2.1), z7] [] ss.2.2.2
def X2_run_R42 (Q : Option AV → AH → Prop)  (r1 : Nat)  (tt : (Int32 × SS) ⊕ ((Int32 × SS) ⊕ (Int32 × SS))) : Prop := match tt with
  | Sum.inl tt => ∀ z1 z2 z3 z5 z6 z7 : Option AV, Ws 6 mi_X2_run Q 93 [some (vr 2 0), z1, z2, z3, some (vi tt.1), z5, z6, z7] [] tt.2
  | Sum.inr tt => (match tt with
  | Sum.inl tt => ∀ z0 z1 z2 z3 z5 z6 z7 : Option AV, Ws 6 mi_X2_run Q 112 [z0, z1, z2, z3, some (vi tt.1), z5, z6, z7] [] tt.2
  | Sum.inr tt => ∀ z0 z1 z2 z3 z5 z6 z7 : Option AV, Ws 6 mi_X2_run Q 130 [z0, z1, z2, z3, some (vi tt.1), z5, z6, z7] [] tt.2)
theorem ok_X2_run_j124 {Q : Option AV → AH → Prop}  {σ : SS} {r1 : Nat} {x4 : Int32} {x5 : Int32} {x6 : Int32} {o} {z2 z7 : Option AV}  (hr1 : r1 < 5) (hE : X2_run_j124  σ r1 x4 x5 x6 = some o) (hS : ∀ ss, o = Sum.inl ss → (X2_run_P42  Q  r1 ) ss) (hT : ∀ tt, o = Sum.inr tt → (X2_run_R42  Q  r1 ) tt) : Ws 6 mi_X2_run Q 124 [some (vr 2 0), some (vr 0 r1), z2, some (vr 8 r1), some (vi x4), some (vi x5), some (vi x6), z7] [] σ := by
  unfold X2_run_j124 at hE
  obtain ⟨x6_124, e_124, hE⟩ := bnS hE
  refine Wp.iinc dc_X2_run_124 rfl ((ii ic_1).trans e_124) (by decide) ?_
  refine Wp.goto (tgt := 42) dc_X2_run_127 (by decide) ?_
  cases hE
  exact hS _ rfl _ _
theorem ok_X2_run_l42c {Q : Option AV → AH → Prop}  {σ : SS} {r1 : Nat}  {x4 : Int32} {x5 : Int32} {x6 : Int32} {o} {z2 z7 : Option AV}  (hr1 : r1 < 5) (hE : X2_run_l42c  σ r1  x4 x5 x6 = some o) (hS : ∀ ss, o = Sum.inl ss → (X2_run_P42  Q  r1 ) ss) (hT : ∀ tt, o = Sum.inr tt → (X2_run_R42  Q  r1 ) tt) : Ws 6 mi_X2_run Q 42 [some (vr 2 0), some (vr 0 r1), z2, some (vr 8 r1), some (vi x4), some (vi x5), some (vi x6), z7] [] σ := by
  unfold X2_run_l42c at hE
  refine Wp.iload dc_X2_run_42 rfl ?_
  refine Wp.ldc dc_X2_run_44 kw_X2_56 ?_
  refine Wp.icmp_ge (tgt := 130) dc_X2_run_46 (by decide) (fun hc46 => ?_) (fun hc46 => ?_)
  · rw [if_pos hc46] at hE
    cases hE
    exact hT _ rfl _ _ _ _ _ _ _
  · rw [if_neg hc46] at hE
    refine Wp.iload dc_X2_run_49 rfl ?_
    refine Wp.aload_n dc_X2_run_51 rfl ?_
    obtain ⟨v52, h52, hE⟩ := bnd hE
    refine Wp.cV0i (ok_X9_lineCount (by omega) h52) dc_X2_run_52 mw_X2_57 (mO8 (by omega)) (by decide) (Nat.le_of_ble_eq_true rfl) ?_
    refine Wp.icmp_ge (tgt := 130) dc_X2_run_55 (by decide) (fun hc55 => ?_) (fun hc55 => ?_)
    · rw [if_pos hc55] at hE
      cases hE
      exact hT _ rfl _ _ _ _ _ _ _
    · rw [if_neg hc55] at hE
      refine Wp.aload_n dc_X2_run_58 rfl ?_
      refine Wp.iload dc_X2_run_59 rfl ?_
      obtain ⟨v61, h61, hE⟩ := bnd hE
      refine Wp.cV1i (ok_X9_wordAt (by omega) h61) dc_X2_run_61 mw_X2_61 (mO8 (by omega)) (by decide) (Nat.le_of_ble_eq_true rfl) ?_
      refine Wp.istore dc_X2_run_64 (by decide) ?_
      refine Wp.iload dc_X2_run_66 rfl ?_
      refine Wp.bipush dc_X2_run_68 bp_22 ?_
      refine Wp.icmp_ne (tgt := 85) dc_X2_run_70 (by decide) (fun hc70 => ?_) (fun hc70 => ?_)
      · rw [if_neg hc70] at hE
        refine Wp.iload dc_X2_run_85 rfl ?_
        refine Wp.sipush dc_X2_run_87 sp_300 ?_
        refine Wp.icmp_ne (tgt := 102) dc_X2_run_90 (by decide) (fun hc90 => ?_) (fun hc90 => ?_)
        · rw [if_neg hc90] at hE
          obtain ⟨x4_102, e_102, hE⟩ := bnS hE
          refine Wp.iinc dc_X2_run_102 rfl ((ii ic_1).trans e_102) (by decide) ?_
          refine Wp.iload dc_X2_run_105 rfl ?_
          refine Wp.bipush dc_X2_run_107 bp_23 ?_
          refine Wp.icmp_ne (tgt := 115) dc_X2_run_109 (by decide) (fun hc109 => ?_) (fun hc109 => ?_)
          · rw [if_neg hc109] at hE
            refine Wp.aload_n dc_X2_run_115 rfl ?_
            refine Wp.aload_n dc_X2_run_116 rfl ?_
            refine Wp.iload dc_X2_run_117 rfl ?_
            obtain ⟨p119, h119, hE⟩ := bnd hE
            refine Wp.cV2i (ok_X2_behindStep (by omega) h119) dc_X2_run_119 mw_X2_74 (mO2 (by decide)) (by decide) (Nat.le_of_ble_eq_true rfl) ?_
            refine Wp.istore dc_X2_run_122 (by decide) ?_
            exact ok_X2_run_j124  hr1 hE hS hT
          · rw [if_pos hc109] at hE
            cases hE
            exact hT _ rfl _ _ _ _ _ _ _
        · rw [if_pos hc90] at hE
          cases hE
          exact hT _ rfl _ _ _ _ _ _
      · rw [if_pos hc70] at hE
        refine Wp.aload_n dc_X2_run_73 rfl ?_
        refine Wp.aload_n dc_X2_run_74 rfl ?_
        refine Wp.iload dc_X2_run_75 rfl ?_
        obtain ⟨p77, h77, hE⟩ := bnd hE
        refine Wp.cV2i (ok_X2_behindEnd (by omega) h77) dc_X2_run_77 mw_X2_67 (mO2 (by decide)) (by decide) (Nat.le_of_ble_eq_true rfl) ?_
        refine Wp.istore dc_X2_run_80 (by decide) ?_
        refine Wp.goto (tgt := 124) dc_X2_run_82 (by decide) ?_
        exact ok_X2_run_j124  hr1 hE hS hT
theorem ok_X2_run_l42 {Q : Option AV → AH → Prop}  {σ : SS} {r1 : Nat} {x4 : Int32} {x5 : Int32} {x6 : Int32} {o} {z2 z7 : Option AV}  (hr1 : r1 < 5) (hE : X2_run_l42  σ r1 x4 x5 x6 = some o) (hK : Q (some (vi o.1)) (hp o.2)) : Ws 6 mi_X2_run Q 42 [some (vr 2 0), some (vr 0 r1), z2, some (vr 8 r1), some (vi x4), some (vi x5), some (vi x6), z7] [] σ := by
  unfold X2_run_l42 at hE
  obtain ⟨t42, h1, hE⟩ := bnd hE
  refine iter_ok (P := (X2_run_P42  Q  r1 )) (R := (X2_run_R42  Q  r1 )) (fun ss o h2 hS hT => ?_) NF _ _ h1 ?_ _ _
  · intro z2 z7
    exact ok_X2_run_l42c  hr1 h2 hS hT
  · rcases t42 with e93 | u93
    · dsimp only at hE
      intro z1 z2 z3 z5 z6 z7
      show Ws 6 mi_X2_run Q 93 [some (vr 2 0), z1, z2, z3, some (vi e93.1), z5, z6, z7] [] e93.2
      refine Wp.aload_n dc_X2_run_93 rfl ?_
      refine Wp.iconst dc_X2_run_94 ic_4 ?_
      refine Wp.iconst dc_X2_run_95 ic_1 ?_
      obtain ⟨σ96, h96, hE⟩ := bnd hE
      refine Wp.cV2v (ok_X2_add  h96) dc_X2_run_96 mw_X2_71 (mO2 (by decide)) (by decide) (Nat.le_of_ble_eq_true rfl) ?_
      refine Wp.iload dc_X2_run_99 rfl ?_
      cases hE
      exact Wp.ireturn dc_X2_run_101 rfl rfl (Nat.le_refl _) (Nat.le_refl _) hK
    · dsimp only at hE
      rcases u93 with e112 | u112
      · dsimp only at hE
        intro z0 z1 z2 z3 z5 z6 z7
        show Ws 6 mi_X2_run Q 112 [z0, z1, z2, z3, some (vi e112.1), z5, z6, z7] [] e112.2
        refine Wp.iload dc_X2_run_112 rfl ?_
        cases hE
        exact Wp.ireturn dc_X2_run_114 rfl rfl (Nat.le_refl _) (Nat.le_refl _) hK
      · dsimp only at hE
        skip
        intro z0 z1 z2 z3 z5 z6 z7
        show Ws 6 mi_X2_run Q 130 [z0, z1, z2, z3, some (vi u112.1), z5, z6, z7] [] u112.2
        refine Wp.iload dc_X2_run_130 rfl ?_
        cases hE
        exact Wp.ireturn dc_X2_run_132 rfl rfl (Nat.le_refl _) (Nat.le_refl _) hK
theorem ok_X2_run_l2 {Q : Option AV → AH → Prop}  {σ : SS} {r1 : Nat} {x2 : Int32} {x3 : Int32} {o} {z4 z5 z6 z7 : Option AV}  (hr1 : r1 < 5) (hE : X2_run_l2  σ r1 x2 x3 = some o) (hK : Q (some (vi o.1)) (hp o.2)) : Ws 6 mi_X2_run Q 2 [some (vr 2 0), some (vr 0 r1), some (vi x2), some (vi x3), z4, z5, z6, z7] [] σ := by
  unfold X2_run_l2 at hE
  obtain ⟨t2, h1, hE⟩ := bnd hE
  refine iter_ok (P := (X2_run_P2  Q  r1 x2)) (R := (X2_run_R2  Q  r1 x2)) (fun ss o h2 hS hT => ?_) NF _ _ h1 ?_ _ _ _ _
  · intro z4 z5 z6 z7
    exact ok_X2_run_l2c  hr1 h2 hS hT
  · intro z3 z4 z5 z6 z7
    show Ws 6 mi_X2_run Q 23 [some (vr 2 0), some (vr 0 r1), some (vi x2), z3, z4, z5, z6, z7] [] t2
    refine Wp.aload_n dc_X2_run_23 rfl ?_
    refine Wp.iload_n dc_X2_run_24 rfl ?_
    obtain ⟨σ25, h25, hE⟩ := bnd hE
    refine Wp.cV1v (ok_X0_drawFrom (by omega) h25) dc_X2_run_25 mw_X2_46 (mO0 (by omega)) (by decide) (Nat.le_of_ble_eq_true rfl) ?_
    refine Wp.aload_n dc_X2_run_28 rfl ?_
    refine Wp.sgetR (t := r1) dc_X2_run_29 fw_X2_52 (mO0 (by omega)) rfl ?_
    refine Wp.astore_n dc_X2_run_32 (by decide) ?_
    refine Wp.iconst dc_X2_run_33 ic_0 ?_
    refine Wp.istore dc_X2_run_34 (by decide) ?_
    refine Wp.iconst dc_X2_run_36 ic_0 ?_
    refine Wp.istore dc_X2_run_37 (by decide) ?_
    refine Wp.iconst dc_X2_run_39 ic_0 ?_
    refine Wp.istore dc_X2_run_40 (by decide) ?_
    exact ok_X2_run_l42  hr1 hE hK
theorem ok_X2_run_j0 {Q : Option AV → AH → Prop}  {σ : SS} {r1 : Nat} {x2 : Int32} {o} {z3 z4 z5 z6 z7 : Option AV}  (hr1 : r1 < 5) (hE : X2_run_j0  σ r1 x2 = some o) (hK : Q (some (vi o.1)) (hp o.2)) : Ws 6 mi_X2_run Q 0 [some (vr 2 0), some (vr 0 r1), some (vi x2), z3, z4, z5, z6, z7] [] σ := by
  unfold X2_run_j0 at hE
  refine Wp.iconst dc_X2_run_0 ic_0 ?_
  refine Wp.istore_n dc_X2_run_1 (by decide) ?_
  exact ok_X2_run_l2  hr1 hE hK
theorem ok_X2_run  {σ : SS} {r1 : Nat} {x2 : Int32} {o}  (hr1 : r1 < 5) (hE : X2_run  σ r1 x2 = some o) : Runs 6 0 0 mi_X2_run [vr 2 0, vr 0 r1, vi x2] (hp σ) (fun v h => v = some (vi o.1) ∧ h = hp o.2) := by
  refine Runs.of pn_X2 (Nat.le_of_ble_eq_true rfl) ?_
  exact ok_X2_run_j0  hr1 hE ⟨rfl, rfl⟩
