/-! ===== TEXTS: each kind of STEP ===== -/
section YT
variable {σ υ : SS} {B : Nat → Nat} {S a n l s q : Nat}
theorem bad_line {σ' υ' : SS} (h : TK B S a σ υ) (hl : l ≤ 60) {kw : Nat} (hw : wid B S a = some kw) (h22 : kw ≠ 22) (e : X10_stepLine σ 0 1 = some (0, σ')) (g : Flt σ' υ') (E : Eqo (YFr l (3 - q)) σ σ') : YBad l q σ υ' := by
  have hk := (wid_lt hw).2
  have hline := line_c h hl
  rw [if_neg (by rw [hk]; decide), if_neg (by rw [hw]; exact fun z => h22 (Option.some.inj z)), e, Option.bind_some] at hline
  exact ⟨σ', 2, by omega, GY_flt hline, g, E⟩
theorem good_line {σ' : SS} (h : TK B S a σ υ) (hl : l ≤ 60) {kw : Nat} (hw : wid B S a = some kw) (h22 : kw ≠ 22) (e : X10_stepLine σ 0 1 = some (1, σ')) : ∀ R, GY (R + 1) l σ = GY R (l + 1) σ' := by
  have hk := (wid_lt hw).2
  have hline := line_c h hl
  rw [if_neg (by rw [hk]; decide), if_neg (by rw [hw]; exact fun z => h22 (Option.some.inj z)), e, Option.bind_some] at hline
  exact GY_step (by omega) hline
theorem knd22 {kw kk : Nat} (h : knd kw kk) : kw ≠ 22 ∧ kw < 24 ∧ kk < 9 ∧ (blk kw = true ↔ (kw = 18 ∨ kw = 21)) ∧ (blk kw = true ↔ (kk = 6 ∨ kk = 7)) := by
  unfold knd at h
  unfold blk
  simp
  omega
/-- what the reference does up to its tests -/
theorem xstep_pre (h : TK B S a σ υ) {kw kk : Nat} (hw : wid B S a = some kw) (hkw : knd kw kk) : X12_readStepN (q + 2) υ (nI (3 - q)) = X12_readStep_j31 (X12_readStepN (q + 1)) υ (nI (3 - q)) (nI kk) (if blk kw = true then 1 else 0) := by
  obtain ⟨-, -, hkk, hb1, hb2⟩ := knd22 hkw
  have esp : spF (wid B S a) = nI kk := by
    rw [hw]
    rcases hkw with (⟨rfl, rfl⟩ | ⟨rfl, rfl⟩ | ⟨rfl, rfl⟩ | ⟨rfl, rfl⟩ | ⟨rfl, rfl⟩ | ⟨rfl, rfl⟩ | ⟨rfl, rfl⟩ | ⟨rfl, rfl⟩) | ⟨rfl, rfl⟩ <;> rfl
  show X12_readStep (X12_readStepN (q + 1)) υ (nI (3 - q)) = _
  unfold X12_readStep X12_readStep_j0 X12_readStep_j17 X12_readStep_j22
  rw [xstepWord h, Option.bind_some, esp, if_pos (nI_pos' (by omega)), if_pos (nI_pos' (by omega))]
  by_cases hbk : blk kw = true
  · rw [if_pos hbk]
    rcases hb2.mp hbk with rfl | rfl
    · rw [if_pos (by decide)]
    · rw [if_neg (by decide), if_pos (by decide)]
  · have hk2 : kk ≠ 6 ∧ kk ≠ 7 := ⟨fun z => hbk (hb2.mpr (.inl z)), fun z => hbk (hb2.mpr (.inr z))⟩
    rw [if_neg hbk, if_neg (show ¬ nI kk = 6 from wne (b := 6) hk2.1 (by omega) (by decide)), if_neg (show ¬ nI kk = 7 from wne (b := 7) hk2.2 (by omega) (by decide))]
/-- what the class does up to its tests -/
theorem cstep_pre (h : TK B S a σ υ) {kw kk : Nat} (hw : wid B S a = some kw) (hkw : knd kw kk) : X10_stepLine σ 0 1 = X10_stepLine_j48 σ 0 1 (nI kw) (if blk kw = true then 1 else 0) := by
  obtain ⟨-, hk24, hkk, hb1, hb2⟩ := knd22 hkw
  have eW : X5_word σ = some (nI kw) := by
    rw [word_val h, hw]
    rfl
  unfold X10_stepLine X10_stepLine_j0 X10_stepLine_j20 X10_stepLine_j25
  rw [eW, Option.bind_some]
  by_cases hbk : blk kw = true
  · rw [if_pos hbk]
    rcases hb1.mp hbk with rfl | rfl
    · rw [if_pos (by decide), if_neg neg1_0]
    · rw [if_neg (by decide), if_pos (by decide), if_neg neg1_0]
  · have hk2 : kw ≠ 18 ∧ kw ≠ 21 := ⟨fun z => hbk (hb1.mpr (.inl z)), fun z => hbk (hb1.mpr (.inr z))⟩
    have hpl := plain_k kw hk24 σ
    rw [if_pos (by unfold knd at hkw; omega)] at hpl
    rw [if_neg hbk, if_neg (show ¬ nI kw = 18 from wne (b := 18) hk2.1 (by omega) (by decide)), if_neg (show ¬ nI kw = 21 from wne (b := 21) hk2.2 (by omega) (by decide)), if_pos rfl, hpl, Option.bind_some, if_neg neg1_0]
/-- there are 30 already -/
theorem step_full (h : TK B S a σ υ) (h12 : υ.1 11 0 12 = 0) (hY : YP n q s l σ υ) {kw kk : Nat} (hw : wid B S a = some kw) (hkw : knd kw kk) (hs : s = 30) : ∃ υ', X12_readStepN (q + 2) υ (nI (3 - q)) = some υ' ∧ Eqo (YXr s) υ υ' ∧ YBad l q σ υ' := by
  obtain ⟨y5, y0, yn, yN, yl, ys, yx, yd, yq, y30, yle⟩ := hY
  subst hs
  obtain ⟨h22, -⟩ := knd22 hkw
  obtain ⟨σ', υ', f1, f2, f3, f4, f5⟩ := h.fail h12 (x := 6) (by decide) (by rw [(wid_lt hw).2]; decide)
  have f1' : X5_fail σ 6 = some (0, σ') := f1
  have f2' : X12_fail υ 6 (υ.1 11 0 15) = some υ' := f2
  refine ⟨υ', ?_, YX_as f5, bad_line h (by omega) hw h22 ?_ f3 (YF_as f4)⟩
  · rw [xstep_pre h hw hkw]
    unfold X12_readStep_j31 X12_readStep_j57 X12_readStep_j83
    rw [if_pos h12, yx, if_pos (show nI 30 = 30 from rfl), f2', Option.bind_some, if_neg f3.pos.2.2, if_neg f3.pos.2.1]
  · rw [cstep_pre h hw hkw]
    unfold X10_stepLine_j48 X9_isFull X9_isFull_j0
    rw [ys, if_neg (show ¬ nI 30 < 30 by decide), Option.bind_some, if_neg neg1_0, f1', Option.bind_some]
    rfl
/-- no more may open -/
theorem step_deep (h : TK B S a σ υ) (h12 : υ.1 11 0 12 = 0) (hY : YP n 0 s l σ υ) {kw kk : Nat} (hw : wid B S a = some kw) (hkw : knd kw kk) (hs : s < 30) (hb : blk kw = true) : ∃ υ', X12_readStepN 2 υ (nI 3) = some υ' ∧ Eqo (YXr s) υ υ' ∧ YBad l 0 σ υ' := by
  obtain ⟨y5, y0, yn, yN, yl, ys, yx, yd, yq, y30, yle⟩ := hY
  obtain ⟨h22, -⟩ := knd22 hkw
  obtain ⟨σ', υ', f1, f2, f3, f4, f5⟩ := h.fail h12 (x := 7) (by decide) (by rw [(wid_lt hw).2]; decide)
  have f1' : X5_fail σ 7 = some (0, σ') := f1
  have f2' : X12_fail υ 7 (υ.1 11 0 15) = some υ' := f2
  refine ⟨υ', ?_, YX_as f5, bad_line h (by omega) hw h22 ?_ f3 (YF_as f4)⟩
  · have := xstep_pre (q := 0) h hw hkw
    rw [if_pos hb] at this
    refine this.trans ?_
    unfold X12_readStep_j31 X12_readStep_j57 X12_readStep_j83
    rw [if_pos h12, yx, if_neg (show ¬ nI s = 30 from wne (b := 30) (by omega) (by omega) (by decide)), if_pos h12, if_neg neg1_0, if_pos (show nI (3 - 0) = 3 from rfl), f2', Option.bind_some, if_neg f3.pos.2.1]
  · rw [cstep_pre h hw hkw, if_pos hb]
    unfold X10_stepLine_j48 X9_isFull X9_isFull_j0
    rw [ys, if_pos (show nI s < 30 from nI_lt (b := 30) hs (by decide)), Option.bind_some, if_pos rfl, if_neg neg1_0, yd, if_neg (show ¬ nI (3 - 0) < 3 by decide), f1', Option.bind_some]
    rfl
theorem l142_0 (υ : SS) (rec : SS → Int32 → Option SS) (x1 : Int32) (hs : s < 30) : X12_readStep_l142 rec υ x1 0 (nI (1774 + 9 * s)) = some (wI υ 13 34 (1774 + 9 * s + 8) (υ.1 11 0 24)) := by
  have k8 : ck (LN 13 34) (nI (1774 + 9 * s) + 8) = some (1774 + 9 * s + 8) := ckW (e := 8) (by omega)
  have e : iter (X12_readStep_l142b rec x1 0 (nI (1774 + 9 * s))) NF υ = some υ := by
    have hNF : NF = (NF - 1) + 1 := by unfold NF; omega
    rw [hNF]
    refine it_r ?_ _
    show X12_readStep_l142c rec υ x1 0 (nI (1774 + 9 * s)) = _
    unfold X12_readStep_l142c
    rw [if_pos rfl]
  unfold X12_readStep_l142 X12_readStep_j170 X12_readStep_j192
  rw [e, Option.bind_some, if_pos rfl, k8, Option.bind_some, Option.bind_some]
/-- a STEP without a block -/
theorem step_one (h : TK B S a σ υ) (h12 : υ.1 11 0 12 = 0) (hY : YP n q s l σ υ) {kw kk : Nat} (hw : wid B S a = some kw) (hkw : knd kw kk) (hs : s < 30) (hb : ¬ blk kw = true) : ∃ υ', X12_readStepN (q + 2) υ (nI (3 - q)) = some υ' ∧ Eqo (YXr s) υ υ' ∧ ((∃ σ' s' l' m, YGood n q s l σ σ' υ' s' l' m ∧ s < s' ∧ Gon B S σ' υ') ∨ YBad l q σ υ') := by
  obtain ⟨h22, -, hkk, hb1, hb2⟩ := knd22 hkw
  have hY' := hY
  obtain ⟨y5, y0, yn, yN, yl, ys, yx, yd, yq, y30, yle⟩ := hY'
  obtain ⟨r, σ1, υ1, e1, e2, e3, e4, e5, E, F⟩ := head_ok h h12 hY hw hkw hs (fun z => absurd z hb)
  rw [if_neg hb, l142_0 υ1 _ _ hs, e3] at e2
  have F2 : Eqo (fun k m j => k = 13 ∧ m = 34 ∧ j = 1774 + 9 * s + 8) υ1 (wI υ1 13 34 (1774 + 9 * s + 8) (nI (s + 1))) := Eqo.wI ⟨rfl, rfl, rfl⟩
  have FF : Eqo (YXr s) υ (wI υ1 13 34 (1774 + 9 * s + 8) (nI (s + 1))) := F.tr (F2.mono (fun k m j z => .inr (.inl (by omega))))
  refine ⟨_, e2, FF, ?_⟩
  rcases e5 with ⟨rfl, ⟨⟨a', g1⟩, g12⟩, ⟨hB1, -⟩, hd, -⟩ | ⟨rfl, g⟩
  · left
    rw [if_neg hb] at hd
    have hk18 : kw ≠ 18 := fun z => hb (hb1.mpr (.inl z))
    have hk21 : kw ≠ 21 := fun z => hb (hb1.mpr (.inr z))
    obtain ⟨⟨l1, l2, l3⟩, hR⟩ := hB1 hk18
    have G8 : (wI υ1 13 34 (1774 + 9 * s + 8) (nI (s + 1))).1 13 34 (1640 + (142 + 9 * s)) = nI (s + 1) := by
      rw [show 1640 + (142 + 9 * s) = 1774 + 9 * s + 8 by omega, wI_eq]
    have G0 : (wI υ1 13 34 (1774 + 9 * s + 8) (nI (s + 1))).1 13 34 (1640 + (134 + 9 * s)) = nI kk := by
      rw [wI_ne _ _ (by omega), show 1640 + (134 + 9 * s) = 1774 + 9 * s by omega]; exact e4
    have G1 : (wI υ1 13 34 (1774 + 9 * s + 8) (nI (s + 1))).1 13 34 (1640 + (135 + 9 * s)) = υ1.1 13 34 (1774 + 9 * s + 1) := by
      rw [wI_ne _ _ (by omega), show 1640 + (135 + 9 * s) = 1774 + 9 * s + 1 by omega]
    have G24 : (wI υ1 13 34 (1774 + 9 * s + 8) (nI (s + 1))).1 11 0 24 = nI (s + 1) := (wI_ne _ _ (by omega)).trans e3
    have gG : Gon B S σ1 (wI υ1 13 34 (1774 + 9 * s + 8) (nI (s + 1))) := ⟨⟨a', g1.keep (Eqo.rf (fun _ _ _ => False) _) F2 (fun k m j z => z.elim) (fun k m j z => by omega)⟩, (F2.at1 (by omega)).trans g12⟩
    generalize wI υ1 13 34 (1774 + 9 * s + 8) (nI (s + 1)) = υ2 at *
    refine ⟨σ1, s + 1, l + 1, 1, ⟨good_line h (by omega) hw h22 e1, rfl, ⟨(E.at1 (by unfold YFr NCf NC; omega)).trans y5, (FF.at1 (by unfold YXr NXf NX; omega)).trans y0, yn, fun m hm => ?_, l1, l2, G24, hd, yq, by omega, by omega⟩, ⟨1, ?_⟩, E⟩, by omega, gG⟩
    · rw [E.2 _ _ _ (by unfold YFr NCf NC; omega), FF.2 _ _ _ (by unfold YXr NXf NX; omega)]; exact yN m hm
    · rcases hR with ⟨rfl, rfl⟩ | ⟨rfl, -⟩ | hp
      · exact .inr (.inr (.inl ⟨l3, G0, G8, Nat.le_refl _, Nat.le_refl _, rfl, rfl⟩))
      · exact absurd rfl hk21
      · refine .inr (.inl ⟨kw, kk, ?_, l3, G0, G8, Nat.le_refl _, Nat.le_refl _, rfl, rfl⟩)
        show PlC n kw kk (σ1.1 13 4 (60 + l)) (υ2.1 13 34 (1640 + (135 + 9 * s)))
        rw [G1]
        exact hp
  · exact .inr (bad_line h (by omega) hw h22 e1 (g.eq rfl rfl (F2.at1 (by omega)) (F2.at1 (by omega))) E)
end YT
