/-! ===== TEXTS: a when, a loop ===== -/
def BodyC (n l W kw kk : Nat) (σ υ : SS) : Prop := (kw ≠ 18 → σ.1 13 4 l = nI kw ∧ RestY n kw kk (σ.1 13 4 (60 + l)) (υ.1 13 34 (W + 1))) ∧ (kw = 18 → ∃ tw tk, σ.1 13 4 l = nI tw ∧ TsC n tw tk (σ.1 13 4 (60 + l)) (σ.1 13 4 (120 + l)) (υ.1 13 34 (W + 1)) (υ.1 13 34 (W + 2)) (υ.1 13 34 (W + 7)) ∧ υ.1 13 34 (W + 6) = nI tk)
section YB2
variable {σ υ : SS} {B : Nat → Nat} {S a n l s q : Nat}
/-- the end of a when or a loop -/
theorem end_ok {l0 s0 : Nat} (h : TK B S a σ υ) (h12 : υ.1 11 0 12 = 0) (hw : wid B S a = some 22) (hq : q < 3) (hY : YP n q s l σ υ) (ho : σ.1 13 21 (3 - (q + 1)) = nI l0) (hl0 : l0 < l) (hs0 : s0 < 30) (hss : s0 < s) {x3 : Int32} (hx3 : ¬ x3 = 0) (rec : SS → Int32 → Option SS) : ∃ r σ' υ', X10_isGood_l18b 0 1 (1, nI l, σ) = some (Sum.inl (r, nI (l + 1), σ')) ∧ X12_readStep_j170 rec υ x3 (nI (1774 + 9 * s0)) = some υ' ∧ ((r = 1 ∧ Gon B S σ' υ' ∧ YP n (q + 1) s (l + 1) σ' υ' ∧ σ'.1 13 4 l = nI 22 ∧ σ'.1 13 4 (180 + l) = nI l0 ∧ σ'.1 13 4 (180 + l0) = nI l ∧ υ'.1 13 34 (1774 + 9 * s0 + 8) = nI s) ∨ (r = 0 ∧ Flt σ' υ')) ∧ Eqo (fun k m j => NCf k m j ∨ AE l l0 k m j ∨ (k = 9 ∧ m = 0 ∧ j = 2)) σ σ' ∧ Eqo (fun k m j => NXf k m j ∨ (k = 13 ∧ m = 34 ∧ j = 1774 + 9 * s0 + 8)) υ υ' := by
  obtain ⟨y5, y0, yn, yN, yl, ys, yx, yd, yq, y30, yle⟩ := hY
  have hl : l < 60 := by omega
  have k8 : ck (LN 13 34) (nI (1774 + 9 * s0) + 8) = some (1774 + 9 * s0 + 8) := ckW (e := 8) (by omega)
  obtain ⟨a1, σ1, υ1, e1, e2, hT1, E1, F1⟩ := h.next
  have E2 : Eqo (fun k m j => k = 9 ∧ m = 0 ∧ j = 2) σ1 (wI σ1 9 0 2 (nI (3 - (q + 1)))) := Eqo.wI ⟨rfl, rfl, rfl⟩
  obtain ⟨τ, t1, t2, t3, t4, t5, E3⟩ := addEnd_ok (σ := wI σ1 9 0 2 (nI (3 - (q + 1)))) hl hl0 (by rw [wI_ne _ _ (by omega), E1.at1 (by unfold NC; omega)]; exact yl)
  have hTt : TK B S a1 τ υ1 := (hT1.keep E2 (Eqo.rf (fun _ _ _ => False) _) (fun k m j z => by omega) (fun k m j z => z.elim)).keep E3 (Eqo.rf (fun _ _ _ => False) _) (fun k m j z => by unfold AE at z; omega) (fun k m j z => z.elim)
  have x12 : υ1.1 11 0 12 = 0 := (F1.at1 (by unfold NX; omega)).trans h12
  obtain ⟨v, w, σ2, υ2, f1, f2, f3, f4, E4, F4⟩ := must_sign hTt x12 (s := 59) (by decide)
  have f1' : X12_isSign υ1 59 = some v := f1
  have f2' : X5_passSign τ 59 = some (w, σ2) := f2
  have d1 : σ1.1 9 0 2 = nI (3 - q) := (E1.at1 (by unfold NC; omega)).trans yd
  have hend : X10_endLine σ 1 = some (w, σ2) := by
    unfold X10_endLine X10_endLine_j0
    rw [yd, if_neg (show ¬ nI (3 - q) = 0 from wne (b := 0) (by omega) (by omega) (by decide)), e1, Option.bind_some, d1, nI_sub1 (by omega), show 3 - q - 1 = 3 - (q + 1) by omega, Option.bind_some, wI_eq, op_at _ (by omega), Option.bind_some, wI_ne _ _ (by omega), E1.at1 (by unfold NC; omega), ho, t1, Option.bind_some, f2', Option.bind_some]
    rcases f4 with ⟨rfl, -⟩ | ⟨rfl, -⟩ <;> rfl
  have hline := line_c h (l := l) (by omega)
  rw [if_neg (by rw [(wid_lt hw).2]; decide), if_pos hw, hend, Option.bind_some] at hline
  have em : X12_must υ 1 = some υ1 := by
    unfold X12_must X12_must_j0
    rw [h12, if_pos (by decide), if_neg neg1_0, e2, Option.bind_some]
  have x24 : υ2.1 11 0 24 = nI s := by
    rw [F4.at1 (by unfold NXf NX; omega), F1.at1 (by unfold NX; omega)]; exact yx
  have F5 : Eqo (fun k m j => k = 13 ∧ m = 34 ∧ j = 1774 + 9 * s0 + 8) υ2 (wI υ2 13 34 (1774 + 9 * s0 + 8) (nI s)) := Eqo.wI ⟨rfl, rfl, rfl⟩
  have eX : X12_readStep_j170 rec υ x3 (nI (1774 + 9 * s0)) = some (wI υ2 13 34 (1774 + 9 * s0 + 8) (nI s)) := by
    unfold X12_readStep_j170 X12_readStep_j192
    rw [if_neg hx3, xisEnd h, Option.bind_some, if_pos hw, em, Option.bind_some, f1', Option.bind_some, f3, Option.bind_some, k8, Option.bind_some, x24, Option.bind_some]
  have EE : Eqo (fun k m j => NCf k m j ∨ AE l l0 k m j ∨ (k = 9 ∧ m = 0 ∧ j = 2)) σ σ2 := ((((NC_NCf E1).mono (fun _ _ _ z => .inl z)).tr (E2.mono (fun _ _ _ z => .inr (.inr z)))).tr (E3.mono (fun _ _ _ z => .inr (.inl z)))).tr (E4.mono (fun _ _ _ z => .inl z))
  have FF : Eqo (fun k m j => NXf k m j ∨ (k = 13 ∧ m = 34 ∧ j = 1774 + 9 * s0 + 8)) υ (wI υ2 13 34 (1774 + 9 * s0 + 8) (nI s)) := (((NX_NXf F1).mono (fun _ _ _ z => .inl z)).tr (F4.mono (fun _ _ _ z => .inl z))).tr (F5.mono (fun _ _ _ z => .inr z))
  have c8 : (wI υ2 13 34 (1774 + 9 * s0 + 8) (nI s)).1 13 34 (1774 + 9 * s0 + 8) = nI s := wI_eq _ _ _ _ _
  have c24 : (wI υ2 13 34 (1774 + 9 * s0 + 8) (nI s)).1 11 0 24 = nI s := (wI_ne _ _ (by omega)).trans x24
  refine ⟨w, σ2, _, hline, eX, ?_, EE, FF⟩
  generalize wI υ2 13 34 (1774 + 9 * s0 + 8) (nI s) = υ3 at *
  rcases f4 with ⟨rfl, ⟨a', g⟩, g12⟩ | ⟨rfl, g⟩
  · have e4 : ∀ k m j, (k = 13 ∧ m = 4) ∨ k = 9 ∨ k = 8 → σ2.1 k m j = τ.1 k m j := fun k m j hk => E4.at1 (by unfold NCf NC; omega)
    refine .inl ⟨rfl, ⟨⟨a', g.keep (Eqo.rf (fun _ _ _ => False) _) F5 (fun k m j z => z.elim) (fun k m j z => by omega)⟩, (F5.at1 (by omega)).trans g12⟩, ⟨(EE.at1 (by unfold NCf NC AE; omega)).trans y5, (FF.at1 (by unfold NXf NX; omega)).trans y0, yn, fun m hm => ?_, ?_, (EE.at1 (by unfold NCf NC AE; omega)).trans ys, c24, ?_, by omega, y30, by omega⟩, ?_, ?_, ?_, c8⟩
    · rw [EE.2 _ _ _ (by unfold NCf NC AE; omega), FF.2 _ _ _ (by unfold NXf NX; omega)]; exact yN m hm
    · rw [e4 _ _ _ (by omega)]; exact t5
    · rw [e4 _ _ _ (by omega), E3.at1 (by unfold AE; omega), wI_eq]
    · rw [e4 _ _ _ (by omega)]; exact t2
    · rw [e4 _ _ _ (by omega)]; exact t3
    · rw [e4 _ _ _ (by omega)]; exact t4
  · exact .inr ⟨rfl, g.eq rfl rfl (F5.at1 (by omega)) (F5.at1 (by omega))⟩
/-- the block that a when or a loop makes -/
theorem blk_bk {σ' υ' : SS} {s' l' kw kk : Nat} (hkw : knd kw kk) (hb : blk kw = true) (hbody : BkE n σ' υ' q (s + 1) s' (l + 1) l') (hs : s + 1 ≤ s') (hl : l + 1 ≤ l') (hB : BodyC n l (1774 + 9 * s) kw kk σ' υ') (hk : υ'.1 13 34 (1774 + 9 * s) = nI kk) (hm : υ'.1 13 34 (1774 + 9 * s + 8) = nI s') (c1 : σ'.1 13 4 l' = nI 22) (c2 : σ'.1 13 4 (180 + l') = nI l) (c3 : σ'.1 13 4 (180 + l) = nI l') : BkE n σ' υ' (q + 1) s s' l (l' + 1) := by
  obtain ⟨-, -, hkk, hb1, hb2⟩ := knd22 hkw
  obtain ⟨K, hK⟩ := hbody
  have G0 : υ'.1 13 34 (1640 + (134 + 9 * s)) = nI kk := by rw [show 1640 + (134 + 9 * s) = 1774 + 9 * s by omega]; exact hk
  have G8 : υ'.1 13 34 (1640 + (142 + 9 * s)) = nI s' := by rw [show 1640 + (142 + 9 * s) = 1774 + 9 * s + 8 by omega]; exact hm
  have g1 : 1640 + (135 + 9 * s) = 1774 + 9 * s + 1 := by omega
  have g2 : 1640 + (136 + 9 * s) = 1774 + 9 * s + 2 := by omega
  have g6 : 1640 + (140 + 9 * s) = 1774 + 9 * s + 6 := by omega
  have g7 : 1640 + (141 + 9 * s) = 1774 + 9 * s + 7 := by omega
  have hnil : Bk n (fun j => σ'.1 13 4 j) (fun j => υ'.1 13 34 (1640 + j)) K (q + 1) s' s' (l' + 1) (l' + 1) := by
    cases K with
    | zero => exact ⟨rfl, rfl⟩
    | succ K => exact .inl ⟨rfl, rfl⟩
  refine ⟨K + 1, ?_⟩
  rcases hb1.mp hb with rfl | rfl
  · have hk6 : kk = 6 := by unfold knd at hkw; omega
    subst hk6
    obtain ⟨tw, tk, l3, hT, h6⟩ := hB.2 rfl
    refine .inr (.inr (.inr (.inl ⟨q, s', l', tw, tk, rfl, ?_, l3, G0, ?_, G8, c3, c1, c2, hs, Nat.le_refl _, hl, Nat.le_refl _, hK, hnil⟩)))
    · show TsC n tw tk (σ'.1 13 4 (60 + l)) (σ'.1 13 4 (120 + l)) (υ'.1 13 34 (1640 + (135 + 9 * s))) (υ'.1 13 34 (1640 + (136 + 9 * s))) (υ'.1 13 34 (1640 + (141 + 9 * s)))
      rw [g1, g2, g7]
      exact hT
    · show υ'.1 13 34 (1640 + (140 + 9 * s)) = nI tk
      rw [g6]
      exact h6
  · have hk7 : kk = 7 := by unfold knd at hkw; omega
    subst hk7
    obtain ⟨l3, hR⟩ := hB.1 (by decide)
    rcases hR with ⟨z, -⟩ | ⟨-, -, m, m1, m2, m3, m4⟩ | z
    · exact absurd z (by decide)
    · refine .inr (.inr (.inr (.inr ⟨q, s', l', m, rfl, m1, m2, l3, m3, G0, ?_, G8, c3, c1, c2, hs, Nat.le_refl _, hl, Nat.le_refl _, hK, hnil⟩)))
      show υ'.1 13 34 (1640 + (135 + 9 * s)) = nI m
      rw [g1]
      exact m4
    · unfold PlC at z
      rcases z with ⟨z, -⟩ | ⟨z, -⟩ | ⟨_, -, -, -, z⟩ <;> omega
theorem BodyY.own {σ' υ' : SS} {kw kk W : Nat} (h : BodyY n l s W kw kk σ υ) (hF : ∀ j, j = l ∨ j = 60 + l ∨ j = 120 + l → σ'.1 13 4 j = σ.1 13 4 j) (hG : ∀ j, W < j → j < W + 8 → υ'.1 13 34 j = υ.1 13 34 j) : BodyC n l W kw kk σ' υ' := by
  unfold BodyC
  rw [hF l (.inl rfl), hF (60 + l) (.inr (.inl rfl)), hF (120 + l) (.inr (.inr rfl)), hG (W + 1) (by omega) (by omega), hG (W + 2) (by omega) (by omega), hG (W + 6) (by omega) (by omega), hG (W + 7) (by omega) (by omega)]
  refine ⟨fun z => ⟨(h.1 z).1.2.2, (h.1 z).2⟩, fun z => ?_⟩
  obtain ⟨tw, tk, g1, g2, g3⟩ := h.2 z
  exact ⟨tw, tk, g1.2.2, g2, g3⟩
/-- a STEP with a block -/
theorem step_blk (hS : YStep B S n q) (hq : q < 3) (h : TK B S a σ υ) (h12 : υ.1 11 0 12 = 0) (hY : YP n (q + 1) s l σ υ) {kw kk : Nat} (hw : wid B S a = some kw) (hkw : knd kw kk) (hs : s < 30) (hb : blk kw = true) : ∃ υ', X12_readStepN (q + 1 + 2) υ (nI (3 - (q + 1))) = some υ' ∧ Eqo (YXr s) υ υ' ∧ ((∃ σ' s' l' m, YGood n (q + 1) s l σ σ' υ' s' l' m ∧ s < s' ∧ Gon B S σ' υ') ∨ YBad l (q + 1) σ υ') := by
  obtain ⟨h22, -, hkk, hb1, hb2⟩ := knd22 hkw
  have hY' := hY
  obtain ⟨y5, y0, yn, yN, yl, ys, yx, yd, yq, y30, yle⟩ := hY'
  obtain ⟨r, σ1, υ1, e1, e2, e3, e4, e5, E, F⟩ := head_ok h h12 hY hw hkw hs (fun _ => Nat.succ_pos q)
  rw [if_pos hb] at e2
  rcases e5 with ⟨rfl, hG1, hB1, hd, hop⟩ | ⟨rfl, g⟩
  rotate_left
  · obtain ⟨υ2, f1, f2, f3⟩ := flt142 g (X12_readStepN (q + 1 + 1)) (nI (3 - (q + 1))) 1 hs
    exact ⟨υ2, e2.trans f1, F.tr f3, .inr (bad_line h (by omega) hw h22 e1 f2 E)⟩
  rw [if_pos hb] at hd
  have hop := hop hb
  have hline := good_line h (l := l) (by omega) hw h22 e1
  have l12 : σ1.1 8 1 2 = nI (l + 1) ∧ σ1.1 8 1 3 = nI (s + 1) := by
    by_cases z : kw = 18
    · obtain ⟨tw, tk, ⟨g1, g2, -⟩, -⟩ := hB1.2 z
      exact ⟨g1, g2⟩
    · exact ⟨(hB1.1 z).1.1, (hB1.1 z).1.2.1⟩
  have hY1 : YP n q (s + 1) (l + 1) σ1 υ1 := by
    refine ⟨(E.at1 (by unfold YFr NCf NC; omega)).trans y5, (F.at1 (by unfold YXr NXf NX; omega)).trans y0, yn, fun m hm => ?_, l12.1, l12.2, e3, ?_, by omega, by omega, by omega⟩
    · rw [E.2 _ _ _ (by unfold YFr NCf NC; omega), F.2 _ _ _ (by unfold YXr NXf NX; omega)]; exact yN m hm
    · rw [hd, show 3 - (q + 1) + 1 = 3 - q by omega]
  obtain ⟨υ2, b1, F2, hc⟩ := block_sim hq hS 1 neg1_0 (nI (1774 + 9 * s)) 31 σ1 υ1 (s + 1) (l + 1) (by omega) hG1 hY1
  have b1' := b1 NF (by unfold NF; omega)
  have e2' : X12_readStepN (q + 1 + 2) υ (nI (3 - (q + 1))) = X12_readStep_j170 (X12_readStepN (q + 1 + 1)) υ2 1 (nI (1774 + 9 * s)) := by
    rw [e2]
    unfold X12_readStep_l142
    rw [b1', Option.bind_some]
  have FF : Eqo (YXr s) υ υ2 := F.tr (YX_le F2 (by omega))
  rcases hc with ⟨σ2, s2, l2, m2, a2, ⟨c1, c2, hY2, c4, c5⟩, hs2, hT2, x12, hw2⟩ | ⟨σ', m, m1, m2, m3, m4⟩
  · -- it comes to its end
    have o2 : σ2.1 13 21 (3 - (q + 1)) = nI l := (c5.at1 (by unfold YFr NCf NC; omega)).trans hop
    have h30 := hY2.2.2.2.2.2.2.2.2.2.1
    have hle := hY2.2.2.2.2.2.2.2.2.2.2
    obtain ⟨r, σ3, υ3, d1, d2, d3, d4, d5⟩ := end_ok hT2 x12 hw2 hq hY2 o2 (by omega) hs (by omega) neg1_0 (X12_readStepN (q + 1 + 1))
    have FF3 : Eqo (YXr s) υ υ3 := FF.tr (d5.mono (fun k m j z => by
      rcases z with z | z
      · exact .inl z
      · exact .inr (.inl (by omega))))
    have E3 : Eqo (YFr l (3 - (q + 1))) σ2 σ3 := d4.mono (fun k m j z => by
      rcases z with z | z | z
      · exact .inl z
      · unfold AE at z; unfold YFr; omega
      · exact .inr (.inr (.inr (.inl z))))
    have EE3 : Eqo (YFr l (3 - (q + 1))) σ σ3 := (E.tr (YF_le c5 (by omega) (by omega))).tr E3
    have pre : ∀ R, GY (R + m2 + 1) l σ = GY R l2 σ2 := fun R => by
      rw [hline, c1, ← c2]
    refine ⟨υ3, e2'.trans d2, FF3, ?_⟩
    rcases d3 with ⟨rfl, g1, g2, g3, g4, g5, g6⟩ | ⟨rfl, g⟩
    · refine .inl ⟨σ3, s2, l2 + 1, m2 + 2, ⟨fun R => ?_, by omega, g2, ?_, EE3⟩, by omega, g1⟩
      · rw [show R + (m2 + 2) = R + 1 + m2 + 1 by omega, pre, GY_step (by omega) d1, show l2 + 1 = l + (m2 + 2) by omega]
      · refine blk_bk hkw hb (c4.own (by omega) (fun j z1 z2 z3 => d4.at1 (by unfold NCf NC AE; omega)) (fun j z1 z2 => d5.at1 (by unfold NXf NX; omega))) (by omega) (by omega) (hB1.own (fun j hj => ?_) (fun j z1 z2 => ?_)) ?_ g6 g3 g4 g5
        · rw [d4.at1 (by unfold NCf NC AE; omega), c5.at1 (by unfold YFr NCf NC; omega)]
        · rw [d5.at1 (by unfold NXf NX; omega), F2.at1 (by unfold YXr NXf NX; omega)]
        · rw [d5.at1 (by unfold NXf NX; omega), F2.at1 (by unfold YXr NXf NX; omega)]; exact e4
    · refine .inr ⟨σ3, m2 + 3, by omega, fun R hR => ?_, g, EE3⟩
      rw [show R = (R - m2 - 1) + m2 + 1 by omega, pre]
      exact GY_flt d1 _ (by omega)
  · obtain ⟨v1, g1⟩ := isEnd_any υ2
    obtain ⟨v2, g2⟩ := isSign_any υ2 59
    have k8 : ck (LN 13 34) (nI (1774 + 9 * s) + 8) = some (1774 + 9 * s + 8) := ckW (e := 8) (by omega)
    have F3 : Eqo (fun k m j => k = 13 ∧ m = 34 ∧ j = 1774 + 9 * s + 8) υ2 (wI υ2 13 34 (1774 + 9 * s + 8) (υ2.1 11 0 24)) := Eqo.wI ⟨rfl, rfl, rfl⟩
    refine ⟨_, e2'.trans ?_, FF.tr (F3.mono (fun k m j z => .inr (.inl (by omega)))), .inr ⟨σ', m + 1, by omega, fun R hR => ?_, m3.eq rfl rfl (F3.at1 (by omega)) (F3.at1 (by omega)), E.tr (YF_le m4 (by omega) (by omega))⟩⟩
    · unfold X12_readStep_j170 X12_readStep_j192
      rw [if_neg neg1_0, g1, Option.bind_some, must_no m3.pos.2.1, Option.bind_some, g2, Option.bind_some, must_no m3.pos.2.1, Option.bind_some, k8, Option.bind_some, Option.bind_some]
    · rw [show R = (R - 1) + 1 by omega, hline]
      exact m2 _ (by omega)
end YB2
theorem ystep (B : Nat → Nat) (S n : Nat) : ∀ q, q ≤ 3 → YStep B S n q := by
  intro q
  induction q with
  | zero =>
    intro _ σ υ s l a h h12 hY h0 h22
    by_cases hk : ∃ kw kk, wid B S a = some kw ∧ knd kw kk
    · obtain ⟨kw, kk, hw, hkw⟩ := hk
      have h30 := hY.2.2.2.2.2.2.2.2.2.1
      by_cases hs : s = 30
      · obtain ⟨υ', g1, g2, g3⟩ := step_full h h12 hY hw hkw hs
        exact ⟨υ', g1, g2, .inr g3⟩
      · by_cases hb : blk kw = true
        · obtain ⟨υ', g1, g2, g3⟩ := step_deep h h12 hY hw hkw (by omega) hb
          exact ⟨υ', g1, g2, .inr g3⟩
        · exact step_one h h12 hY hw hkw (by omega) hb
    · obtain ⟨υ', g1, g2, g3⟩ := step_none h h12 hY h0 h22 (fun kw kk hw hkw => hk ⟨kw, kk, hw, hkw⟩)
      exact ⟨υ', g1, g2, .inr g3⟩
  | succ q ih =>
    intro hq σ υ s l a h h12 hY h0 h22
    by_cases hk : ∃ kw kk, wid B S a = some kw ∧ knd kw kk
    · obtain ⟨kw, kk, hw, hkw⟩ := hk
      have h30 := hY.2.2.2.2.2.2.2.2.2.1
      by_cases hs : s = 30
      · obtain ⟨υ', g1, g2, g3⟩ := step_full h h12 hY hw hkw hs
        exact ⟨υ', g1, g2, .inr g3⟩
      · by_cases hb : blk kw = true
        · exact step_blk (ih (by omega)) (by omega) h h12 hY hw hkw (by omega) hb
        · exact step_one h h12 hY hw hkw (by omega) hb
    · obtain ⟨υ', g1, g2, g3⟩ := step_none h h12 hY h0 h22 (fun kw kk hw hkw => hk ⟨kw, kk, hw, hkw⟩)
      exact ⟨υ', g1, g2, .inr g3⟩
