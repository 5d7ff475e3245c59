/-! ===== TEXTS: years, both readers ===== -/
def YFb : Nat → Nat → Nat → Prop := fun k m j => BC k m j ∨ (k = 13 ∧ m = 4) ∨ (k = 8 ∧ m = 1) ∨ (k = 9 ∧ m = 0 ∧ j = 2) ∨ (k = 13 ∧ m = 21)
def YXb : Nat → Nat → Nat → Prop := fun k m j => BX k m j ∨ (k = 13 ∧ m = 34 ∧ 1774 ≤ j ∧ j < 2050) ∨ (k = 11 ∧ m = 0 ∧ j = 24)
theorem YF_b {σ τ : SS} {l dp : Nat} (h : Eqo (YFr l dp) σ τ) : Eqo YFb σ τ := h.mono (fun k m j q => by unfold YFr NCf NC at q; unfold YFb BC; omega)
theorem YX_b {σ τ : SS} {s : Nat} (h : Eqo (YXr s) σ τ) : Eqo YXb σ τ := h.mono (fun k m j q => by unfold YXr NXf NX at q; unfold YXb BX; omega)
section TP
variable {σ υ : SS} {B : Nat → Nat} {S a n l s q : Nat}
theorem top_sim : ∀ f (σ υ : SS) (s l : Nat), 31 - s ≤ f → Gon B S σ υ → YP n 3 s l σ υ → ∃ υ', (∀ R, f < R → iter X12_years_l28b R υ = some υ') ∧ Eqo (YXr s) υ υ' ∧ ((∃ σ' s' l' m, YGood n 3 s l σ σ' υ' s' l' m ∧ (∀ R, GY (R + 1) l' σ' = some (1, σ')) ∧ Gon B S σ' υ') ∨ YBad l 3 σ υ') := by
  intro f
  induction f with
  | zero =>
    intro σ υ s l hf hG hY
    have h30 := hY.2.2.2.2.2.2.2.2.2.1
    omega
  | succ f ih =>
    intro σ υ s l hf hG hY
    obtain ⟨⟨a, hT⟩, h12⟩ := hG
    obtain ⟨a1, a2⟩ := atEnd_ok hT
    have hle := hY.2.2.2.2.2.2.2.2.2.2
    have h30 := hY.2.2.2.2.2.2.2.2.2.1
    by_cases he : tkK B S a = 0
    · refine ⟨υ, fun R hR => ?_, Eqo.rf _ _, .inl ⟨σ, s, l, 0, YGood.nil hY, fun R => ?_, ⟨⟨a, hT⟩, h12⟩⟩⟩
      · obtain ⟨F, rfl⟩ : ∃ F, R = F + 1 := ⟨R - 1, by omega⟩
        refine it_r ?_ _
        show X12_years_l28c υ = _
        unfold X12_years_l28c
        rw [if_pos h12, if_pos (a2.mpr he)]
      · have hline := line_c hT (l := l) (by omega)
        rw [if_pos he] at hline
        unfold GY
        rw [it_r hline, Option.bind_some]
        unfold X10_isGood_j73 X10_isGood_j95
        rw [if_neg neg1_0, hY.2.2.2.2.2.2.2.1, if_pos (by decide)]
    · obtain ⟨υ1, e1, F1, hc⟩ := ystep B S n 3 (by decide) σ υ s l a hT h12 hY (fun z => absurd z he) (fun _ => rfl)
      have e1' : X12_years_l28b υ = some (Sum.inl υ1) := by
        show X12_years_l28c υ = _
        unfold X12_years_l28c
        rw [if_pos h12, if_neg (fun z => he (a2.mp z)), show X12_readStepN 5 υ 0 = some υ1 from e1, Option.bind_some]
      rcases hc with ⟨σ1, s1, l1, m1, hg, hs1, hG1⟩ | hb
      · obtain ⟨υ2, e2, F2, hc2⟩ := ih σ1 υ1 s1 l1 (by omega) hG1 hg.2.2.1
        refine ⟨υ2, fun R hR => ?_, F1.tr (YX_le F2 (by omega)), ?_⟩
        · obtain ⟨F, rfl⟩ : ∃ F, R = F + 1 := ⟨R - 1, by omega⟩
          rw [it_l e1']
          exact e2 F (by omega)
        · rcases hc2 with ⟨σ2, s2, l2, m2, g2, k1, k2⟩ | hb
          · exact .inl ⟨σ2, s2, l2, m1 + m2, hg.app g2 F2, k1, k2⟩
          · exact .inr (hg.bad hb)
      · refine ⟨υ1, fun R hR => ?_, F1, .inr hb⟩
        obtain ⟨F, rfl⟩ : ∃ F, R = F + 2 := ⟨R - 2, by omega⟩
        rw [it_l e1']
        obtain ⟨σ', m, -, -, g, -⟩ := hb
        refine it_r ?_ _
        show X12_years_l28c υ1 = _
        unfold X12_years_l28c
        rw [if_neg g.pos.2.2]
theorem joint_years {T N : Nat} (hT : TpB B T σ υ) (hN : N ≤ T) (h300 : N ≤ 300) (h5 : σ.1 0 0 5 = nI n) (h0 : υ.1 13 34 0 = nI n) (hn : n ≤ 8) (hNm : ∀ l, l < n → σ.2 14 0 l = υ.2 14 7 l) : ∃ (σ1 : SS) (g : Int32) (σ2 υ1 υ2 : SS), X5_begin σ (nI N) = some σ1 ∧ X10_isGood σ1 0 1 = some (g, σ2) ∧ X12_starts υ (nI N) 300 = some (1, υ1) ∧ X12_years_l28 (wI υ1 11 0 24 0) = X12_years_j50 υ2 ∧ ((g = 1 ∧ υ2.1 11 0 12 = 0 ∧ σ2.1 4 0 7 = 0 ∧ σ2.1 4 0 8 = -1 ∧ σ2.1 8 1 1 = 1 ∧ ∃ s l, s ≤ 30 ∧ l ≤ 60 ∧ σ2.1 8 1 2 = nI l ∧ σ2.1 8 1 3 = nI s ∧ υ2.1 11 0 24 = nI s ∧ BkE n σ2 υ2 3 0 s 0 l) ∨ (g = 0 ∧ Flt σ2 υ2)) ∧ σ2.1 4 0 1 = 0 ∧ υ2.1 11 0 8 = 0 ∧ Eqo YFb σ σ2 ∧ Eqo YXb υ υ2 := by
  obtain ⟨h9, h1, h8, hB⟩ := hT
  obtain ⟨σ1, υ1, a, e1, e2, hTK, x12, y1, y8, E1, F1⟩ := begin_ok h9 hN h1 h8 hB (most := 300) (nI_le (b := 300) (by omega) (by decide))
  have E2 : Eqo (fun k m j => (k = 8 ∧ m = 1) ∨ (k = 9 ∧ m = 0 ∧ j = 2)) σ1 (wI (wI (wI (wI (wI σ1 8 1 1 0) 8 1 2 0) 8 1 3 0) 8 1 1 1) 9 0 2 0) := ((((Eqo.wI (by omega)).tr (Eqo.wI (by omega))).tr (Eqo.wI (by omega))).tr (Eqo.wI (by omega))).tr (Eqo.wI (by omega))
  have c1 : (wI (wI (wI (wI (wI σ1 8 1 1 0) 8 1 2 0) 8 1 3 0) 8 1 1 1) 9 0 2 0).1 8 1 1 = 1 := by rw [wI_ne _ _ (by omega), wI_eq]
  have c2 : (wI (wI (wI (wI (wI σ1 8 1 1 0) 8 1 2 0) 8 1 3 0) 8 1 1 1) 9 0 2 0).1 8 1 2 = nI 0 := by rw [wI_ne _ _ (by omega), wI_ne _ _ (by omega), wI_ne _ _ (by omega), wI_eq]; rfl
  have c3 : (wI (wI (wI (wI (wI σ1 8 1 1 0) 8 1 2 0) 8 1 3 0) 8 1 1 1) 9 0 2 0).1 8 1 3 = nI 0 := by rw [wI_ne _ _ (by omega), wI_ne _ _ (by omega), wI_eq]; rfl
  have c9 : (wI (wI (wI (wI (wI σ1 8 1 1 0) 8 1 2 0) 8 1 3 0) 8 1 1 1) 9 0 2 0).1 9 0 2 = nI 0 := wI_eq _ _ _ _ _
  have eG : X10_isGood σ1 0 1 = GY NF 0 (wI (wI (wI (wI (wI σ1 8 1 1 0) 8 1 2 0) 8 1 3 0) 8 1 1 1) 9 0 2 0) := by
    unfold X10_isGood X10_isGood_j0 X9_clear X9_clear_j0 X9_setThere X9_setThere_j0 X10_isGood_l18
    simp only [Option.bind_some]
    rfl
  have F2 : Eqo (fun k m j => k = 11 ∧ m = 0 ∧ j = 24) υ1 (wI υ1 11 0 24 0) := Eqo.wI ⟨rfl, rfl, rfl⟩
  have x24 : (wI υ1 11 0 24 0).1 11 0 24 = nI 0 := wI_eq _ _ _ _ _
  obtain ⟨τ, hτ⟩ : ∃ τ, τ = wI (wI (wI (wI (wI σ1 8 1 1 0) 8 1 2 0) 8 1 3 0) 8 1 1 1) 9 0 2 0 := ⟨_, rfl⟩
  rw [← hτ] at E2 c1 c2 c3 c9 eG
  obtain ⟨w, hw⟩ : ∃ w, w = wI υ1 11 0 24 0 := ⟨_, rfl⟩
  rw [← hw] at F2 x24
  have hG : Gon B N τ w := ⟨⟨a, hTK.keep E2 F2 (fun k m j z => by omega) (fun k m j z => by omega)⟩, (F2.at1 (by omega)).trans x12⟩
  have hY : YP n 3 0 0 τ w := by
    refine ⟨?_, ?_, hn, fun l hl => ?_, c2, c3, x24, c9, Nat.le_refl _, by decide, by decide⟩
    · rw [E2.at1 (by omega), E1.at1 (by unfold BC; omega)]; exact h5
    · rw [F2.at1 (by omega), F1.at1 (by unfold BX; omega)]; exact h0
    · rw [E2.2 _ _ _ (by omega), E1.2 _ _ _ (by unfold BC; omega), F2.2 _ _ _ (by omega), F1.2 _ _ _ (by unfold BX; omega)]; exact hNm l hl
  obtain ⟨υ2, k1, k2, k3⟩ := top_sim 31 τ w 0 0 (by decide) hG hY
  have k1' := k1 NF (by unfold NF; omega)
  have FF : Eqo YXb υ υ2 := ((F1.mono (fun _ _ _ q => .inl q)).tr (F2.mono (fun k m j q => .inr (.inr q)))).tr (YX_b k2)
  have E12 : Eqo YFb σ τ := (E1.mono (fun _ _ _ q => .inl q)).tr (E2.mono (fun k m j q => by unfold YFb; omega))
  have y8' : υ2.1 11 0 8 = 0 := by rw [k2.at1 (by unfold YXr NXf NX; omega), F2.at1 (by omega)]; exact y8
  have eX : X12_years_l28 (wI υ1 11 0 24 0) = X12_years_j50 υ2 := by
    rw [← hw]
    unfold X12_years_l28
    rw [k1', Option.bind_some]
  rcases k3 with ⟨σ2, s2, l2, m, ⟨g1, g2, g3, g4, g5⟩, g6, ⟨⟨a', t⟩, t12⟩⟩ | ⟨σ2, m, m1, m2, m3, m4⟩
  · have h30 := g3.2.2.2.2.2.2.2.2.2.1
    have hle := g3.2.2.2.2.2.2.2.2.2.2
    refine ⟨σ1, 1, σ2, υ1, υ2, e1, ?_, e2, eX, .inl ⟨rfl, t12, t.2.2.2.2.2.2.2.2.2.2.2.2.2.2.1, t.2.2.2.2.2.2.2.2.2.2.2.2.2.2.2, ?_, s2, l2, h30, by omega, g3.2.2.2.2.1, g3.2.2.2.2.2.1, g3.2.2.2.2.2.2.1, g4⟩, ?_, y8', E12.tr (YF_b g5), FF⟩
    · have := g1 (NF - 1 - m + 1)
      rw [show NF - 1 - m + 1 + m = NF by unfold NF; omega] at this
      rw [eG, this, show 0 + m = l2 by omega]
      exact g6 _
    · rw [g5.at1 (by unfold YFr NCf NC; omega)]; exact c1
    · rw [g5.at1 (by unfold YFr NCf NC; omega), E2.at1 (by omega)]; exact y1
  · refine ⟨σ1, 0, σ2, υ1, υ2, e1, eG.trans (m2 NF (by unfold NF; omega)), e2, eX, .inr ⟨rfl, m3⟩, ?_, y8', E12.tr (YF_b m4), FF⟩
    rw [m4.at1 (by unfold YFr NCf NC; omega), E2.at1 (by omega)]; exact y1
end TP
