/-! ===== TEXTS: STEPs in blocks ===== -/
/-- the class's loop over lines, and its end -/
def GY (R x : Nat) (σ : SS) : Option (Int32 × SS) := (iter (X10_isGood_l18b 0 1) R (1, nI x, σ)).bind fun t => X10_isGood_j73 t.2 0 1 t.1
def YGood (n q s l : Nat) (σ σ' υ' : SS) (s' l' m : Nat) : Prop := (∀ R, GY (R + m) l σ = GY R (l + m) σ') ∧ l' = l + m ∧ YP n q s' l' σ' υ' ∧ BkE n σ' υ' q s s' l l' ∧ Eqo (YFr l (3 - q)) σ σ'
def YBad (l : Nat) (q : Nat) (σ υ' : SS) : Prop := ∃ σ' m, l + m ≤ 62 ∧ (∀ R, m ≤ R → GY R l σ = some (0, σ')) ∧ Flt σ' υ' ∧ Eqo (YFr l (3 - q)) σ σ'
def YStep (B : Nat → Nat) (S n q : Nat) : Prop := ∀ (σ υ : SS) (s l a : Nat), TK B S a σ υ → υ.1 11 0 12 = 0 → YP n q s l σ υ → (tkK B S a = 0 → q < 3) → (wid B S a = some 22 → q = 3) → ∃ υ', X12_readStepN (q + 2) υ (nI (3 - q)) = some υ' ∧ Eqo (YXr s) υ υ' ∧ ((∃ σ' s' l' m, YGood n q s l σ σ' υ' s' l' m ∧ s < s' ∧ Gon B S σ' υ') ∨ YBad l q σ υ')
section YS
variable {σ υ : SS} {B : Nat → Nat} {S a n l s q : Nat}
theorem GY_step {σ' : SS} (hl : l < 900) (e : X10_isGood_l18b 0 1 (1, nI l, σ) = some (Sum.inl (1, nI (l + 1), σ'))) (R : Nat) : GY (R + 1) l σ = GY R (l + 1) σ' := by
  unfold GY
  rw [it_l e]
theorem GY_flt {σ' : SS} (e : X10_isGood_l18b 0 1 (1, nI l, σ) = some (Sum.inl (0, nI (l + 1), σ'))) : ∀ R, 2 ≤ R → GY R l σ = some (0, σ') := fun R hR => by
  obtain ⟨F, rfl⟩ : ∃ F, R = F + 2 := ⟨R - 2, by omega⟩
  have e2 : X10_isGood_l18b 0 1 (0, nI (l + 1), σ') = some (Sum.inr (0, σ')) := by
    show X10_isGood_l18c σ' 0 1 0 (nI (l + 1)) = _
    unfold X10_isGood_l18c
    split
    · rfl
    · rw [if_pos rfl]
  unfold GY
  rw [it_l e, it_r e2, Option.bind_some]
  unfold X10_isGood_j73
  rw [if_pos rfl]
theorem line_c (h : TK B S a σ υ) (hl : l ≤ 60) : X10_isGood_l18b 0 1 (1, nI l, σ) = if tkK B S a = 0 then some (Sum.inr (1, σ)) else if wid B S a = some 22 then ((X10_endLine σ 1).bind fun p => some (Sum.inl (p.1, nI (l + 1), p.2))) else ((X10_stepLine σ 0 1).bind fun p => some (Sum.inl (p.1, nI (l + 1), p.2))) := by
  show X10_isGood_l18c σ 0 1 1 (nI l) = _
  unfold X10_isGood_l18c X10_isGood_j66
  rw [if_neg (show ¬ (900 : Int32) < nI l from nI_nlt (a := 900) (by omega) (by decide)), if_neg neg1_0, (atEnd_ok h).1, Option.bind_some, if01, show X5_wordIs σ 22 = _ from (h.isw (k := 22) rfl).1, Option.bind_some, if01, nI_1]
  rfl
theorem YF_as (E : Eqo NCf σ υ) {l dp : Nat} : Eqo (YFr l dp) σ υ := E.mono (fun _ _ _ z => .inl z)
theorem YX_as (E : Eqo NXf σ υ) {s : Nat} : Eqo (YXr s) σ υ := E.mono (fun _ _ _ z => .inl z)
theorem isEnd_any (υ : SS) : ∃ v, X12_isEnd υ = some v := by
  obtain ⟨v, hv, e⟩ := isWord_any υ (lN (cdL [101, 110, 100]))
  refine ⟨v, ?_⟩
  unfold X12_isEnd X12_isEnd_j0
  rw [sp_end, Option.bind_some, e, Option.bind_some]
  rcases hv with z | z <;> subst z <;> rfl
/-- after a fault -/
theorem flt142 (h : Flt σ υ) (rec : SS → Int32 → Option SS) (x1 x3 : Int32) (hs : s < 30) : ∃ υ', X12_readStep_l142 rec υ x1 x3 (nI (1774 + 9 * s)) = some υ' ∧ Flt σ υ' ∧ Eqo (YXr s) υ υ' := by
  have k8 : ck (LN 13 34) (nI (1774 + 9 * s) + 8) = some (1774 + 9 * s + 8) := ckW (e := 8) (by omega)
  have F : Eqo (fun k m j => k = 13 ∧ m = 34 ∧ j = 1774 + 9 * s + 8) υ (wI υ 13 34 (1774 + 9 * s + 8) (υ.1 11 0 24)) := Eqo.wI ⟨rfl, rfl, rfl⟩
  have e : iter (X12_readStep_l142b rec x1 x3 (nI (1774 + 9 * s))) NF υ = some υ := by
    have hNF : NF = (NF - 1) + 1 := by unfold NF; omega
    rw [hNF]
    refine it_r ?_ _
    show X12_readStep_l142c rec υ x1 x3 (nI (1774 + 9 * s)) = _
    unfold X12_readStep_l142c
    split
    · rfl
    · rw [if_neg h.pos.2.2]
  refine ⟨_, ?_, h.eq rfl rfl (F.at1 (by omega)) (F.at1 (by omega)), F.mono (fun k m j z => .inr (.inl (by omega)))⟩
  obtain ⟨v1, g1⟩ := isEnd_any υ
  obtain ⟨v2, g2⟩ := isSign_any υ 59
  unfold X12_readStep_l142 X12_readStep_j170 X12_readStep_j192
  rw [e, Option.bind_some]
  split
  · rw [k8, Option.bind_some, Option.bind_some]
  · rw [g1, Option.bind_some, must_no h.pos.2.1, Option.bind_some, g2, Option.bind_some, must_no h.pos.2.1, Option.bind_some, k8, Option.bind_some, Option.bind_some]
theorem YGood.nil (hY : YP n q s l σ υ) : YGood n q s l σ σ υ s l 0 := ⟨fun R => rfl, rfl, hY, BkE.nil _ _ _ _ _ _, Eqo.rf _ _⟩
/-- the one behind the other -/
theorem YGood.app {σ1 υ1 σ2 υ2 : SS} {s1 l1 m1 s2 l2 m2 : Nat} (h : YGood n q s l σ σ1 υ1 s1 l1 m1) (g : YGood n q s1 l1 σ1 σ2 υ2 s2 l2 m2) (F : Eqo (YXr s1) υ1 υ2) : YGood n q s l σ σ2 υ2 s2 l2 (m1 + m2) := by
  obtain ⟨a1, a2, a3, a4, a5⟩ := h
  obtain ⟨b1, b2, b3, b4, b5⟩ := g
  have hq := a3.2.2.2.2.2.2.2.2.1
  have h30 := b3.2.2.2.2.2.2.2.2.2.1
  have hle := b3.2.2.2.2.2.2.2.2.2.2
  refine ⟨fun R => ?_, by omega, b3, ?_, a5.tr (YF_le b5 (by omega) (Nat.le_refl _))⟩
  · rw [show R + (m1 + m2) = (R + m2) + m1 by omega, a1, show l + m1 = l1 by omega, b1, show l1 + m2 = l + (m1 + m2) by omega]
  · have h3' := a3.2.2.2.2.2.2.2.2.2.1
    refine (a4.own (by omega) (fun j z1 z2 z3 => b5.at1 ?_) (fun j z1 z2 => F.at1 ?_)).app b4
    · unfold YFr NCf NC; omega
    · unfold YXr NXf NX; omega
theorem YGood.bad {σ1 υ1 υ2 : SS} {s1 l1 m1 : Nat} (h : YGood n q s l σ σ1 υ1 s1 l1 m1) (g : YBad l1 q σ1 υ2) : YBad l q σ υ2 := by
  obtain ⟨a1, a2, a3, a4, a5⟩ := h
  obtain ⟨σ', m, b1, b2, b3, b4⟩ := g
  refine ⟨σ', m1 + m, by omega, fun R hR => ?_, b3, a5.tr (YF_le b4 (by omega) (Nat.le_refl _))⟩
  rw [show R = (R - m1) + m1 by omega, a1, show l + m1 = l1 by omega]
  exact b2 _ (by omega)
/-- STEPs of a block, up to its end -/
theorem block_sim (hq : q < 3) (hS : YStep B S n q) (x3 : Int32) (hx3 : ¬ x3 = 0) (x4 : Int32) : ∀ f (σ υ : SS) (s l : Nat), 31 - s ≤ f → Gon B S σ υ → YP n q s l σ υ → ∃ υ', (∀ R, f < R → iter (X12_readStep_l142b (X12_readStepN (q + 2)) (nI (3 - (q + 1))) x3 x4) R υ = some υ') ∧ Eqo (YXr s) υ υ' ∧ ((∃ σ' s' l' m a, YGood n q s l σ σ' υ' s' l' m ∧ s ≤ s' ∧ TK B S a σ' υ' ∧ υ'.1 11 0 12 = 0 ∧ wid B S a = some 22) ∨ YBad l q σ υ') := by
  intro f
  induction f with
  | zero =>
    intro σ υ s l hf hG hY
    have h30 := hY.2.2.2.2.2.2.2.2.2.1
    omega
  | succ f ih =>
    intro σ υ s l hf hG hY
    obtain ⟨⟨a, hT⟩, h12⟩ := hG
    by_cases he : wid B S a = some 22
    · refine ⟨υ, fun R hR => ?_, Eqo.rf _ _, .inl ⟨σ, s, l, 0, a, YGood.nil hY, Nat.le_refl _, hT, h12, he⟩⟩
      obtain ⟨F, rfl⟩ : ∃ F, R = F + 1 := ⟨R - 1, by omega⟩
      refine it_r ?_ _
      show X12_readStep_l142c (X12_readStepN (q + 2)) υ (nI (3 - (q + 1))) x3 x4 = _
      unfold X12_readStep_l142c
      rw [if_neg hx3, if_pos h12, xisEnd hT, Option.bind_some, if_pos he, if_neg neg1_0]
    · obtain ⟨υ1, e1, F1, hc⟩ := hS σ υ s l a hT h12 hY (fun _ => hq) (fun z => absurd z he)
      have e1' : X12_readStep_l142b (X12_readStepN (q + 2)) (nI (3 - (q + 1))) x3 x4 υ = some (Sum.inl υ1) := by
        show X12_readStep_l142c (X12_readStepN (q + 2)) υ (nI (3 - (q + 1))) x3 x4 = _
        unfold X12_readStep_l142c
        rw [if_neg hx3, if_pos h12, xisEnd hT, Option.bind_some, if_neg he, if_pos rfl, nI_1, show 3 - (q + 1) + 1 = 3 - q by omega, e1, Option.bind_some]
      rcases hc with ⟨σ1, s1, l1, m1, hg, hs1, hG1⟩ | hb
      · obtain ⟨υ2, e2, F2, hc2⟩ := ih σ1 υ1 s1 l1 (by omega) hG1 hg.2.2.1
        refine ⟨υ2, fun R hR => ?_, F1.tr (YX_le F2 (by omega)), ?_⟩
        · obtain ⟨F, rfl⟩ : ∃ F, R = F + 1 := ⟨R - 1, by omega⟩
          rw [it_l e1']
          exact e2 F (by omega)
        · rcases hc2 with ⟨σ2, s2, l2, m2, a2, g2, hs2, k1, k2, k3⟩ | hb
          · exact .inl ⟨σ2, s2, l2, m1 + m2, a2, hg.app g2 F2, by omega, k1, k2, k3⟩
          · exact .inr (hg.bad hb)
      · refine ⟨υ1, fun R hR => ?_, F1, .inr hb⟩
        obtain ⟨F, rfl⟩ : ∃ F, R = F + 2 := ⟨R - 2, by have := hY.2.2.2.2.2.2.2.2.2.1; omega⟩
        rw [it_l e1']
        obtain ⟨σ', m, -, -, g, -⟩ := hb
        refine it_r ?_ _
        show X12_readStep_l142c (X12_readStepN (q + 2)) υ1 (nI (3 - (q + 1))) x3 x4 = _
        unfold X12_readStep_l142c
        rw [if_neg hx3, if_neg g.pos.2.2]
theorem knd_no {kw : Nat} (h : ∀ kk, ¬ knd kw kk) : kw ≠ 12 ∧ kw ≠ 13 ∧ kw ≠ 14 ∧ kw ≠ 15 ∧ kw ≠ 17 ∧ kw ≠ 6 ∧ kw ≠ 18 ∧ kw ≠ 21 ∧ kw ≠ 23 := by
  refine ⟨fun z => h 0 ?_, fun z => h 1 ?_, fun z => h 2 ?_, fun z => h 3 ?_, fun z => h 4 ?_, fun z => h 5 ?_, fun z => h 6 ?_, fun z => h 7 ?_, fun z => h 8 ?_⟩ <;> subst z
  · exact .inl (.inl ⟨rfl, rfl⟩)
  · exact .inl (.inr (.inr (.inr (.inr (.inl ⟨rfl, rfl⟩)))))
  · exact .inl (.inr (.inr (.inl ⟨rfl, rfl⟩)))
  · exact .inl (.inr (.inr (.inr (.inr (.inr (.inl ⟨rfl, rfl⟩))))))
  · exact .inl (.inr (.inr (.inr (.inr (.inr (.inr (.inl ⟨rfl, rfl⟩)))))))
  · exact .inl (.inr (.inr (.inr (.inr (.inr (.inr (.inr ⟨rfl, rfl⟩)))))))
  · exact .inr ⟨rfl, rfl⟩
  · exact .inl (.inr (.inl ⟨rfl, rfl⟩))
  · exact .inl (.inr (.inr (.inr (.inl ⟨rfl, rfl⟩))))
/-- no STEP begins here -/
theorem step_none (h : TK B S a σ υ) (h12 : υ.1 11 0 12 = 0) (hY : YP n q s l σ υ) (h0 : tkK B S a = 0 → q < 3) (h22 : wid B S a = some 22 → q = 3) (hno : ∀ kw kk, wid B S a = some kw → ¬ knd kw kk) : ∃ υ', X12_readStepN (q + 2) υ (nI (3 - q)) = some υ' ∧ Eqo (YXr s) υ υ' ∧ YBad l q σ υ' := by
  have hY' := hY
  obtain ⟨y5, y0, yn, yN, yl, ys, yx, yd, yq, y30, yle⟩ := hY'
  have hl : l ≤ 60 := by omega
  obtain ⟨σ', υ', f1, f2, f3, f4, f5⟩ := h.wrong h12
  have hsp : spF (wid B S a) = -1 := by
    cases hw : wid B S a with
    | none => rfl
    | some k =>
      have hk := spF_k k (wid24 k hw)
      have hn := fun kk => hno k kk hw
      rw [hk]
      obtain ⟨n1, n2, n3, n4, n5, n6, n7, n8, n9⟩ := knd_no hn
      rw [if_neg n1, if_neg n2, if_neg n3, if_neg n4, if_neg n5, if_neg n6, if_neg n7, if_neg n8, if_neg n9]
  refine ⟨υ', ?_, YX_as f5, ?_⟩
  · show X12_readStep (X12_readStepN (q + 1)) υ (nI (3 - q)) = _
    unfold X12_readStep X12_readStep_j0 X12_readStep_j22 X12_readStep_j31 X12_readStep_j57 X12_readStep_j83
    rw [xstepWord h, Option.bind_some, hsp, if_neg (by decide), if_neg (by decide), if_neg (by decide), f2, Option.bind_some, if_neg f3.pos.2.2, if_neg f3.pos.2.2, if_neg f3.pos.2.1]
  · have hline := line_c h hl
    by_cases q0 : tkK B S a = 0
    · -- the text is over in an open block
      have hq := h0 q0
      rw [if_pos q0] at hline
      refine ⟨σ', 1, by omega, fun R hR => ?_, f3, YF_as f4⟩
      obtain ⟨F, rfl⟩ : ∃ F, R = F + 1 := ⟨R - 1, by omega⟩
      unfold GY
      rw [it_r hline, Option.bind_some]
      unfold X10_isGood_j73
      rw [if_neg neg1_0, yd, if_neg (show ¬ nI (3 - q) = 0 from wne (b := 0) (by omega) (by omega) (by decide)), f1, Option.bind_some, if_pos rfl]
    · rw [if_neg q0] at hline
      have e : X10_isGood_l18b 0 1 (1, nI l, σ) = some (Sum.inl (0, nI (l + 1), σ')) := by
        rw [hline]
        by_cases q22 : wid B S a = some 22
        · have hq3 := h22 q22
          subst hq3
          rw [if_pos q22]
          unfold X10_endLine X10_endLine_j0
          rw [yd, if_pos (by decide), f1, Option.bind_some]
          rfl
        · rw [if_neg q22]
          have eS : X10_stepLine σ 0 1 = some (0, σ') := by
            unfold X10_stepLine X10_stepLine_j0 X10_stepLine_j25
            rw [word_val h, Option.bind_some]
            cases hw : wid B S a with
            | none =>
              rw [show wnI none = -1 from rfl, if_neg (by decide), if_neg (by decide), if_pos rfl, plain_n, Option.bind_some, if_pos rfl, f1, Option.bind_some]
              rfl
            | some k =>
              have hk24 := wid24 k hw
              have hn := fun kk => hno k kk hw
              obtain ⟨n1, n2, n3, n4, n5, n6, n7, n8, n9⟩ := knd_no hn
              have hp := plain_k k hk24 σ
              rw [if_neg (by omega)] at hp
              rw [show wnI (some k) = nI k from rfl, if_neg (show ¬ nI k = 18 from wne (b := 18) (by omega) (by omega) (by decide)), if_neg (show ¬ nI k = 21 from wne (b := 21) (by omega) (by omega) (by decide)), if_pos rfl, hp, Option.bind_some, if_pos rfl, f1, Option.bind_some]
              rfl
          rw [eS, Option.bind_some]
      exact ⟨σ', 2, by omega, GY_flt e, f3, YF_as f4⟩
end YS
