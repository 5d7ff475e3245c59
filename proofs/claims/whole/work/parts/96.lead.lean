/-! ===== TEXTS: a lead ===== -/
theorem wI_comm (σ : SS) {k n j a b c : Nat} {x y : Int32} (h : ¬ (a = k ∧ b = n ∧ c = j)) : wI (wI σ k n j x) a b c y = wI (wI σ a b c y) k n j x := by
  show ((up3 (up3 σ.1 k n j x) a b c y), σ.2) = ((up3 (up3 σ.1 a b c y) k n j x), σ.2)
  congr 1
  funext p q r
  unfold up3
  by_cases e : p = a ∧ q = b ∧ r = c
  · rw [if_pos e]
    by_cases f : p = k ∧ q = n ∧ r = j
    · exact absurd (by omega) h
    · rw [if_neg f, if_pos e]
  · rw [if_neg e]
    by_cases f : p = k ∧ q = n ∧ r = j
    · rw [if_pos f, if_pos f]
    · rw [if_neg f, if_neg f, if_neg e]
section LDP
variable {σ υ σ' υ' : SS} {n nk c : Nat} {nu : Nat → Nat → Nat} {lo : Nat → Nat} {L : List X3} {B : Nat → Nat} {S a : Nat}
theorem flt275 (h : Flt σ υ) (x : Int32) : X12_readLead_j275 υ x = some υ := by
  unfold X12_readLead_j275
  rw [if_neg h.pos.2.1]
theorem flt243 (h : Flt σ υ) (x : Int32) : X12_readLead_j243 υ x = some υ := by
  unfold X12_readLead_j243
  rw [if_neg h.pos.2.2, flt275 h]
theorem flt208 (h : Flt σ υ) (x : Int32) : X12_readLead_j208 υ x = some υ := by
  unfold X12_readLead_j208
  rw [if_neg h.pos.2.2, flt243 h]
theorem flt172 (h : Flt σ υ) (x : Int32) : X12_readLead_j172 υ x = some υ := by
  unfold X12_readLead_j172
  rw [if_neg h.pos.2.2, flt208 h]
theorem flt120 (h : Flt σ υ) (x : Int32) : X12_readLead_j120 υ x = some υ := by
  unfold X12_readLead_j120
  rw [if_neg h.pos.2.2, flt172 h]
theorem DT.setClip (h : DT n nk nu lo c L σ υ) {l : Nat} (hl : l < n) : ∃ τ, X0_setClip σ 1 (nI l) = some τ ∧ Eqo (DC 1) σ τ ∧ DT n nk nu lo (c ||| 2 ^ l) L τ (wI υ 13 34 1644 (nI (c ||| 2 ^ l))) := by
  have hn := h.1.n8
  have hc := h.c256
  obtain ⟨h1, h2, h3, h4, h5, h6, h7, h8, h9, h10⟩ := h
  have e : X0_setClip σ 1 (nI l) = some (wI σ 0 1 9 (nI (c ||| 2 ^ l))) := by
    unfold X0_setClip X0_setClip_j0 X0_setClip_j20
    rw [has_in h1 hl, Option.bind_some, if_neg neg1_0, h10, show (1 : Int32) <<< (nI l &&& 31) = nI (2 ^ l) from hsh (by omega), nI_or, Option.bind_some]
  have E : Eqo (fun k m j => k = 0 ∧ m = 1 ∧ j = 9) σ (wI σ 0 1 9 (nI (c ||| 2 ^ l))) := Eqo.wI ⟨rfl, rfl, rfl⟩
  have E2 : Eqo (fun k m j => k = 13 ∧ m = 34 ∧ j = 1644) υ (wI υ 13 34 1644 (nI (c ||| 2 ^ l))) := Eqo.wI ⟨rfl, rfl, rfl⟩
  have x : ∀ j, j ≠ 4 → (shb 4 (wI υ 13 34 1644 (nI (c ||| 2 ^ l)))).1 13 34 j = (shb 4 υ).1 13 34 j := fun j hj => by
    rw [shb_at, shb_at]
    exact E2.at1 (by omega)
  have hx4 : (shb 4 (wI υ 13 34 1644 (nI (c ||| 2 ^ l)))).1 13 34 4 = nI (c ||| 2 ^ l) := by
    rw [shb_at]
    exact wI_eq _ _ _ _ _
  have hsub : Sub (c ||| 2 ^ l) (2 ^ n - 1) := fun k hk => by
    rw [Nat.testBit_or, Nat.testBit_two_pow] at hk
    rw [Nat.testBit_two_pow_sub_one]
    by_cases q : c.testBit k = true
    · have := h4.sub k q
      rw [Nat.testBit_two_pow_sub_one] at this
      exact this
    · simp [q] at hk
      simp
      omega
  refine ⟨_, e, E.mono (fun k m j q => by unfold DC; omega), h1.keep E (fun k m j q => by omega), ⟨?_, ?_, ⟨c ||| 2 ^ l, or_lt hc (pow_lt8 (by omega)), wI_eq _ _ _ _ _, sub_and hsub⟩, ?_, ?_, ?_, ?_, h2.ilt, h2.wl⟩, ⟨?_, ?_, fun w' l' hw' hl' => ?_, fun k hkk => ?_, h1.wf⟩, ⟨?_, ?_, hx4, ?_, ?_, ?_, ?_, h4.ilt, h4.wl, h4.inn, hsub⟩, fun l' hl' => ?_, fun k hkk => ?_, fun w' l' hw' g1 g2 => ?_, ?_, ?_, ?_⟩
  · rw [E.at1 (by omega)]; exact h2.len
  · rw [E.at1 (by omega)]; exact h2.ins
  · rw [E.at1 (by omega)]; exact h2.sec
  · rw [E.at1 (by omega)]; exact h2.pen
  · rw [E.at1 (by omega)]; exact h2.opn
  · exact h2.cr
  · rw [x _ (by omega)]; exact h3.ln
  · rw [x _ (by omega)]; exact h3.lk
  · rw [x _ (by omega)]; exact h3.gn hw' hl'
  · rw [x _ (by omega)]; exact h3.2.2.2.1 k hkk
  · rw [x _ (by omega)]; exact h4.len
  · rw [x _ (by omega)]; exact h4.ins
  · rw [x _ (by omega)]; exact h4.sec
  · rw [x _ (by omega)]; exact h4.pen
  · rw [x _ (by omega)]; exact h4.opn
  · intro k y hk
    have := h4.cr k y hk
    unfold xf at this ⊢
    rw [x _ (by omega), x _ (by omega), x _ (by omega)]
    exact this
  · rw [E.2 _ _ _ (by omega), E2.2 _ _ _ (by omega)]; exact h5 l' hl'
  · rw [E.2 _ _ _ (by omega), E2.2 _ _ _ (by omega)]; exact h6 k hkk
  · rw [E2.at1 (by omega)]; exact h7 w' l' hw' g1 g2
  · rw [E.at1 (by omega)]; exact h8
  · rw [E2.at1 (by omega)]; exact h9
  · exact wI_eq _ _ _ _ _
/-- the clip, and the lead stands -/
theorem opt_clip (h : Gon B S σ υ) (hL : LR n nk nu lo c L σ υ) (hn : n < 8) : ∃ σ' υ', X1_perhapsClip σ 1 (nI n) = some (1, σ') ∧ X12_readLead_j243 υ (nI n) = some υ' ∧ Gon B S σ' υ' ∧ (∃ c', DT (n + 1) nk nu lo c' L σ' υ') ∧ Eqo CF σ σ' ∧ Eqo XF υ υ' := by
  obtain ⟨⟨a, hT⟩, h12⟩ := h
  have ends : ∀ w, w.1 11 0 12 = 0 → w.1 13 34 1640 = nI n → w.1 13 34 1643 = nI (2 ^ n - 1) → X12_readLead_j275 w (nI n) = some (fin n w) := fun w g12 g0 g3 => by
    unfold X12_readLead_j275 fin
    rw [g12, if_pos (by decide), show ck (LN 13 34) 1643 = some 1643 from ckc (j := 1643) (by decide), Option.bind_some, Option.bind_some, g3, show nI (2 ^ n - 1) ||| ((1 : Int32) <<< (nI n &&& 31)) = nI (2 ^ (n + 1) - 1) by
      rw [show (1 : Int32) <<< (nI n &&& 31) = nI (2 ^ n) from hsh hn, nI_or, or_all n hn], Option.bind_some, show ck (LN 13 34) 1640 = some 1640 from ckc (j := 1640) (by decide), Option.bind_some, Option.bind_some, wI_ne _ _ (by omega), g0, nI_1, Option.bind_some]
  have fpc : ∀ w, Eqo (PC 4) w (fin n w) := fun w => (pc4 (by decide)).tr (pc4 (by decide))
  obtain ⟨hD, l0, l3⟩ := hL
  by_cases q : wid B S a = some 6
  · have hcl : υ.1 13 34 1644 = nI c := by
      have := hD.x0.2.2.2.2
      unfold fin at this
      rw [wI_ne _ _ (by omega), wI_ne _ _ (by omega)] at this
      exact this
    obtain ⟨τ, t1, t2, t3⟩ := hD.setClip (l := n) (by omega)
    have P4 : Eqo (PC 4) υ (wI υ 13 34 1644 (nI (c ||| 2 ^ n))) := pc4 (by decide)
    have hTn := hT.dx t2 P4
    have y12 : (wI υ 13 34 1644 (nI (c ||| 2 ^ n))).1 11 0 12 = 0 := (P4.at1 (by unfold PC; omega)).trans h12
    obtain ⟨σ', υ', e1, e2, g, E1, E2⟩ := next_gon hTn y12
    have y0 : υ'.1 13 34 1640 = nI n := by rw [E2.at1 (by unfold NX; omega), wI_ne _ _ (by omega)]; exact l0
    have y3 : υ'.1 13 34 1643 = nI (2 ^ n - 1) := by rw [E2.at1 (by unfold NX; omega), wI_ne _ _ (by omega)]; exact l3
    have eR : X12_readLead_j243 υ (nI n) = X12_readLead_j275 υ' (nI n) := by
      unfold X12_readLead_j243
      rw [if_pos h12, xisClip hT, Option.bind_some, if_pos q, if_neg neg1_0, show ck (LN 13 34) 1644 = some 1644 from ckc (j := 1644) (by decide), Option.bind_some, Option.bind_some, hcl, show nI c ||| ((1 : Int32) <<< (nI n &&& 31)) = nI (c ||| 2 ^ n) by
        rw [show (1 : Int32) <<< (nI n &&& 31) = nI (2 ^ n) from hsh hn, nI_or], Option.bind_some, e2, Option.bind_some]
    refine ⟨σ', fin n υ', ?_, eR.trans (ends _ g.2 y0 y3), g.dx (Eqo.rf _ _) (fpc _), ⟨c ||| 2 ^ n, ?_⟩, (DC_CF t2).tr (NC_CF E1), ((PC_XF P4).tr (NX_XF E2)).tr (PC_XF (fpc _))⟩
    · unfold X1_perhapsClip X1_perhapsClip_j0
      rw [show X5_wordIs σ 6 = _ from (hT.isw (k := 6) rfl).1, Option.bind_some, if_pos q, if_neg neg1_0, t1, Option.bind_some, e1, Option.bind_some]
    · have E3 : Eqo NX (fin n (wI υ 13 34 1644 (nI (c ||| 2 ^ n)))) (fin n υ') := eqw2 (eqw2 E2 _ _ _ _) _ _ _ _
      refine DT.nc ?_ E1 E3
      have : fin n (wI υ 13 34 1644 (nI (c ||| 2 ^ n))) = wI (fin n υ) 13 34 1644 (nI (c ||| 2 ^ n)) := by
        unfold fin
        rw [wI_comm υ (by omega), wI_comm (wI υ 13 34 1643 _) (by omega)]
      rw [this]
      exact t3
  · refine ⟨σ, fin n υ, ?_, ?_, Gon.dx ⟨⟨a, hT⟩, h12⟩ (Eqo.rf _ _) (fpc _), ⟨c, hD⟩, Eqo.rf _ _, PC_XF (fpc _)⟩
    · unfold X1_perhapsClip X1_perhapsClip_j0
      rw [show X5_wordIs σ 6 = _ from (hT.isw (k := 6) rfl).1, Option.bind_some, if_neg q, if_pos rfl]
    · unfold X12_readLead_j243
      rw [if_pos h12, xisClip hT, Option.bind_some, if_neg q, if_pos rfl]
      exact ends _ h12 l0 l3
/-- the sign behind each part -/
theorem semi (h : Gon B S σ υ) : ∃ w σ' υ', X5_passSign σ 59 = some (w, σ') ∧ X12_drawer_j109 υ = some (Sum.inl υ') ∧ ((w = 1 ∧ Gon B S σ' υ') ∨ (w = 0 ∧ Flt σ' υ')) ∧ Eqo NCf σ σ' ∧ Eqo NXf υ υ' := by
  obtain ⟨⟨a, hT⟩, h12⟩ := h
  obtain ⟨v, w, σ', υ', e1, e2, e3, g⟩ := must_sign hT h12 (s := 59) (by decide)
  refine ⟨w, σ', υ', e2, ?_, g⟩
  unfold X12_drawer_j109
  rw [show X12_isSign υ 59 = some v from e1, Option.bind_some, e3, Option.bind_some]
theorem isSign_any (υ : SS) (x : Int32) : ∃ v, X12_isSign υ x = some v := by
  unfold X12_isSign X12_isSign_j0
  split
  · split <;> exact ⟨_, rfl⟩
  · exact ⟨_, rfl⟩
theorem flt109 (h : Flt σ υ) : X12_drawer_j109 υ = some (Sum.inl υ) := by
  obtain ⟨v, e⟩ := isSign_any υ 59
  unfold X12_drawer_j109
  rw [e, Option.bind_some, must_no h.pos.2.1, Option.bind_some]
/-- the reference behind the word 'long' and its number -/
def xlead59 (x1 : Int32) (p59 : Int32 × SS) : Option SS :=
  (ck (LN 13 34) (1648 + x1)).bind fun j62 =>
    (some (wI p59.2 13 34 j62 p59.1)).bind fun σ62 =>
    (ck (LN 13 34) (1664 + x1)).bind fun j73 =>
    (some (wI σ62 13 34 j73 3)).bind fun σ73 =>
    (ck (LN 13 34) (1672 + x1)).bind fun j84 =>
    (some (wI σ73 13 34 j84 3)).bind fun σ84 =>
    if (σ84.1 11 0 12) = 0 then ((X12_isStiff σ84 ).bind fun v93 =>
      if v93 = 0 then (X12_readLead_j120 σ84 x1) else
      ((X12_next σ84 ).bind fun σ100 =>
        (X12_count σ100 0 9).bind fun p116 =>
        (ck (LN 13 34) (1656 + x1)).bind fun j119 =>
        (some (wI p116.2 13 34 j119 p116.1)).bind fun σ119 =>
        X12_readLead_j120 σ119 x1)) else
    (X12_readLead_j120 σ84 x1)
/-- the class there -/
def clead88 (x : Int32) (σ : SS) : Option (Int32 × SS) :=
  (X1_numberIs σ 1 2 x 1 0 9).bind fun p88 =>
          if p88.1 = 0 then (some (0, p88.2)) else
          ((X1_perhapsEnds p88.2 1 x).bind fun p97 =>
            if p97.1 = 0 then (some (0, p97.2)) else
            ((X1_numberIs p97.2 1 4 x 4 0 999).bind fun p112 =>
              if p112.1 = 0 then (some (0, p112.2)) else
              ((X1_numberIs p112.2 1 5 x 5 0 16).bind fun p126 =>
                if p126.1 = 0 then (some (0, p126.2)) else
                ((X1_perhapsClip p126.2 1 x).bind fun p135 =>
                  if p135.1 = 0 then (some (0, p135.2)) else
                  ((X5_passSign p135.2 59).bind fun p147 =>
                    if p147.1 = 0 then (some (0, p147.2)) else
                    (some (1, p147.2)))))))
theorem ck3n {n : Nat} (hn : n < 8) : ck (LN 13 34) (1648 + nI n) = some (1648 + n) ∧ ck (LN 13 34) (1664 + nI n) = some (1664 + n) ∧ ck (LN 13 34) (1672 + nI n) = some (1672 + n) := ⟨ck16n (off := 1648) (by omega), ck16n (off := 1664) (by omega), ck16n (off := 1672) (by omega)⟩
theorem flt59 (h : Flt σ υ) (hn : n < 8) : ∃ υ', ((xlead59 (nI n) (0, υ)).bind fun z => X12_drawer_j109 z) = some (Sum.inl υ') ∧ Flt σ υ' ∧ Eqo XF υ υ' := by
  obtain ⟨k0, k2, k3⟩ := ck3n hn
  have P1 : Eqo (PC 4) υ (wI (wI (wI υ 13 34 (1648 + n) 0) 13 34 (1664 + n) 3) 13 34 (1672 + n) 3) := ((pc4 (by omega)).tr (pc4 (by omega))).tr (pc4 (by omega))
  have g' : Flt σ _ := h.dx (Eqo.rf _ _) P1
  refine ⟨_, ?_, g', PC_XF P1⟩
  unfold xlead59
  rw [k0, Option.bind_some, Option.bind_some, k2, Option.bind_some, Option.bind_some, k3, Option.bind_some, Option.bind_some, if_neg g'.pos.2.2, flt120 g', Option.bind_some, flt109 g']
theorem lead_tail (h : Gon B S σ υ) (hL : LR n nk nu lo c L σ υ) (hn : n < 8) {J : Option SS} (hJ : J = if υ.1 11 0 12 = 0 then ((X12_isStiff υ).bind fun v93 =>
      if v93 = 0 then (X12_readLead_j120 υ (nI n)) else
      ((X12_next υ).bind fun σ100 =>
        (X12_count σ100 0 9).bind fun p116 =>
        (ck (LN 13 34) (1656 + nI n)).bind fun j119 =>
        (some (wI p116.2 13 34 j119 p116.1)).bind fun σ119 =>
        X12_readLead_j120 σ119 (nI n))) else
    (X12_readLead_j120 υ (nI n))) : ∃ r σ' υ', clead88 (nI n) σ = some (r, σ') ∧ (J.bind fun z => X12_drawer_j109 z) = some (Sum.inl υ') ∧ Out B S (fun σ' υ' => ∃ nu' c', DT (n + 1) nk nu' lo c' L σ' υ') r σ' υ' ∧ Eqo CF σ σ' ∧ Eqo XF υ υ' := by
  unfold clead88
  obtain ⟨r1, σ1, υ1, e1, f1, g1, E1, F1⟩ := opt_num h hL hn (k := 2) (w := 1) (b := 0) (hi := 9) (off := 1656) rfl (by decide) (by decide) (fun m _ _ => ⟨by decide, by omega, by omega, by omega, by omega, by omega⟩) (by decide) rfl (K := fun z => X12_readLead_j120 z (nI n)) (J := fun _ => J) X12_isStiff (fun h => xisStiff h) hJ
  have e1' : X1_numberIs σ 1 2 (nI n) 1 0 9 = some (r1, σ1) := e1
  rw [e1', Option.bind_some, f1]
  rcases g1 with ⟨rfl, g1, nu1, hL1⟩ | ⟨rfl, g1⟩
  rotate_left
  · exact ⟨0, σ1, υ1, if_pos rfl, by rw [flt120 g1, Option.bind_some, flt109 g1], .inr ⟨rfl, g1⟩, E1, F1⟩
  rw [if_neg neg1_0]
  obtain ⟨r2, σ2, υ2, e2, f2, g2, E2, F2⟩ := opt_ends g1 hL1 hn
  rw [e2, Option.bind_some, f2]
  rcases g2 with ⟨rfl, g2, nu2, hL2⟩ | ⟨rfl, g2⟩
  rotate_left
  · exact ⟨0, σ2, υ2, if_pos rfl, by rw [flt172 g2, Option.bind_some, flt109 g2], .inr ⟨rfl, g2⟩, E1.tr E2, F1.tr F2⟩
  rw [if_neg neg1_0]
  obtain ⟨r3, σ3, υ3, e3, f3, g3, E3, F3⟩ := opt_num g2 hL2 hn (k := 4) (w := 4) (b := 0) (hi := 999) (off := 1680) rfl (by decide) (by decide) (fun m _ _ => ⟨by decide, by omega, by omega, by omega, by omega, by omega⟩) (by decide) rfl (K := fun z => X12_readLead_j208 z (nI n)) (J := fun z => X12_readLead_j172 z (nI n)) X12_isCosts (fun h => xisCosts h) rfl
  have e3' : X1_numberIs σ2 1 4 (nI n) 4 0 999 = some (r3, σ3) := e3
  rw [e3', Option.bind_some, f3]
  rcases g3 with ⟨rfl, g3, nu3, hL3⟩ | ⟨rfl, g3⟩
  rotate_left
  · exact ⟨0, σ3, υ3, if_pos rfl, by rw [flt208 g3, Option.bind_some, flt109 g3], .inr ⟨rfl, g3⟩, (E1.tr E2).tr E3, (F1.tr F2).tr F3⟩
  rw [if_neg neg1_0]
  obtain ⟨r4, σ4, υ4, e4, f4, g4, E4, F4⟩ := opt_num g3 hL3 hn (k := 5) (w := 5) (b := 0) (hi := 16) (off := 1688) rfl (by decide) (by decide) (fun m _ _ => ⟨by decide, by omega, by omega, by omega, by omega, by omega⟩) (by decide) rfl (K := fun z => X12_readLead_j243 z (nI n)) (J := fun z => X12_readLead_j208 z (nI n)) X12_isUsed (fun h => xisUsed h) rfl
  have e4' : X1_numberIs σ3 1 5 (nI n) 5 0 16 = some (r4, σ4) := e4
  rw [e4', Option.bind_some, f4]
  rcases g4 with ⟨rfl, g4, nu4, hL4⟩ | ⟨rfl, g4⟩
  rotate_left
  · exact ⟨0, σ4, υ4, if_pos rfl, by rw [flt243 g4, Option.bind_some, flt109 g4], .inr ⟨rfl, g4⟩, ((E1.tr E2).tr E3).tr E4, ((F1.tr F2).tr F3).tr F4⟩
  rw [if_neg neg1_0]
  obtain ⟨σ5, υ5, e5, f5, g5, ⟨c5, hD5⟩, E5, F5⟩ := opt_clip g4 hL4 hn
  rw [e5, Option.bind_some, if_neg neg1_0, f5, Option.bind_some]
  obtain ⟨w, σ6, υ6, e6, f6, g6, E6, F6⟩ := semi g5
  rw [e6, Option.bind_some, f6]
  have EE := ((((E1.tr E2).tr E3).tr E4).tr E5).tr (NCf_CF E6)
  have FF := ((((F1.tr F2).tr F3).tr F4).tr F5).tr (NXf_XF F6)
  rcases g6 with ⟨rfl, g6⟩ | ⟨rfl, g6⟩
  · exact ⟨1, σ6, υ6, if_neg neg1_0, rfl, .inl ⟨rfl, g6, nu4, c5, hD5.ncf E6 F6⟩, EE, FF⟩
  · exact ⟨0, σ6, υ6, if_pos rfl, rfl, .inr ⟨rfl, g6⟩, EE, FF⟩
theorem isWord_any (υ : SS) (x : Int64) : ∃ v, (v = 0 ∨ v = 1) ∧ X12_isWord υ x = some v := by
  unfold X12_isWord X12_isWord_j0
  split
  · split
    · exact ⟨_, .inr rfl, rfl⟩
    · exact ⟨_, .inl rfl, rfl⟩
  · exact ⟨_, .inl rfl, rfl⟩
theorem isLong_any (υ : SS) : ∃ v, X12_isLong υ = some v := by
  obtain ⟨v, hv, e⟩ := isWord_any υ (lN (cdL [108, 111, 110, 103]))
  refine ⟨v, ?_⟩
  unfold X12_isLong X12_isLong_j0
  rw [sp_long, Option.bind_some, e, Option.bind_some]
  rcases hv with z | z <;> subst z <;> rfl
theorem leadPart_ok (hT : TK B S a σ υ) (h12 : υ.1 11 0 12 = 0) (hD : DT n nk nu lo c L σ υ) (hw : wid B S a = some 0) : ∃ r σ' υ', X1_leadPart σ 1 = some (r, σ') ∧ ((X12_readLead υ).bind fun z => X12_drawer_j109 z) = some (Sum.inl υ') ∧ Out B S (fun σ' υ' => n < 8 ∧ ∃ nu' c', DT (n + 1) nk nu' lo c' L σ' υ') r σ' υ' ∧ Eqo CF σ σ' ∧ Eqo XF υ υ' := by
  have hn8 := hD.1.n8
  have hk4 : tkK B S a ≠ 4 := by rw [(wid_lt hw).2]; decide
  have eX : X12_readLead υ = if nI n = 8 then ((X12_fail υ 6 (υ.1 11 0 15)).bind fun σ22 => X12_readLead_j25 σ22 (nI n)) else X12_readLead_j25 υ (nI n) := by
    unfold X12_readLead X12_readLead_j0
    rw [show ck (LN 13 34) 1640 = some 1640 from ckc (j := 1640) (by decide), Option.bind_some, hD.x0.1, Option.bind_some]
  by_cases q : n = 8
  · subst q
    obtain ⟨σ', υ', f1, f2, f3, f4, f5⟩ := hT.fail h12 (x := 6) (by decide) hk4
    have f1' : X5_fail σ 6 = some (0, σ') := f1
    have f2' : X12_fail υ 6 (υ.1 11 0 15) = some υ' := f2
    refine ⟨0, σ', υ', ?_, ?_, .inr ⟨rfl, f3⟩, NCf_CF f4, NXf_XF f5⟩
    · unfold X1_leadPart X1_leadPart_j0 X0_leadCount X0_leadCount_j0
      rw [Option.bind_some, hD.1.ln, if_neg (show ¬ nI 8 < 8 by decide), f1', Option.bind_some]
      rfl
    · rw [eX, if_pos (show nI 8 = 8 from rfl), f2', Option.bind_some]
      unfold X12_readLead_j25
      rw [if_neg f3.pos.2.1, Option.bind_some, flt109 f3]
  have hn : n < 8 := by omega
  have eX : X12_readLead υ = (X12_readNew υ (nI n)).bind fun σ35 => (X12_isLong σ35).bind fun v40 => (X12_must σ35 v40).bind fun σ43 => (X12_count σ43 1 30).bind fun p59 => xlead59 (nI n) p59 := by
    rw [eX, if_neg (show ¬ nI n = 8 from wne q (by omega) (by decide))]
    unfold X12_readLead_j25
    rw [h12, if_pos (by decide)]
    rfl
  have eC : X1_leadPart σ 1 = (X5_next σ).bind fun σ23 => (X1_newNameStands σ23 1).bind fun p28 => if p28.1 = 0 then (some (0, p28.2)) else ((X5_name p28.2).bind fun v41 => (X0_addLead p28.2 1 v41).bind fun p44 => (X5_next p44.2).bind fun σ52 => (X5_passWord σ52 1).bind fun p60 => if p60.1 = 0 then (some (0, p60.2)) else ((X1_numberIs p60.2 1 (-1) p44.1 0 1 30).bind fun p74 => if p74.1 = 0 then (some (0, p74.2)) else clead88 p44.1 p74.2)) := by
    unfold X1_leadPart X1_leadPart_j0 X0_leadCount X0_leadCount_j0
    rw [Option.bind_some, hD.1.ln, if_pos (show nI n < 8 from nI_lt (b := 8) hn (by decide))]
    rfl
  rw [eX, eC]
  rcases new_ok hT h12 hD (p := n) (by omega) with ⟨σ1, σ2, υ1, e1, e2, e3, g, E1, F1⟩ | ⟨σ1, y, υ1, a', e1, e2, e3, e4, hT1, x12, E1, F1⟩
  · obtain ⟨v, gl⟩ := isLong_any υ1
    obtain ⟨υ', k1, k2, k3⟩ := flt59 g hn
    refine ⟨0, σ2, υ', ?_, ?_, .inr ⟨rfl, k2⟩, NCf_CF E1, (NXf_XF F1).tr k3⟩
    · rw [e1, Option.bind_some, e2, Option.bind_some, if_pos rfl]
    · rw [e3, Option.bind_some, gl, Option.bind_some, must_no g.pos.2.1, Option.bind_some, count_no g.pos.2.1 g.pos.2.2, Option.bind_some, k1]
  obtain ⟨τ, t0, t1, t2, t3, t4, t5, t6, t7, t8, tE⟩ := addLead_ok (hD.nc E1 F1) hn y
  rw [e1, Option.bind_some, e2, Option.bind_some, if_neg neg1_0, e3, Option.bind_some, t0, Option.bind_some, e4]
  have tD : Eqo (DC 1) σ1 τ := tE.mono (fun k m j q => by unfold AL at q; unfold DC; omega)
  have PJ : Eqo (PC 4) υ1 (wJ υ1 14 7 (44 + n) y) := Eqo.wJ (by unfold PC; omega)
  have hT2 := hT1.dx tD PJ
  have x212 : (wJ υ1 14 7 (44 + n) y).1 11 0 12 = 0 := x12
  obtain ⟨a3, σ3, υ3, e5, e6, hT3, E3, F3⟩ := hT2.next
  have x312 : υ3.1 11 0 12 = 0 := (F3.at1 (by unfold NX; omega)).trans x212
  rw [e5, Option.bind_some, e6, Option.bind_some, Option.bind_some, xisLong hT3, Option.bind_some]
  obtain ⟨w, σ4, υ4, k1, k2, k3, E4, F4⟩ := word_step hT3 x312 (k := 1) rfl
  have k1' : X5_passWord σ3 1 = some (w, σ4) := k1
  rw [k1', Option.bind_some, k2, Option.bind_some]
  have EE : Eqo CF σ σ4 := (((NC_CF E1).tr (DC_CF tD)).tr (NC_CF E3)).tr (NCf_CF E4)
  have FF : Eqo XF υ υ4 := (((NX_XF F1).tr (PC_XF PJ)).tr (NX_XF F3)).tr (NXf_XF F4)
  rcases k3 with ⟨rfl, k3⟩ | ⟨rfl, k3⟩
  rotate_left
  · obtain ⟨υ', z1, z2, z3⟩ := flt59 k3 hn
    refine ⟨0, σ4, υ', if_pos rfl, ?_, .inr ⟨rfl, z2⟩, EE, FF.tr z3⟩
    rw [count_no k3.pos.2.1 k3.pos.2.2, Option.bind_some, z1]
  obtain ⟨⟨a4, hT4⟩, x412⟩ := k3
  obtain ⟨x, y', σ5, υ5, m1, m2, m3, E5, F5⟩ := must_number hT4 x412 (lo := 1) (hi := 30) (by decide) (by decide)
  have m1' : X5_passNumber σ4 1 30 = some (x, σ5) := m1
  have m2' : X12_count υ4 1 30 = some (y', υ5) := m2
  rw [if_neg neg1_0, m2', Option.bind_some]
  have EE5 := EE.tr (NCf_CF E5)
  have FF5 := FF.tr (NXf_XF F5)
  have eN : X1_numberIs σ4 1 (-1) (nI n) 0 1 30 = if x = -1 then some (0, σ5) else ((X0_setNumber σ5 1 0 (nI n) x).bind fun σ52 => some (1, σ52)) := by
    unfold X1_numberIs X1_numberIs_j0 X1_numberIs_j25
    rw [if_pos rfl, m1', Option.bind_some]
  rw [eN]
  rcases m3 with ⟨m, g1, g2, rfl, rfl, g5⟩ | ⟨rfl, rfl, g3⟩
  rotate_left
  · obtain ⟨υ', z1, z2, z3⟩ := flt59 g3 hn
    refine ⟨0, σ5, υ', ?_, z1, .inr ⟨rfl, z2⟩, EE5, FF5.tr z3⟩
    rw [if_pos rfl, Option.bind_some, if_pos rfl]
  -- the number is there
  have c5 : ∀ j, (j = 8 ∨ j = 16 ∨ j = 24 ∨ j = 32 ∨ j = 40) → σ5.1 13 5 (j + n) = τ.1 13 5 (j + n) := fun j hj => by
    rw [E5.at1 (by unfold NCf NC; omega), E4.at1 (by unfold NCf NC; omega), E3.at1 (by unfold NC; omega)]
  have hA : (wI σ5 13 5 (0 * 8 + n) (nI m)).1 13 5 n = nI m := by
    rw [show 0 * 8 + n = n by omega]
    exact wI_eq _ _ _ _ _
  have hq : (wI σ5 13 5 (0 * 8 + n) (nI m)).1 13 5 (8 + n) = nI 0 := by
    rw [wI_ne _ _ (by omega), c5 8 (by omega)]
    exact t4
  have hset : X0_setNumber σ5 1 0 (nI n) (nI m) = _ := setN_ok (w := 0) (by decide) hn hA hq g2 (by decide)
  have hSE : Eqo (fun k l j => k = 13 ∧ l = 5 ∧ (j = n ∨ j = 48 + n)) σ5 (wI (wI σ5 13 5 (0 * 8 + n) (nI m)) 13 5 (48 + n) (nI (min 15 (m / 2 - 0)))) := (Eqo.wI (by omega)).tr (Eqo.wI (by omega))
  have c0 : (wI (wI σ5 13 5 (0 * 8 + n) (nI m)) 13 5 (48 + n) (nI (min 15 (m / 2 - 0)))).1 13 5 n = nI m := by
    rw [wI_ne _ _ (by omega)]
    exact hA
  have c6 : (wI (wI σ5 13 5 (0 * 8 + n) (nI m)) 13 5 (48 + n) (nI (min 15 (m / 2 - 0)))).1 13 5 (48 + n) = nI (min 15 (m / 2)) := wI_eq _ _ _ _ _
  rw [if_neg (show ¬ nI m = -1 from ne_m1 (by omega)), hset, Option.bind_some, Option.bind_some, if_neg neg1_0]
  generalize wI (wI σ5 13 5 (0 * 8 + n) (nI m)) 13 5 (48 + n) (nI (min 15 (m / 2 - 0))) = σ6 at *
  have sd : ∀ j, (j = 8 ∨ j = 16 ∨ j = 24 ∨ j = 32 ∨ j = 40) → σ6.1 13 5 (j + n) = τ.1 13 5 (j + n) := fun j hj => (hSE.at1 (by omega)).trans (c5 j hj)
  have hLW : Eqo (LW n) σ σ6 := (((((NC_NCf E1).mono (fun _ _ _ q => .inl q)).tr (tE.mono (fun _ _ _ q => .inr (.inl q)))).tr ((NC_NCf E3).mono (fun _ _ _ q => .inl q))).tr (E4.mono (fun _ _ _ q => .inl q))).tr (E5.mono (fun _ _ _ q => .inl q)) |>.tr (hSE.mono (fun _ _ _ q => .inr (.inr q)))
  have P1 : Eqo (fun k l j => k = 13 ∧ l = 34 ∧ (j = 1648 + n ∨ j = 1664 + n ∨ j = 1672 + n)) υ5 (wI (wI (wI υ5 13 34 (1648 + n) (nI m)) 13 34 (1664 + n) 3) 13 34 (1672 + n) 3) := ((Eqo.wI (by omega)).tr (Eqo.wI (by omega))).tr (Eqo.wI (by omega))
  have b0 : (wI (wI (wI υ5 13 34 (1648 + n) (nI m)) 13 34 (1664 + n) 3) 13 34 (1672 + n) 3).1 13 34 (1648 + n) = nI m := by rw [wI_ne _ _ (by omega), wI_ne _ _ (by omega), wI_eq]
  have b2 : (wI (wI (wI υ5 13 34 (1648 + n) (nI m)) 13 34 (1664 + n) 3) 13 34 (1672 + n) 3).1 13 34 (1664 + n) = nI 3 := by rw [wI_ne _ _ (by omega), wI_eq]; rfl
  have b3 : (wI (wI (wI υ5 13 34 (1648 + n) (nI m)) 13 34 (1664 + n) 3) 13 34 (1672 + n) 3).1 13 34 (1672 + n) = nI 3 := by rw [wI_eq]; rfl
  obtain ⟨kc0, kc2, kc3⟩ := ck3n hn
  unfold xlead59
  rw [kc0, Option.bind_some, Option.bind_some, kc2, Option.bind_some, Option.bind_some, kc3, Option.bind_some, Option.bind_some]
  generalize wI (wI (wI υ5 13 34 (1648 + n) (nI m)) 13 34 (1664 + n) 3) 13 34 (1672 + n) 3 = υ6 at *
  have P1' : Eqo (PC 4) υ5 υ6 := P1.mono (fun k l j q => by unfold PC; omega)
  have hS6 : Eqo (DC 1) σ5 σ6 := hSE.mono (fun k l j q => by unfold DC; omega)
  have hLX : Eqo (LX1 n) υ υ6 := (((((NX_NXf F1).mono (fun _ _ _ q => .inl q)).tr ((Eqo.wJ (P := LX1 n) (σ := υ1) (k := 14) (n := 7) (j := 44 + n) (x := y) (.inr (.inl ⟨rfl, rfl, rfl⟩))))).tr ((NX_NXf F3).mono (fun _ _ _ q => .inl q))).tr (F4.mono (fun _ _ _ q => .inl q))).tr (F5.mono (fun _ _ _ q => .inl q)) |>.tr (P1.mono (fun _ _ _ q => .inr (.inr q)))
  have g6 : Gon B S σ6 υ6 := g5.dx hS6 P1'
  have hL6 : LR n nk (nuN nu n m) lo c L σ6 υ6 := by
    refine ⟨hD.newl hn ⟨g1, g2⟩ hLW hLX ?_ ?_ ?_ c0 ((sd 8 (by omega)).trans t4) ((sd 16 (by omega)).trans t5) ((sd 24 (by omega)).trans t6) ((sd 32 (by omega)).trans t7) ((sd 40 (by omega)).trans t8) c6 b0 b2 b3, ?_, ?_⟩
    · rw [hSE.2 _ _ _ (by omega), E5.2 _ _ _ (by unfold NCf NC; omega), E4.2 _ _ _ (by unfold NCf NC; omega), E3.2 _ _ _ (by unfold NC; omega), t1, P1.2 _ _ _ (by omega), F5.2 _ _ _ (by unfold NXf NX; omega), F4.2 _ _ _ (by unfold NXf NX; omega), F3.2 _ _ _ (by unfold NX; omega), wJ_eq]
    · rw [hSE.at1 (by omega), E5.at1 (by unfold NCf NC; omega), E4.at1 (by unfold NCf NC; omega), E3.at1 (by unfold NC; omega)]; exact t2
    · rw [hSE.at1 (by omega), E5.at1 (by unfold NCf NC; omega), E4.at1 (by unfold NCf NC; omega), E3.at1 (by unfold NC; omega)]; exact t3
    · rw [hLX.at1 (by unfold LX1 NXf NX; omega)]; exact hD.x0.1
    · rw [hLX.at1 (by unfold LX1 NXf NX; omega)]; exact hD.x0.2.2.2.1
  obtain ⟨r, σ', υ', w1, w2, w3, w4, w5⟩ := lead_tail g6 hL6 hn rfl
  refine ⟨r, σ', υ', w1, w2, ?_, (EE5.tr (DC_CF hS6)).tr w4, (FF5.tr (PC_XF P1')).tr w5⟩
  rcases w3 with ⟨z1, z2, z3⟩ | z
  · exact .inl ⟨z1, z2, hn, z3⟩
  · exact .inr z
end LDP
