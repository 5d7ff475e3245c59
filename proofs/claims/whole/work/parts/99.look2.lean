/-! ===== TEXTS: a look's leads, one after the other ===== -/
section LK2
variable {σ υ σ' υ' : SS} {n nk c s : Nat} {nu : Nat → Nat → Nat} {lo : Nat → Nat} {L : List X3} {B : Nat → Nat} {S a : Nat}
theorem flt116 (h : Flt σ υ) (x y : Int32) : X12_readLook_j116 υ x y = some υ := by
  unfold X12_readLook_j116
  rw [if_neg h.pos.2.1]
theorem LK.fin (h : LK n nk nu lo c L s σ υ) (h12 : υ.1 11 0 12 = 0) : X12_readLook_j116 υ (nI nk) (nI s) = some (finL nk s υ) ∧ Eqo (PC 4) υ (finL nk s υ) := by
  have hk := h.2.2.1
  constructor
  · unfold X12_readLook_j116 finL
    rw [h12, if_pos (by decide), show ck (LN 13 34) (1696 + nI nk) = some (1696 + nk) from ck16n (off := 1696) (by omega), Option.bind_some, Option.bind_some, show ck (LN 13 34) 1642 = some 1642 from ckc (j := 1642) (by decide), Option.bind_some, Option.bind_some, wI_ne _ _ (by omega), h.2.1, nI_1, Option.bind_some]
  · exact (pc4 (by omega)).tr (pc4 (by omega))
theorem flt_end (h : Flt σ υ) (R : Nat) (x mo x1 : Int32) : ((iter (X12_readLook_l44b x1) (R + 1) (x, mo, υ)).bind fun t => X12_readLook_j116 t.2 x1 t.1) = some υ := by
  have e : X12_readLook_l44b x1 (x, mo, υ) = some (Sum.inr (x, υ)) := by
    show X12_readLook_l44c υ x1 x mo = _
    unfold X12_readLook_l44c
    rw [if_neg h.pos.2.2]
  rw [it_r e, Option.bind_some, flt116 h]
theorem sign_no (h : TK B S a σ υ) (hk : tkK B S a ≠ 3) {x : Int32} : X12_isSign υ x = some 0 := by
  have hkl := tkK_le B S a
  have y14 : υ.1 11 0 14 = nI (tkK B S a) := h.2.2.2.2.2.2.2.2.2.2.1
  unfold X12_isSign X12_isSign_j0
  rw [y14, if_neg (show ¬ nI (tkK B S a) = 3 from wne hk (by omega) (by decide))]
/-- the class's loop, over at a fault -/
theorem flt_endC (R : Nat) (x2 : Int32) {i : Nat} (hi : i < 100) : ((iter (X1_lookPart_l64b 1 x2) (R + 1) (0, nI i, σ)).bind fun t => X1_lookPart_j100 t.2 1 t.1) = some (0, σ) := by
  have e : X1_lookPart_l64b 1 x2 (0, nI i, σ) = some (Sum.inr (0, σ)) := by
    show X1_lookPart_l64c σ 1 x2 0 (nI i) = _
    unfold X1_lookPart_l64c
    split
    · rfl
    · rw [if_pos rfl]
  rw [it_r e, Option.bind_some]
  unfold X1_lookPart_j100
  rw [if_pos rfl]
theorem LK.s256 (h : LK n nk nu lo c L s σ υ) : s < 256 := p256 h.1.1.n8 h.2.2.2
/-- the loops at one token, the rest given -/
theorem look_one {m i : Nat} (hi : i + 1 = popc s) (hi8 : i < 8) (hT : TK B S a σ υ) (h12 : υ.1 11 0 12 = 0) (hL : LK n nk nu lo c L s σ υ) {R R' : Nat} (hR : m + 2 < R) (hR' : m + 2 < R') (rest : ∀ (a' l : Nat) (σ1 υ1 : SS), l < 8 → s.testBit l = false → TK B S a' σ1 υ1 → υ1.1 11 0 12 = 0 → LK n nk nu lo c L (s ||| 2 ^ l) σ1 υ1 → ∃ r σ' υ', ((iter (X1_lookPart_l64b 1 (nI nk)) (R - 1) (1, nI (i + 1), σ1)).bind fun t => X1_lookPart_j100 t.2 1 t.1) = some (r, σ') ∧ (((iter (X12_readLook_l44b (nI nk)) (R' - 1) (nI (s ||| 2 ^ l), (if tkK B S a' = 1 then 1 else 0), υ1)).bind fun t => X12_readLook_j116 t.2 (nI nk) t.1).bind fun z => X12_drawer_j109 z) = some (Sum.inl υ') ∧ Out B S (fun σ' υ' => ∃ lo', DT n (nk + 1) nu lo' c L σ' υ') r σ' υ' ∧ Eqo CF σ1 σ' ∧ Eqo XF υ1 υ') : ∃ r σ' υ', ((iter (X1_lookPart_l64b 1 (nI nk)) R (1, nI i, σ)).bind fun t => X1_lookPart_j100 t.2 1 t.1) = some (r, σ') ∧ (((iter (X12_readLook_l44b (nI nk)) R' (nI s, (if tkK B S a = 1 then 1 else 0), υ)).bind fun t => X12_readLook_j116 t.2 (nI nk) t.1).bind fun z => X12_drawer_j109 z) = some (Sum.inl υ') ∧ Out B S (fun σ' υ' => ∃ lo', DT n (nk + 1) nu lo' c L σ' υ') r σ' υ' ∧ Eqo CF σ σ' ∧ Eqo XF υ υ' := by
  obtain ⟨R1, rfl⟩ : ∃ R1, R = R1 + 2 := ⟨R - 2, by omega⟩
  obtain ⟨R1', rfl⟩ : ∃ R1', R' = R1' + 2 := ⟨R' - 2, by omega⟩
  obtain ⟨v, hv, s1, s2⟩ := hT.sign (s := 59) (by decide)
  have s1' : X5_signIs σ 59 = some v := s1
  have s2' : X12_isSign υ 59 = some v := s2
  have eC : X1_lookPart_l64b 1 (nI nk) (1, nI i, σ) = if v = 0 then ((X1_lookLead σ 1 (nI nk)).bind fun p90 => some (Sum.inl (p90.1, nI (i + 1), p90.2))) else some (Sum.inr (1, σ)) := by
    show X1_lookPart_l64c σ 1 (nI nk) 1 (nI i) = _
    unfold X1_lookPart_l64c
    rw [if_neg (show ¬ (8 : Int32) ≤ nI i from nI_ge (b := 8) hi8 (by decide)), if_neg neg1_0, s1', Option.bind_some, nI_1]
    rfl
  by_cases q : tkK B S a = 1
  · have v0 : v = 0 := by
      have := (sign_no hT (by rw [q]; decide) (x := 59)).symm.trans s2'
      injection this with this
      exact this.symm
    rw [if_pos v0] at eC
    rw [if_pos q]
    obtain ⟨r, σ1, υ1, x, mo, k1, k2, k3, k4, k5⟩ := look_step hL hT h12
    rw [k1, Option.bind_some] at eC
    rcases k3 with ⟨rfl, a4, l, l8, ls, rfl, hT4, x412, rfl, hK4⟩ | ⟨rfl, k3⟩
    · obtain ⟨r, σ5, υ5, m1, m2, m3, m4, m5⟩ := rest a4 l σ1 υ1 l8 ls hT4 x412 hK4
      refine ⟨r, σ5, υ5, ?_, ?_, m3, k4.tr m4, k5.tr m5⟩
      · rw [it_l eC]
        exact m1
      · rw [it_l k2]
        exact m2
    · refine ⟨0, σ1, υ1, ?_, ?_, .inr ⟨rfl, k3⟩, k4, k5⟩
      · rw [it_l eC]
        exact flt_endC R1 _ (by omega)
      · rw [it_l k2, flt_end k3, Option.bind_some, flt109 k3]
  · rw [if_neg q]
    obtain ⟨f1, f2⟩ := hL.fin h12
    have eX : ((iter (X12_readLook_l44b (nI nk)) (R1' + 2) (nI s, 0, υ)).bind fun t => X12_readLook_j116 t.2 (nI nk) t.1) = some (finL nk s υ) := by
      have e : X12_readLook_l44b (nI nk) (nI s, 0, υ) = some (Sum.inr (nI s, υ)) := by
        show X12_readLook_l44c υ (nI nk) (nI s) 0 = _
        unfold X12_readLook_l44c
        rw [if_pos h12, if_pos rfl]
      rw [it_r e, Option.bind_some]
      exact f1
    have hTf := hT.dx (Eqo.rf _ σ) f2
    have y12 : (finL nk s υ).1 11 0 12 = 0 := (f2.at1 (by unfold PC; omega)).trans h12
    rw [eX, Option.bind_some]
    rcases hv with rfl | rfl
    · rw [if_pos rfl] at eC
      obtain ⟨σ1, υ1, w1, w2, w3, w4, w5⟩ := hTf.wrong y12
      have hl : X1_lookLead σ 1 (nI nk) = some (0, σ1) := by
        rcases names_ok hT with ⟨g1, -⟩ | ⟨g1, g2, g3⟩
        · exact absurd g1.1 q
        · unfold X1_lookLead X1_lookLead_j0 X1_toldNameStands X1_toldNameStands_j0
          rw [g2, Option.bind_some, if_pos rfl, w1, Option.bind_some]
          rfl
      rw [hl, Option.bind_some] at eC
      refine ⟨0, σ1, υ1, ?_, ?_, .inr ⟨rfl, w3⟩, NCf_CF w4, (PC_XF f2).tr (NXf_XF w5)⟩
      · rw [it_l eC]
        exact flt_endC R1 _ (by omega)
      · have s3 : X12_isSign (finL nk s υ) 59 = some 0 := by
          obtain ⟨v, -, z1, z2⟩ := hTf.sign (s := 59) (by decide)
          have hv0 : v = 0 := Option.some.inj (z1.symm.trans s1)
          subst hv0
          exact z2
        unfold X12_drawer_j109 X12_must X12_must_j0
        rw [s3, Option.bind_some, y12, if_pos (by decide), if_pos rfl, w2, Option.bind_some, Option.bind_some]
    · rw [if_neg neg1_0] at eC
      obtain ⟨w, σ1, υ1, w1, w2, w3, w4, w5⟩ := semi (hTf.gon y12)
      have eJ : ((iter (X1_lookPart_l64b 1 (nI nk)) (R1 + 2) (1, nI i, σ)).bind fun t => X1_lookPart_j100 t.2 1 t.1) = some (w, σ1) := by
        rw [it_r eC, Option.bind_some]
        unfold X1_lookPart_j100
        rw [if_neg neg1_0, w1, Option.bind_some]
        rcases w3 with ⟨rfl, -⟩ | ⟨rfl, -⟩
        · rw [if_neg neg1_0]
        · rw [if_pos rfl]
      refine ⟨w, σ1, υ1, eJ, w2, ?_, NCf_CF w4, (PC_XF f2).tr (NXf_XF w5)⟩
      rcases w3 with ⟨z, g⟩ | z
      · exact .inl ⟨z, g, _, hL.1.ncf w4 w5⟩
      · exact .inr z
theorem look_loop : ∀ (m s i a : Nat) (σ υ : SS), i + 1 = popc s → popc s + m = 8 → TK B S a σ υ → υ.1 11 0 12 = 0 → LK n nk nu lo c L s σ υ → ∀ R R', m + 2 < R → m + 2 < R' → ∃ r σ' υ', ((iter (X1_lookPart_l64b 1 (nI nk)) R (1, nI i, σ)).bind fun t => X1_lookPart_j100 t.2 1 t.1) = some (r, σ') ∧ (((iter (X12_readLook_l44b (nI nk)) R' (nI s, (if tkK B S a = 1 then 1 else 0), υ)).bind fun t => X12_readLook_j116 t.2 (nI nk) t.1).bind fun z => X12_drawer_j109 z) = some (Sum.inl υ') ∧ Out B S (fun σ' υ' => ∃ lo', DT n (nk + 1) nu lo' c L σ' υ') r σ' υ' ∧ Eqo CF σ σ' ∧ Eqo XF υ υ' := by
  intro m
  induction m with
  | zero =>
    intro s i a σ υ hi hm hT h12 hL R R' hR hR'
    refine look_one hi (by omega) hT h12 hL hR hR' (fun a' l σ1 υ1 hl hs => ?_)
    have := popc_add s hL.s256 l hl hs
    have h2 := popc_le (s ||| 2 ^ l)
    omega
  | succ m ih =>
    intro s i a σ υ hi hm hT h12 hL R R' hR hR'
    refine look_one hi (by omega) hT h12 hL hR hR' (fun a' l σ1 υ1 hl hs hT1 x12 hL1 => ?_)
    have := popc_add s hL.s256 l hl hs
    exact ih (s ||| 2 ^ l) (i + 1) a' σ1 υ1 (by omega) (by omega) hT1 x12 hL1 (R - 1) (R' - 1) (by omega) (by omega)
theorem lookPart_ok (hT : TK B S a σ υ) (h12 : υ.1 11 0 12 = 0) (hD : DT n nk nu lo c L σ υ) (hw : wid B S a = some 11) : ∃ r σ' υ', X1_lookPart σ 1 = some (r, σ') ∧ ((X12_readLook υ).bind fun z => X12_drawer_j109 z) = some (Sum.inl υ') ∧ Out B S (fun σ' υ' => nk < 3 ∧ ∃ lo', DT n (nk + 1) nu lo' c L σ' υ') r σ' υ' ∧ Eqo CF σ σ' ∧ Eqo XF υ υ' := by
  have hk3 := hD.1.k3
  have hk4 : tkK B S a ≠ 4 := by rw [(wid_lt hw).2]; decide
  have eX : X12_readLook υ = if nI nk = 3 then ((X12_fail υ 6 (υ.1 11 0 15)).bind fun σ21 => X12_readLook_j24 σ21 (nI nk)) else X12_readLook_j24 υ (nI nk) := by
    unfold X12_readLook X12_readLook_j0
    rw [show ck (LN 13 34) 1642 = some 1642 from ckc (j := 1642) (by decide), Option.bind_some, hD.x0.2.2.1, Option.bind_some]
  by_cases q : nk = 3
  · subst q
    obtain ⟨σ', υ', f1, f2, f3, f4, f5⟩ := hT.fail h12 (x := 6) (by decide) hk4
    have f1' : X5_fail σ 6 = some (0, σ') := f1
    have f2' : X12_fail υ 6 (υ.1 11 0 15) = some υ' := f2
    refine ⟨0, σ', υ', ?_, ?_, .inr ⟨rfl, f3⟩, NCf_CF f4, NXf_XF f5⟩
    · unfold X1_lookPart X1_lookPart_j0 X0_lookCount X0_lookCount_j0
      rw [Option.bind_some, hD.1.lk, if_neg (show ¬ nI 3 < 3 by decide), f1', Option.bind_some]
      rfl
    · rw [eX, if_pos (show nI 3 = 3 from rfl), f2', Option.bind_some]
      unfold X12_readLook_j24
      rw [if_neg f3.pos.2.1, Option.bind_some, flt109 f3]
  have hk : nk < 3 := by omega
  have eX : X12_readLook υ = (X12_readNew υ (nI (8 + nk))).bind fun σ37 => (iter (X12_readLook_l44b (nI nk)) NF (0, 1, σ37)).bind fun t => X12_readLook_j116 t.2 (nI nk) t.1 := by
    rw [eX, if_neg (show ¬ nI nk = 3 from wne q (by omega) (by decide))]
    unfold X12_readLook_j24
    rw [h12, if_pos (by decide), show (8 : Int32) + nI nk = nI (8 + nk) from nI_add 8 nk]
    rfl
  have eC : X1_lookPart σ 1 = (X5_next σ).bind fun σ22 => (X1_newNameStands σ22 1).bind fun p27 => if p27.1 = 0 then (some (0, p27.2)) else ((X5_name p27.2).bind fun v40 => (X0_addLook p27.2 1 v40).bind fun p43 => (X5_next p43.2).bind fun σ51 => (X1_lookLead σ51 1 p43.1).bind fun p57 => (iter (X1_lookPart_l64b 1 p43.1) NF (p57.1, 0, p57.2)).bind fun t => X1_lookPart_j100 t.2 1 t.1) := by
    unfold X1_lookPart X1_lookPart_j0 X0_lookCount X0_lookCount_j0
    rw [Option.bind_some, hD.1.lk, if_pos (show nI nk < 3 from nI_lt (b := 3) hk (by decide))]
    rfl
  have hNF : ∃ F, NF = F + 1 := ⟨NF - 1, by unfold NF; omega⟩
  rw [eX, eC]
  rcases new_ok hT h12 hD (p := 8 + nk) (by omega) with ⟨σ1, σ2, υ1, e1, e2, e3, g, E1, F1⟩ | ⟨σ1, y, υ1, a', e1, e2, e3, e4, hT1, x12, E1, F1⟩
  · refine ⟨0, σ2, υ1, ?_, ?_, .inr ⟨rfl, g⟩, NCf_CF E1, NXf_XF F1⟩
    · rw [e1, Option.bind_some, e2, Option.bind_some, if_pos rfl]
    · obtain ⟨F, hF⟩ := hNF
      rw [e3, Option.bind_some, hF, flt_end g, Option.bind_some, flt109 g]
  obtain ⟨τ, t0, t1, t2, t3, tE⟩ := addLook_ok (hD.nc E1 F1) hk y
  rw [e1, Option.bind_some, e2, Option.bind_some, if_neg neg1_0, e3, Option.bind_some, t0, Option.bind_some, e4]
  have tD : Eqo (DC 1) σ1 τ := tE.mono (fun k m j q => by unfold DC; omega)
  have PJ : Eqo (PC 4) υ1 (wJ υ1 14 7 (44 + (8 + nk)) y) := Eqo.wJ (by unfold PC; omega)
  have hT2 := hT1.dx tD PJ
  have x212 : (wJ υ1 14 7 (44 + (8 + nk)) y).1 11 0 12 = 0 := x12
  have hK2 : LK n nk nu lo c L 0 τ (wJ υ1 14 7 (44 + (8 + nk)) y) := by
    refine ⟨(hD.nc E1 F1).newk hk tE t2 t3 ⟨fun a b j q => ?_, fun a b j q => ?_⟩ ?_ ?_ ?_, ?_, hk, Nat.pow_pos (by decide)⟩
    · unfold finL
      rw [wI_ne _ _ (by omega), wI_ne _ _ (by omega)]
      rfl
    · show (wJ υ1 14 7 (44 + (8 + nk)) y).2 a b j = _
      exact wJ_ne _ _ (by omega)
    · exact wI_eq _ _ _ _ _
    · unfold finL
      rw [wI_ne _ _ (by omega), wI_eq]
    · rw [t1]
      show _ = (wJ υ1 14 7 (44 + (8 + nk)) y).2 14 7 (52 + nk)
      rw [show 52 + nk = 44 + (8 + nk) by omega, wJ_eq]
    · exact (hD.nc E1 F1).x0.2.2.1
  obtain ⟨a3, σ3, υ3, e5, e6, hT3, E3, F3⟩ := hT2.next
  have x312 : υ3.1 11 0 12 = 0 := (F3.at1 (by unfold NX; omega)).trans x212
  rw [e5, Option.bind_some, e6, Option.bind_some, Option.bind_some]
  have EE : Eqo CF σ σ3 := ((NC_CF E1).tr (DC_CF tD)).tr (NC_CF E3)
  have FF : Eqo XF υ υ3 := ((NX_XF F1).tr (PC_XF PJ)).tr (NX_XF F3)
  obtain ⟨r, σ4, υ4, x, mo, k1, k2, k3, k4, k5⟩ := look_step (hK2.nc E3 F3) hT3 x312
  have k2' : X12_readLook_l44b (nI nk) (0, 1, υ3) = some (Sum.inl (x, mo, υ4)) := k2
  obtain ⟨F, hF⟩ : ∃ F, NF = F + 2 := ⟨NF - 2, by unfold NF; omega⟩
  rcases k3 with ⟨rfl, a4, l, l8, -, rfl, hT4, x412, rfl, hK4⟩ | ⟨rfl, k3⟩
  rotate_left
  · refine ⟨0, σ4, υ4, ?_, ?_, .inr ⟨rfl, k3⟩, EE.tr k4, FF.tr k5⟩
    · rw [k1, Option.bind_some, hF]
      exact flt_endC (F + 1) _ (i := 0) (by decide)
    · rw [hF, it_l k2', flt_end k3, Option.bind_some, flt109 k3]
  have hp1 : popc (0 ||| 2 ^ l) = 1 := by
    have := popc_add 0 (by decide) l l8 (by simp)
    rw [popc_0] at this
    exact this
  have hF1 : NF = (NF - 1) + 1 := by unfold NF; omega
  obtain ⟨r, σ5, υ5, m1, m2, m3, m4, m5⟩ := look_loop (B := B) (S := S) (n := n) (nk := nk) (nu := nu) (lo := lo) (c := c) (L := L) 7 (0 ||| 2 ^ l) 0 a4 σ4 υ4 (by rw [hp1]) (by rw [hp1]) hT4 x412 hK4 NF (NF - 1) (by unfold NF; omega) (by unfold NF; omega)
  refine ⟨r, σ5, υ5, ?_, ?_, ?_, (EE.tr k4).tr m4, (FF.tr k5).tr m5⟩
  · rw [k1, Option.bind_some]
    exact m1
  · rw [hF1, it_l k2']
    exact m2
  · rcases m3 with ⟨z1, z2, z3⟩ | z
    · exact .inl ⟨z1, z2, hk, z3⟩
    · exact .inr z
end LK2
