/-! ===== TEXTS: a drawer's parts, one after the other ===== -/
section GD
variable {σ υ σ' υ' : SS} {n nk c : Nat} {nu : Nat → Nat → Nat} {lo : Nat → Nat} {L : List X3} {B : Nat → Nat} {S a : Nat}
theorem atEnd_ok (h : TK B S a σ υ) : X5_atEnd σ = some (if tkK B S a = 0 then 1 else 0) ∧ (υ.1 11 0 14 = 0 ↔ tkK B S a = 0) := by
  have hkl := tkK_le B S a
  have hc := clK_bad _ hkl
  have y14 : υ.1 11 0 14 = nI (tkK B S a) := h.2.2.2.2.2.2.2.2.2.2.1
  have y3 : σ.1 4 0 3 = nI (clK (tkK B S a)) := h.2.2.2.2.2.1
  unfold X5_atEnd X5_atEnd_j0
  rw [y3, y14]
  by_cases q : tkK B S a = 0
  · rw [q, if_pos (show nI (clK 0) = 0 by decide), if_pos rfl]
    exact ⟨rfl, fun _ => rfl, fun _ => rfl⟩
  · rw [if_neg (show ¬ nI (clK (tkK B S a)) = 0 from wne (fun z => q (hc.2.2.2.2.2.mp z)) (by omega) (by decide)), if_neg q]
    exact ⟨rfl, fun z => absurd z (show ¬ nI (tkK B S a) = 0 from wne q (by omega) (by decide)), fun z => absurd z q⟩
theorem part_step (hT : TK B S a σ υ) (h12 : υ.1 11 0 12 = 0) (hD : DT n nk nu lo c L σ υ) {i : Nat} (hi : i < 900) : (X1_isGood_l8b 1 (1, nI i, σ) = some (Sum.inr (1, σ)) ∧ X12_drawer_l49b υ = some (Sum.inr υ)) ∨ (∃ r σ' υ', X1_isGood_l8b 1 (1, nI i, σ) = some (Sum.inl (r, nI (i + 1), σ')) ∧ X12_drawer_l49b υ = some (Sum.inl υ') ∧ ((r = 1 ∧ Gon B S σ' υ' ∧ ∃ n' nk' nu' lo' c' L', n' + nk' + L'.length = n + nk + L.length + 1 ∧ DT n' nk' nu' lo' c' L' σ' υ') ∨ (r = 0 ∧ Flt σ' υ')) ∧ Eqo CF σ σ' ∧ Eqo XF υ υ') := by
  obtain ⟨a1, a2⟩ := atEnd_ok hT
  have eC : X1_isGood_l8b 1 (1, nI i, σ) = if tkK B S a = 0 then some (Sum.inr (1, σ)) else (if wid B S a = some 0 then ((X1_leadPart σ 1).bind fun p => some (Sum.inl (p.1, nI (i + 1), p.2))) else if wid B S a = some 7 then ((X1_crossPart σ 1).bind fun p => some (Sum.inl (p.1, nI (i + 1), p.2))) else if wid B S a = some 11 then ((X1_lookPart σ 1).bind fun p => some (Sum.inl (p.1, nI (i + 1), p.2))) else ((X5_fail σ 2).bind fun p => some (Sum.inl (p.1, nI (i + 1), p.2)))) := by
    show X1_isGood_l8c σ 1 1 (nI i) = _
    unfold X1_isGood_l8c X1_isGood_j96
    rw [if_neg (show ¬ (900 : Int32) < nI i from nI_nlt (a := 900) (by omega) (by decide)), if_neg neg1_0, a1, Option.bind_some, if01, show X5_wordIs σ 0 = _ from (hT.isw (k := 0) rfl).1, Option.bind_some, show X5_wordIs σ 7 = _ from (hT.isw (k := 7) rfl).1, Option.bind_some, show X5_wordIs σ 11 = _ from (hT.isw (k := 11) rfl).1, Option.bind_some, if01, if01, if01, nI_1]
    rfl
  have eX : X12_drawer_l49b υ = if tkK B S a = 0 then some (Sum.inr υ) else (if wid B S a = some 0 then ((X12_readLead υ).bind fun z => X12_drawer_j109 z) else if wid B S a = some 7 then ((X12_readCross υ).bind fun z => X12_drawer_j109 z) else if wid B S a = some 11 then ((X12_readLook υ).bind fun z => X12_drawer_j109 z) else ((X12_wrong υ).bind fun z => X12_drawer_j109 z)) := by
    show X12_drawer_l49c υ = _
    unfold X12_drawer_l49c
    rw [if_pos h12, xisLead hT, Option.bind_some, xisCross hT, Option.bind_some, xisLook hT, Option.bind_some, if01, if01, if01]
    by_cases q : tkK B S a = 0
    · rw [if_pos (a2.mpr q), if_pos q]
    · rw [if_neg (fun z => q (a2.mp z)), if_neg q]
  by_cases q : tkK B S a = 0
  · exact .inl ⟨by rw [eC, if_pos q], by rw [eX, if_pos q]⟩
  rw [if_neg q] at eC eX
  right
  by_cases w0 : wid B S a = some 0
  · rw [if_pos w0] at eC eX
    obtain ⟨r, σ', υ', e1, e2, e3, e4, e5⟩ := leadPart_ok hT h12 hD w0
    rw [e1, Option.bind_some] at eC
    refine ⟨r, σ', υ', eC, eX.trans e2, ?_, e4, e5⟩
    rcases e3 with ⟨z1, z2, -, nu', c', z3⟩ | z
    · exact .inl ⟨z1, z2, _, _, _, _, _, _, by omega, z3⟩
    · exact .inr z
  rw [if_neg w0] at eC eX
  by_cases w7 : wid B S a = some 7
  · rw [if_pos w7] at eC eX
    obtain ⟨r, σ', υ', e1, e2, e3, e4, e5⟩ := crossPart_ok hT h12 hD w7
    rw [e1, Option.bind_some] at eC
    refine ⟨r, σ', υ', eC, eX.trans e2, ?_, e4, e5⟩
    rcases e3 with ⟨z1, z2, -, y, z3⟩ | z
    · exact .inl ⟨z1, z2, _, _, _, _, _, _, by rw [List.length_append]; rfl, z3⟩
    · exact .inr z
  rw [if_neg w7] at eC eX
  by_cases w11 : wid B S a = some 11
  · rw [if_pos w11] at eC eX
    obtain ⟨r, σ', υ', e1, e2, e3, e4, e5⟩ := lookPart_ok hT h12 hD w11
    rw [e1, Option.bind_some] at eC
    refine ⟨r, σ', υ', eC, eX.trans e2, ?_, e4, e5⟩
    rcases e3 with ⟨z1, z2, -, lo', z3⟩ | z
    · exact .inl ⟨z1, z2, _, _, _, _, _, _, by omega, z3⟩
    · exact .inr z
  rw [if_neg w11] at eC eX
  obtain ⟨σ', υ', f1, f2, f3, f4, f5⟩ := hT.wrong h12
  rw [f1, Option.bind_some] at eC
  rw [f2, Option.bind_some, flt109 f3] at eX
  exact ⟨0, σ', υ', eC, eX, .inr ⟨rfl, f3⟩, NCf_CF f4, NXf_XF f5⟩
theorem flt_good (h : Flt σ υ) (R : Nat) {i : Nat} : iter (X1_isGood_l8b 1) (R + 1) (0, nI i, σ) = some (0, σ) ∧ iter X12_drawer_l49b (R + 1) υ = some υ := by
  constructor
  · refine it_r ?_ R
    show X1_isGood_l8c σ 1 0 (nI i) = _
    unfold X1_isGood_l8c
    split
    · rfl
    · rw [if_pos rfl]
  · refine it_r ?_ R
    show X12_drawer_l49c υ = _
    unfold X12_drawer_l49c
    rw [if_neg h.pos.2.2]
theorem read_loop : ∀ (m n nk : Nat) (nu : Nat → Nat → Nat) (lo : Nat → Nat) (c : Nat) (L : List X3) (σ υ : SS), n + nk + L.length + m = 35 → Gon B S σ υ → DT n nk nu lo c L σ υ → ∀ R R', m + 3 ≤ R → m + 3 ≤ R' → ∃ g σ' υ', iter (X1_isGood_l8b 1) R (1, nI (n + nk + L.length), σ) = some (g, σ') ∧ iter X12_drawer_l49b R' υ = some υ' ∧ ((g = 1 ∧ Gon B S σ' υ' ∧ ∃ n' nk' nu' lo' c' L', DT n' nk' nu' lo' c' L' σ' υ') ∨ (g = 0 ∧ Flt σ' υ')) ∧ Eqo CF σ σ' ∧ Eqo XF υ υ' := by
  intro m
  induction m with
  | zero =>
    intro n nk nu lo c L σ υ hm hG hD R R' hR hR'
    obtain ⟨R, rfl⟩ : ∃ F, R = F + 2 := ⟨R - 2, by omega⟩
    obtain ⟨R', rfl⟩ : ∃ F, R' = F + 2 := ⟨R' - 2, by omega⟩
    obtain ⟨⟨a, hT⟩, h12⟩ := hG
    rcases part_step hT h12 hD (i := n + nk + L.length) (by omega) with ⟨e1, e2⟩ | ⟨r, σ', υ', e1, e2, e3, e4, e5⟩
    · exact ⟨1, σ, υ, it_r e1 _, it_r e2 _, .inl ⟨rfl, ⟨⟨a, hT⟩, h12⟩, _, _, _, _, _, _, hD⟩, Eqo.rf _ _, Eqo.rf _ _⟩
    · rcases e3 with ⟨-, -, n', nk', nu', lo', c', L', z1, z2⟩ | ⟨rfl, z⟩
      · have := z2.1.n8
        have := z2.1.k3
        have := z2.2.1.l24
        omega
      · obtain ⟨g1, g2⟩ := flt_good z R (i := n + nk + L.length + 1)
        obtain ⟨-, g3⟩ := flt_good z R' (i := n + nk + L.length + 1)
        exact ⟨0, σ', υ', by rw [it_l e1]; exact g1, by rw [it_l e2]; exact g3, .inr ⟨rfl, z⟩, e4, e5⟩
  | succ m ih =>
    intro n nk nu lo c L σ υ hm hG hD R R' hR hR'
    obtain ⟨R, rfl⟩ : ∃ F, R = F + 2 := ⟨R - 2, by omega⟩
    obtain ⟨R', rfl⟩ : ∃ F, R' = F + 2 := ⟨R' - 2, by omega⟩
    obtain ⟨⟨a, hT⟩, h12⟩ := hG
    rcases part_step hT h12 hD (i := n + nk + L.length) (by omega) with ⟨e1, e2⟩ | ⟨r, σ', υ', e1, e2, e3, e4, e5⟩
    · exact ⟨1, σ, υ, it_r e1 _, it_r e2 _, .inl ⟨rfl, ⟨⟨a, hT⟩, h12⟩, _, _, _, _, _, _, hD⟩, Eqo.rf _ _, Eqo.rf _ _⟩
    · rcases e3 with ⟨rfl, zg, n', nk', nu', lo', c', L', z1, z2⟩ | ⟨rfl, z⟩
      · obtain ⟨g, σ2, υ2, k1, k2, k3, k4, k5⟩ := ih n' nk' nu' lo' c' L' σ' υ' (by omega) zg z2 (R + 1) (R' + 1) (by omega) (by omega)
        rw [z1] at k1
        exact ⟨g, σ2, υ2, by rw [it_l e1]; exact k1, by rw [it_l e2]; exact k2, k3, e4.tr k4, e5.tr k5⟩
      · obtain ⟨g1, g2⟩ := flt_good z R (i := n + nk + L.length + 1)
        obtain ⟨-, g3⟩ := flt_good z R' (i := n + nk + L.length + 1)
        exact ⟨0, σ', υ', by rw [it_l e1]; exact g1, by rw [it_l e2]; exact g3, .inr ⟨rfl, z⟩, e4, e5⟩
/-- both begin to read -/
def BC : Nat → Nat → Nat → Prop := fun k n j => k = 4 ∧ n = 0 ∧ 1 ≤ j ∧ j ≤ 8
def BX : Nat → Nat → Nat → Prop := fun k n j => k = 11 ∧ n = 0 ∧ 8 ≤ j ∧ j ≤ 19
theorem begin_ok {T N : Nat} (hT : T ≤ 900) (hN : N ≤ T) (h1 : σ.1 4 0 1 = nI T) (h8 : υ.1 11 0 8 = nI T) (hB : ∀ j, j < T → B j < 256 ∧ σ.1 13 31 j = nI (B j) ∧ (υ.1 12 0 j) &&& 255 = nI (B j)) {most : Int32} (hm : nI N ≤ most) : ∃ σ1 υ1 a, X5_begin σ (nI N) = some σ1 ∧ X12_starts υ (nI N) most = some (1, υ1) ∧ TK B N a σ1 υ1 ∧ υ1.1 11 0 12 = 0 ∧ σ1.1 4 0 1 = 0 ∧ υ1.1 11 0 8 = 0 ∧ Eqo BC σ σ1 ∧ Eqo BX υ υ1 := by
  have E0 : Eqo BC σ (wI (wI (wI (wI (wI σ 4 0 2 (nI N)) 4 0 1 0) 4 0 5 0) 4 0 7 0) 4 0 8 (-1)) := ((((Eqo.wI (by unfold BC; omega)).tr (Eqo.wI (by unfold BC; omega))).tr (Eqo.wI (by unfold BC; omega))).tr (Eqo.wI (by unfold BC; omega))).tr (Eqo.wI (by unfold BC; omega))
  have F0 : Eqo BX υ (wI (wI (wI (wI υ 11 0 9 (nI N)) 11 0 8 0) 11 0 16 0) 11 0 12 0) := (((Eqo.wI (by unfold BX; omega)).tr (Eqo.wI (by unfold BX; omega))).tr (Eqo.wI (by unfold BX; omega))).tr (Eqo.wI (by unfold BX; omega))
  have eC : X5_begin σ (nI N) = (X5_next (wI (wI (wI (wI (wI σ 4 0 2 (nI N)) 4 0 1 0) 4 0 5 0) 4 0 7 0) 4 0 8 (-1))).bind fun z => some z := by
    unfold X5_begin X5_begin_j0
    rw [h1, imin_nI (by omega) (by omega), Nat.min_eq_left hN, Option.bind_some, Option.bind_some, Option.bind_some, Option.bind_some, Option.bind_some]
  have eX : X12_starts υ (nI N) most = (X12_next (wI (wI (wI (wI υ 11 0 9 (nI N)) 11 0 8 0) 11 0 16 0) 11 0 12 0)).bind fun z => some (1, z) := by
    unfold X12_starts X12_starts_j0
    rw [if_neg (nI_pos (by omega)), h8, if_neg (nI_nlt hN (by omega)), if_pos hm, Option.bind_some, Option.bind_some, Option.bind_some, Option.bind_some]
  have c2 : (wI (wI (wI (wI (wI σ 4 0 2 (nI N)) 4 0 1 0) 4 0 5 0) 4 0 7 0) 4 0 8 (-1)).1 4 0 2 = nI N := by
    rw [wI_ne _ _ (by omega), wI_ne _ _ (by omega), wI_ne _ _ (by omega), wI_ne _ _ (by omega), wI_eq]
  have c1 : (wI (wI (wI (wI (wI σ 4 0 2 (nI N)) 4 0 1 0) 4 0 5 0) 4 0 7 0) 4 0 8 (-1)).1 4 0 1 = 0 := by
    rw [wI_ne _ _ (by omega), wI_ne _ _ (by omega), wI_ne _ _ (by omega), wI_eq]
  have c5 : (wI (wI (wI (wI (wI σ 4 0 2 (nI N)) 4 0 1 0) 4 0 5 0) 4 0 7 0) 4 0 8 (-1)).1 4 0 5 = nI 0 := by
    rw [wI_ne _ _ (by omega), wI_ne _ _ (by omega), wI_eq]
    rfl
  have c7 : (wI (wI (wI (wI (wI σ 4 0 2 (nI N)) 4 0 1 0) 4 0 5 0) 4 0 7 0) 4 0 8 (-1)).1 4 0 7 = 0 := by
    rw [wI_ne _ _ (by omega), wI_eq]
  have c8 : (wI (wI (wI (wI (wI σ 4 0 2 (nI N)) 4 0 1 0) 4 0 5 0) 4 0 7 0) 4 0 8 (-1)).1 4 0 8 = -1 := wI_eq _ _ _ _ _
  have x9 : (wI (wI (wI (wI υ 11 0 9 (nI N)) 11 0 8 0) 11 0 16 0) 11 0 12 0).1 11 0 9 = nI N := by
    rw [wI_ne _ _ (by omega), wI_ne _ _ (by omega), wI_ne _ _ (by omega), wI_eq]
  have x8 : (wI (wI (wI (wI υ 11 0 9 (nI N)) 11 0 8 0) 11 0 16 0) 11 0 12 0).1 11 0 8 = 0 := by
    rw [wI_ne _ _ (by omega), wI_ne _ _ (by omega), wI_eq]
  have x16 : (wI (wI (wI (wI υ 11 0 9 (nI N)) 11 0 8 0) 11 0 16 0) 11 0 12 0).1 11 0 16 = nI 0 := by
    rw [wI_ne _ _ (by omega), wI_eq]
    rfl
  have x12 : (wI (wI (wI (wI υ 11 0 9 (nI N)) 11 0 8 0) 11 0 16 0) 11 0 12 0).1 11 0 12 = 0 := wI_eq _ _ _ _ _
  generalize wI (wI (wI (wI (wI σ 4 0 2 (nI N)) 4 0 1 0) 4 0 5 0) 4 0 7 0) 4 0 8 (-1) = σ0 at *
  generalize wI (wI (wI (wI υ 11 0 9 (nI N)) 11 0 8 0) 11 0 16 0) 11 0 12 0 = υ0 at *
  have hC : TxC B N σ0 := ⟨by omega, c2, fun j hj => ⟨(hB j (by omega)).1, by rw [E0.at1 (by unfold BC; omega)]; exact (hB j (by omega)).2.1⟩⟩
  have hX : TxX B N υ0 := ⟨by omega, x9, fun j hj => ⟨(hB j (by omega)).1, by rw [F0.at1 (by unfold BX; omega)]; exact (hB j (by omega)).2.2⟩⟩
  obtain ⟨σ1, υ1, e1, e2, hTK, E1, F1⟩ := nexts_ok hC hX (Nat.zero_le _) c5 x16 c7 c8
  refine ⟨σ1, υ1, _, by rw [eC, e1, Option.bind_some], by rw [eX, e2, Option.bind_some], hTK, ?_, ?_, ?_, E0.tr (E1.mono (fun k m j q => by unfold NC at q; unfold BC; omega)), F0.tr (F1.mono (fun k m j q => by unfold NX at q; unfold BX; omega))⟩
  · rw [F1.at1 (by unfold NX; omega)]; exact x12
  · rw [E1.at1 (by unfold NC; omega)]; exact c1
  · rw [F1.at1 (by unfold NX; omega)]; exact x8
theorem clear_ok (σ : SS) : ∃ τ, X0_clear σ 1 = some τ ∧ (∀ j, 5 ≤ j → j ≤ 12 → τ.1 0 1 j = 0) ∧ τ.1 8 1 1 = 0 ∧ Eqo (DC 1) σ τ := by
  refine ⟨wI (wI (wI (wI (wI (wI (wI (wI (wI (wI (wI σ 8 1 1 0) 8 1 2 0) 8 1 3 0) 0 1 5 0) 0 1 6 0) 0 1 7 0) 0 1 8 0) 0 1 9 0) 0 1 10 0) 0 1 11 0) 0 1 12 0, ?_, fun j h1 h2 => ?_, ?_, ?_⟩
  · unfold X0_clear X0_clear_j0 X9_clear X9_clear_j0
    simp only [Option.bind_some]
  · have : j = 5 ∨ j = 6 ∨ j = 7 ∨ j = 8 ∨ j = 9 ∨ j = 10 ∨ j = 11 ∨ j = 12 := by omega
    rcases this with z | z | z | z | z | z | z | z <;> subst z <;> simp (disch := omega) only [wI_eq, wI_ne]
  · simp (disch := omega) only [wI_eq, wI_ne]
  · exact ((((((((((Eqo.wI (by unfold DC; omega)).tr (Eqo.wI (by unfold DC; omega))).tr (Eqo.wI (by unfold DC; omega))).tr (Eqo.wI (by unfold DC; omega))).tr (Eqo.wI (by unfold DC; omega))).tr (Eqo.wI (by unfold DC; omega))).tr (Eqo.wI (by unfold DC; omega))).tr (Eqo.wI (by unfold DC; omega))).tr (Eqo.wI (by unfold DC; omega))).tr (Eqo.wI (by unfold DC; omega))).tr (Eqo.wI (by unfold DC; omega))
theorem xzero_ok (υ : SS) : ∃ τ, iter X12_drawer_l25b NF (0, υ) = some τ ∧ (∀ j, 1640 ≤ j → j < 2050 → τ.1 13 34 j = 0) ∧ Eqo (PC 4) υ τ := by
  obtain ⟨-, w, e, h1, h2⟩ := loopI (f := X12_drawer_l25b) (s := (0, υ)) 410 (fun k (_ : Unit) (w : SS) => ((nI k, w) : Int32 × SS)) (fun _ w => w) (fun k _ w => (∀ j, j < k → w.1 13 34 (1640 + j) = 0) ∧ Eqo (PC 4) υ w) () υ rfl ⟨fun j hj => absurd hj (Nat.not_lt_zero _), Eqo.rf _ _⟩ (by decide) (fun k u w hk hI => by
    obtain ⟨h1, h2⟩ := hI
    show ∃ b' w', X12_drawer_l25c w (nI k) = _ ∧ _
    unfold X12_drawer_l25c
    rw [if_neg (show ¬ (410 : Int32) ≤ nI k from nI_ge (b := 410) hk (by decide)), show ck (LN 13 34) (1640 + nI k) = some (1640 + k) from ck16n (off := 1640) (by omega), Option.bind_some, Option.bind_some, nI_1, Option.bind_some]
    refine ⟨(), _, rfl, fun j hj => ?_, h2.tr (pc4 (by omega))⟩
    by_cases ej : j = k
    · subst ej
      rw [wI_eq]
    · rw [wI_ne _ _ (by omega)]
      exact h1 j (by omega)) (fun u w hI => by
    show X12_drawer_l25c w (nI 410) = _
    unfold X12_drawer_l25c
    rw [if_pos (show (410 : Int32) ≤ nI 410 by decide)])
  refine ⟨w, e, fun j h3 h4 => ?_, h2⟩
  have := h1 (j - 1640) (by omega)
  rw [show 1640 + (j - 1640) = j by omega] at this
  exact this
theorem DT.none (hc : ∀ j, 5 ≤ j → j ≤ 12 → σ.1 0 1 j = 0) (h8 : σ.1 8 1 1 = 0) (hx : ∀ j, 1640 ≤ j → j < 2050 → υ.1 13 34 j = 0) : DT 0 0 (fun _ _ => 0) (fun _ => 0) 0 [] σ υ := by
  have x : ∀ j, j < 410 → (shb 4 υ).1 13 34 j = 0 := fun j hj => by
    rw [shb_at]
    exact hx _ (by omega) (by omega)
  have wf : wfS 0 0 (fun _ _ => 0) (fun _ => 0) := ⟨by decide, by decide, fun l hl => absurd hl (Nat.not_lt_zero _), fun k hk => absurd hk (Nat.not_lt_zero _)⟩
  have wl : wfL 0 [] := ⟨by decide, fun x hx => absurd hx List.not_mem_nil⟩
  refine ⟨⟨hc 5 (by decide) (by decide), hc 7 (by decide) (by decide), fun w l _ hl => absurd hl (Nat.not_lt_zero _), fun l hl => absurd hl (Nat.not_lt_zero _), fun k hk => absurd hk (Nat.not_lt_zero _), wf⟩, ⟨hc 6 (by decide) (by decide), hc 8 (by decide) (by decide), ⟨0, by decide, hc 9 (by decide) (by decide), rfl⟩, hc 10 (by decide) (by decide), hc 11 (by decide) (by decide), hc 12 (by decide) (by decide), fun k x hk => (by cases hk), by decide, wl⟩, ⟨x 0 (by decide), x 2 (by decide), fun w l _ hl => absurd hl (Nat.not_lt_zero _), fun k hk => absurd hk (Nat.not_lt_zero _), wf⟩, ⟨x 1 (by decide), x 3 (by decide), x 4 (by decide), x 5 (by decide), x 6 (by decide), x 7 (by decide), fun k x hk => (by cases hk), by decide, wl, fun x hx => absurd hx List.not_mem_nil, fun k hk => by simp at hk⟩, fun l hl => absurd hl (Nat.not_lt_zero _), fun k hk => absurd hk (Nat.not_lt_zero _), fun w l hw _ h => hx _ (by omega) (by omega), h8, hx _ (by omega) (by omega), hc 9 (by decide) (by decide)⟩
end GD
