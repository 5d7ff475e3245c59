/-! ===== TEXTS: drawer, the op ===== -/
def CFb : Nat → Nat → Nat → Prop := fun k n j => BC k n j ∨ DC 1 k n j
def XFb : Nat → Nat → Nat → Prop := fun k n j => BX k n j ∨ PC 4 k n j
theorem CF_b {σ τ : SS} (h : Eqo CF σ τ) : Eqo CFb σ τ := h.mono (fun k m j q => by
  rcases q with q | q
  · exact .inl (by unfold NCf NC at q; unfold BC; omega)
  · exact .inr q)
theorem XF_b {σ τ : SS} (h : Eqo XF σ τ) : Eqo XFb σ τ := h.mono (fun k m j q => by
  rcases q with q | q
  · exact .inl (by unfold NXf NX at q; unfold BX; omega)
  · exact .inr q)
/-- both tapes hold T bytes -/
def TpB (B : Nat → Nat) (T : Nat) (σ υ : SS) : Prop := T ≤ 900 ∧ σ.1 4 0 1 = nI T ∧ υ.1 11 0 8 = nI T ∧ ∀ j, j < T → B j < 256 ∧ σ.1 13 31 j = nI (B j) ∧ (υ.1 12 0 j) &&& 255 = nI (B j)
theorem TpR.bytes {σ : SS} (h : TpR σ) : ∃ B T, TpB B T σ σ := by
  obtain ⟨T, h1, h2, h3, h4⟩ := h
  refine ⟨fun j => if q : j < T then Classical.choose (h4 j q) else 0, T, h1, h2, h3, fun j hj => ?_⟩
  have := Classical.choose_spec (h4 j hj)
  simp only [dif_pos hj]
  exact this
theorem TpB.keep {B : Nat → Nat} {T : Nat} {σ υ υ' : SS} {P : Nat → Nat → Nat → Prop} (h : TpB B T σ υ) (hE : Eqo P υ υ') (hP : ∀ k n j, P k n j → ¬ ((k = 11 ∧ n = 0 ∧ j = 8) ∨ (k = 12 ∧ n = 0))) : TpB B T σ υ' := by
  obtain ⟨h1, h2, h3, h4⟩ := h
  exact ⟨h1, h2, (hE.at1 (fun q => hP _ _ _ q (by omega))).trans h3, fun j hj => ⟨(h4 j hj).1, (h4 j hj).2.1, by rw [hE.at1 (fun q => hP _ _ _ q (by omega))]; exact (h4 j hj).2.2⟩⟩
theorem TpR.done {σ : SS} (h1 : σ.1 4 0 1 = 0) (h8 : σ.1 11 0 8 = 0) : TpR σ := ⟨0, by decide, h1, h8, fun j hj => absurd hj (Nat.not_lt_zero _)⟩
theorem i32_or (T : Nat) (hT : T < 2147483648) (a : Int32) : (∃ l, l ≤ T ∧ a = nI l) ∨ a < 0 ∨ (¬ a < 0 ∧ nI T < a) := by
  by_cases h0 : a < 0
  · exact .inr (.inl h0)
  · by_cases h1 : nI T < a
    · exact .inr (.inr ⟨h0, h1⟩)
    · left
      have g0 := Int32.not_lt.mp h0
      rw [Int32.le_iff_toInt_le, Int32.toInt_zero] at g0
      have g1 := Int32.not_lt.mp h1
      rw [Int32.le_iff_toInt_le, nI_toInt hT] at g1
      have e : a = nI a.toInt.toNat := by
        apply Int32.toInt_inj.mp
        rw [nI_toInt (by omega)]
        omega
      exact ⟨a.toInt.toNat, by omega, e⟩
section JD
variable {σ υ : SS} {B : Nat → Nat} {T N : Nat}
theorem joint_drawer (hT : TpB B T σ υ) (hN : N ≤ T) : ∃ σ1 g σ2 υ1 υ2, X5_begin σ (nI N) = some σ1 ∧ X1_isGood σ1 1 = some (g, σ2) ∧ X12_starts υ (nI N) 900 = some (1, υ1) ∧ X12_drawer_l25 υ1 0 = X12_drawer_j122 υ2 ∧ ((g = 1 ∧ υ2.1 11 0 12 = 0 ∧ σ2.1 4 0 7 = 0 ∧ σ2.1 4 0 8 = -1 ∧ ∃ n nk nu lo c L, DT n nk nu lo c L σ2 υ2) ∨ (g = 0 ∧ Flt σ2 υ2)) ∧ σ2.1 4 0 1 = 0 ∧ υ2.1 11 0 8 = 0 ∧ Eqo CFb σ σ2 ∧ Eqo XFb υ υ2 := by
  obtain ⟨h9, h1, h8, hB⟩ := hT
  obtain ⟨σ1, υ1, a, e1, e2, hTK, x12, y1, y8, E1, F1⟩ := begin_ok h9 hN h1 h8 hB (most := 900) (nI_le (b := 900) (by omega) (by decide))
  obtain ⟨τ, c1, c2, c3, E2⟩ := clear_ok σ1
  obtain ⟨w, z1, z2, F2⟩ := xzero_ok υ1
  have hD := DT.none c2 c3 z2
  have hG : Gon B N τ w := (hTK.gon x12).dx E2 F2
  obtain ⟨g, σ2, υ2, k1, k2, k3, k4, k5⟩ := read_loop 35 0 0 _ _ _ [] τ w rfl hG hD NF NF (by unfold NF; omega) (by unfold NF; omega)
  have k1' : iter (X1_isGood_l8b 1) NF (1, 0, τ) = some (g, σ2) := k1
  refine ⟨σ1, g, σ2, υ1, υ2, e1, ?_, e2, ?_, ?_, ?_, ?_, ((E1.mono (fun _ _ _ q => .inl q)).tr (E2.mono (fun _ _ _ q => .inr q))).tr (CF_b k4), ((F1.mono (fun _ _ _ q => .inl q)).tr (F2.mono (fun _ _ _ q => .inr q))).tr (XF_b k5)⟩
  · unfold X1_isGood X1_isGood_j0 X1_isGood_l8
    rw [c1, Option.bind_some, k1', Option.bind_some]
    rcases k3 with ⟨rfl, -⟩ | ⟨rfl, -⟩ <;> rfl
  · unfold X12_drawer_l25 X12_drawer_l49
    rw [z1, Option.bind_some, k2, Option.bind_some]
  · rcases k3 with ⟨z, ⟨⟨a', t⟩, t12⟩, d⟩ | z
    · exact .inl ⟨z, t12, t.2.2.2.2.2.2.2.2.2.2.2.2.2.2.1, t.2.2.2.2.2.2.2.2.2.2.2.2.2.2.2, d⟩
    · exact .inr z
  · rw [k4.at1 (by unfold CF NCf NC DC; omega), E2.at1 (by unfold DC; omega)]; exact y1
  · rw [k5.at1 (by unfold XF NXf NX PC; omega), F2.at1 (by unfold PC; omega)]; exact y8
end JD
theorem Took.left {σ σ' τ : SS} {t f : Nat} {P : Nat → Nat → Nat → Prop} (h : Took σ τ t f) (hE : Eqo P σ σ') (hP : ∀ k m j, P k m j → ¬ ((k = 0 ∧ m = f ∧ 5 ≤ j ∧ j ≤ 12) ∨ (k = 13 ∧ 4 * f ≤ m ∧ m < 4 * f + 4) ∨ (k = 8 ∧ m = f) ∨ (k = 14 ∧ m = f))) : Took σ' τ t f := by
  obtain ⟨h1, h2, h3, h4, h5, h6, h7⟩ := h
  refine ⟨fun j a b => ?_, fun j a b => ?_, fun j a => ?_, fun j a => ?_, fun j a => ?_, fun j a => ?_, fun j a => ?_⟩
  · rw [hE.at1 (fun q => hP _ _ _ q (by omega))]; exact h1 j a b
  · rw [hE.at1 (fun q => hP _ _ _ q (by omega))]; exact h2 j a b
  · rw [hE.at1 (fun q => hP _ _ _ q (by omega))]; exact h3 j a
  · rw [hE.at1 (fun q => hP _ _ _ q (by omega))]; exact h4 j a
  · rw [hE.at1 (fun q => hP _ _ _ q (by omega))]; exact h5 j a
  · rw [hE.at1 (fun q => hP _ _ _ q (by omega))]; exact h6 j a
  · rw [hE.2 _ _ _ (fun q => hP _ _ _ q (by omega))]; exact h7 j a
/-- drawer's frame -/
def PDr : Nat → Nat → Nat → Prop := fun k n j => PS k n j ∨ BC k n j ∨ BX k n j ∨ DC 0 k n j ∨ DC 1 k n j ∨ PC 0 k n j ∨ PC 4 k n j
section OD
variable {σ : SS} {n nk i c : Nat} {s p o : Int32} {nu : Nat → Nat → Nat} {lo : Nat → Nat} {L : List X3}
/-- after a fault: the reference's last rows -/
theorem isWell_flt {σ υ : SS} (h : Flt σ υ) : ∃ τ f, X12_isWell υ = some (0, τ) ∧ σ.1 4 0 7 = nI f ∧ τ.1 11 0 10 = nI f ∧ τ.1 11 0 11 = σ.1 4 0 8 ∧ τ.1 11 0 0 = 10 ∧ Eqo (fun k n j => k = 11 ∧ n = 0 ∧ (j = 0 ∨ j = 10 ∨ j = 11)) υ τ := by
  obtain ⟨f, h1, h2, h3, h4, h5⟩ := id h
  have hp := h.pos
  refine ⟨wI (wI (wI υ 11 0 10 (nI f)) 11 0 11 (υ.1 11 0 13)) 11 0 0 10, f, ?_, h3, ?_, ?_, wI_eq _ _ _ _ _, ((Eqo.wI (by omega)).tr (Eqo.wI (by omega))).tr (Eqo.wI (by omega))⟩
  · have e1 : (wI υ 11 0 10 (υ.1 11 0 12)).1 11 0 12 = υ.1 11 0 12 := wI_ne _ _ (by omega)
    have e2 : (wI υ 11 0 10 (υ.1 11 0 12)).1 11 0 13 = υ.1 11 0 13 := wI_ne _ _ (by omega)
    have e3 : (wI (wI υ 11 0 10 (υ.1 11 0 12)) 11 0 11 (υ.1 11 0 13)).1 11 0 12 = υ.1 11 0 12 := by rw [wI_ne _ _ (by omega)]; exact e1
    unfold X12_isWell X12_isWell_j0 X12_isWell_j24
    rw [Option.bind_some, e1, if_neg hp.2.2, e2, Option.bind_some, e3, if_neg hp.2.2, no_eq, Option.bind_some, if_pos rfl, h4]
  · rw [wI_ne _ _ (by omega), wI_ne _ _ (by omega), wI_eq]
  · rw [wI_ne _ _ (by omega), wI_eq]; exact h5.symm
theorem isWell_good {υ : SS} (h : υ.1 11 0 12 = 0) : X12_isWell υ = some (1, wI (wI υ 11 0 10 0) 11 0 11 (-1)) := by
  have e1 : (wI υ 11 0 10 (υ.1 11 0 12)).1 11 0 12 = 0 := (wI_ne _ _ (by omega)).trans h
  have e3 : (wI (wI υ 11 0 10 (υ.1 11 0 12)) 11 0 11 (-1)).1 11 0 12 = 0 := by rw [wI_ne _ _ (by omega)]; exact e1
  unfold X12_isWell X12_isWell_j0 X12_isWell_j24 X12_isWell_j43
  rw [Option.bind_some, e1, if_pos rfl, Option.bind_some, e3, if_pos rfl, h]
theorem xb_ne (σ : SS) {k n j : Nat} (h : k ≠ 11) : (xb σ).1 k n j = σ.1 k n j := by
  show (wI (wI σ 11 0 1 0) 11 0 0 0).1 k n j = _
  rw [wI_ne _ _ (by omega), wI_ne _ _ (by omega)]
theorem dr_class {B : Nat → Nat} {T N : Nat} (hB : TpB B T σ σ) (hN : N ≤ T) : ∃ (g : Int32) (σ2 : SS), X11_drawer σ (nI N) = X11_drawer_j58 σ2 (if g = 0 then 10 else 0) ∧ Eqo (fun k m j => PS k m j ∨ CFb k m j) σ σ2 ∧ σ2.1 4 0 1 = 0 ∧ ∀ σF, Eqo (fun k m j => PS k m j ∨ DC 0 k m j) σ2 σF → ∃ υ2, X12_drawer σF (nI N) = X12_drawer_j122 υ2 ∧ ((g = 1 ∧ υ2.1 11 0 12 = 0 ∧ σ2.1 4 0 7 = 0 ∧ σ2.1 4 0 8 = -1 ∧ ∃ n nk nu lo c L, DT n nk nu lo c L σ2 υ2) ∨ (g = 0 ∧ Flt σ2 υ2)) ∧ υ2.1 11 0 8 = 0 ∧ Eqo XFb (xb σF) υ2 := by
  have h900 := hB.1
  have h41 := hB.2.1
  have ha := (ps1 σ 0)
  have hBa : TpB B T (wI σ 10 0 11 0) (wI σ 10 0 11 0) := by
    have := hB.keep ha (fun k m j q => by unfold PS at q; omega)
    exact ⟨this.1, (ha.at1 (by unfold PS; omega)).trans this.2.1, this.2.2.1, fun j hj => ⟨(this.2.2.2 j hj).1, (ha.at1 (by unfold PS; omega)).trans (this.2.2.2 j hj).2.1, (this.2.2.2 j hj).2.2⟩⟩
  obtain ⟨σ1, g, σ2, -, -, e1, e2, -, -, -, y1, -, E2, -⟩ := joint_drawer hBa hN
  refine ⟨g, σ2, ?_, (ha.mono (fun _ _ _ q => .inl q)).tr (E2.mono (fun _ _ _ q => .inr q)), y1, fun σF hE => ?_⟩
  · unfold X11_drawer X11_drawer_j0 X5_fed X5_fed_j0 X11_drawer_j21
    rw [if_neg (nI_pos (by omega)), Option.bind_some, h41, if_pos (nI_le hN (by omega)), answers0, Option.bind_some, if_neg neg1_0, e1, Option.bind_some, e2, Option.bind_some]
  · have hBF : TpB B T (wI σ 10 0 11 0) (xb σF) := ((hBa.keep E2 (fun k m j q => by unfold CFb BC DC at q; omega)).keep hE (fun k m j q => by unfold PS DC at q; omega)).keep (xb_ps σF) (fun k m j q => by unfold PS at q; omega)
    obtain ⟨σ1', g', σ2', υ1, υ2, k1, k2, k3, k4, k5, k6, k7, k8, k9⟩ := joint_drawer hBF hN
    have q1 : σ1' = σ1 := Option.some.inj (k1.symm.trans e1)
    subst q1
    have q2 := Option.some.inj (k2.symm.trans e2)
    have q3 : g' = g := congrArg Prod.fst q2
    have q4 : σ2' = σ2 := congrArg Prod.snd q2
    subst q3
    subst q4
    refine ⟨υ2, ?_, k5, k7, k9⟩
    show X12_drawer_j0 σF (nI N) = _
    unfold X12_drawer_j0
    rw [Option.bind_some, Option.bind_some]
    show ((X12_starts (xb σF) (nI N) 900).bind _) = _
    rw [k3, Option.bind_some, if_neg neg1_0, k4]
theorem dr_refuse (a : Int32) (h : BlR 0 0 σ n nk nu lo i c s p o L) (hT : TpR σ) (hF : FtR σ) {T : Nat} (h41 : σ.1 4 0 1 = nI T) (h118 : σ.1 11 0 8 = nI T) (q : a < 0 ∨ (¬ a < 0 ∧ nI T < a)) : OR3 PDr σ (fun σ => X11_drawer σ a) (fun σ => X12_drawer σ a) (fun τ => BlE 0 0 τ ∧ TpR τ ∧ FtR τ) := by
  have hPS : ∀ k n j, PS k n j → PDr k n j := fun _ _ _ q => .inl q
  refine refP (fun τ hE => ⟨⟨n, nk, nu, lo, i, c, s, p, o, L, h.keep hE (fun k m j q => by unfold PS at q; unfold PC; omega)⟩, hT.keep hE (fun k m j q => by unfold PS at q; unfold TpC; omega), ?_⟩) hPS 5 (-1) ?_ ?_
  · unfold FtR
    rw [hE.at1 (by unfold PS; omega), hE.at1 (by unfold PS; omega), hE.at1 (by unfold PS; omega), hE.at1 (by unfold PS; omega)]
    exact hF
  · have e5 : X11_drawer_j21 σ a 5 = some (-1, wI σ 10 0 11 5) := by
      unfold X11_drawer_j21
      rw [answersN _ (by decide), Option.bind_some, if_pos rfl]
    show X11_drawer_j0 σ a = _
    unfold X11_drawer_j0 X11_drawer_j16 X5_fed X5_fed_j0
    rw [Option.bind_some, h41, e5]
    rcases q with q | ⟨q, q2⟩
    · rw [if_pos q]
    · rw [if_neg q, if_neg (Int32.not_le.mpr q2)]
  · show X12_drawer_j0 (wI σ 10 0 11 5) a = _
    have e17 : X12_starts_j17 (s0 σ 5) = some (0, wI (s0 σ 5) 11 0 0 5) := by
      unfold X12_starts_j17
      rw [no_eq, Option.bind_some]
      rfl
    have g8 : (s0 σ 5).1 11 0 8 = nI T := ((s0_ps σ 5).at1 (by unfold PS; omega)).trans h118
    have est : X12_starts (s0 σ 5) a 900 = some (0, wI (s0 σ 5) 11 0 0 5) := by
      unfold X12_starts X12_starts_j0
      rw [g8, e17]
      rcases q with q | ⟨q, q2⟩
      · rw [if_pos q]
      · rw [if_neg q, if_pos q2]
    unfold X12_drawer_j0
    rw [Option.bind_some, Option.bind_some]
    show ((X12_starts (s0 σ 5) a 900).bind _) = _
    rw [est, Option.bind_some, if_pos rfl]
theorem dr_flt {a : Int32} {σ2 υ2 : SS} (h : BlR 0 0 σ n nk nu lo i c s p o L) (eC : X11_drawer σ a = X11_drawer_j58 σ2 10) (E2 : Eqo (fun k m j => PS k m j ∨ CFb k m j) σ σ2) (y1 : σ2.1 4 0 1 = 0) (eX : X12_drawer (wI σ2 10 0 11 10) a = X12_drawer_j122 υ2) (hFl : Flt σ2 υ2) (y8 : υ2.1 11 0 8 = 0) (k6 : Eqo XFb (xb (wI σ2 10 0 11 10)) υ2) : OR3 PDr σ (fun σ => X11_drawer σ a) (fun σ => X12_drawer σ a) (fun τ => BlE 0 0 τ ∧ TpR τ ∧ FtR τ) := by
  obtain ⟨τ, f, w1, w2, w3, w4, w5, w6⟩ := isWell_flt hFl
  have y : ∀ j, τ.1 4 0 j = σ2.1 4 0 j := fun j => by
    rw [w6.at1 (by omega), k6.at1 (by unfold XFb BX PC; omega), xb_ne _ (by decide), wI_ne _ _ (by omega)]
  have E4 : Eqo (fun k m j => PS k m j ∨ CFb k m j ∨ XFb k m j ∨ (k = 11 ∧ m = 0 ∧ (j = 10 ∨ j = 11))) σ τ := ((E2.mono (fun _ _ _ q => by
    rcases q with q | q
    · exact .inl q
    · exact .inr (.inl q))).tr (((ps1 σ2 10).tr (xb_ps _)).mono (fun _ _ _ q => .inl q))).tr ((k6.mono (fun _ _ _ q => .inr (.inr (.inl q)))).tr (w6.mono (fun k m j q => by
    by_cases z : j = 0
    · exact .inl (by unfold PS; omega)
    · exact .inr (.inr (.inr (by omega))))))
  refine ⟨-1, wI σ2 10 0 11 10, τ, ?_, ?_, ?_, E4.mono (fun k m j q => ?_), ⟨n, nk, nu, lo, i, c, s, p, o, L, ?_⟩, ?_, ?_⟩
  · show X11_drawer σ a = _
    rw [eC]
    unfold X11_drawer_j58
    rw [answersN _ (by decide), Option.bind_some, if_pos rfl]
  · show X12_drawer (wI σ2 10 0 11 10) a = _
    rw [eX]
    unfold X12_drawer_j122
    rw [w1, Option.bind_some, if_pos rfl]
  · unfold St
    rw [w6.at1 (by omega), k6.at1 (by unfold XFb BX PC; omega), xb_ne _ (by decide), wI_eq, w5]
  · rcases q with q | q | q | q
    · exact .inl q
    · rcases q with q | q
      · exact .inr (.inl q)
      · exact .inr (.inr (.inr (.inr (.inl q))))
    · rcases q with q | q
      · exact .inr (.inr (.inl q))
      · exact .inr (.inr (.inr (.inr (.inr (.inr q)))))
    · exact .inr (.inr (.inl (by unfold BX; omega)))
  · exact h.keep E4 (fun k m j q => by unfold PS CFb BC DC XFb BX PC at q; unfold PC; omega)
  · exact TpR.done ((y 1).trans y1) (by rw [w6.at1 (by omega)]; exact y8)
  · exact ⟨by rw [y 7, w2, w3], by rw [y 8, w4]⟩
/-- the block that was read, behind the class's last rows -/
theorem dr_blk {σ2 τ υ2 : SS} (hD : DT n nk nu lo c L σ2 υ2) (t2 : Took (wI σ2 10 0 11 0) τ 0 1) (t3 : Eqo (DC 0) (wI σ2 10 0 11 0) τ) (k6 : Eqo XFb (xb τ) υ2) : BlR 1 4 υ2 n nk nu lo (2 ^ n - 1) c 0 0 0 L ∧ Took υ2 υ2 0 1 ∧ Eqo (fun k m j => PS k m j ∨ DC 0 k m j ∨ XFb k m j) σ2 υ2 := by
  have E6 : Eqo (fun k m j => PS k m j ∨ XFb k m j) τ υ2 := ((xb_ps τ).mono (fun _ _ _ q => .inl q)).tr (k6.mono (fun _ _ _ q => .inr q))
  have Ea : Eqo (fun k m j => PS k m j ∨ DC 0 k m j ∨ XFb k m j) (wI σ2 10 0 11 0) υ2 := (t3.mono (fun _ _ _ q => .inr (.inl q))).tr (E6.mono (fun _ _ _ q => by
    rcases q with q | q
    · exact .inl q
    · exact .inr (.inr q)))
  have E26 : Eqo (fun k m j => PS k m j ∨ DC 0 k m j ∨ XFb k m j) σ2 υ2 := ((ps1 σ2 0).mono (fun _ _ _ q => .inl q)).tr Ea
  obtain ⟨d1, d2, d3, d4, d5, d6, -, d8, d9, -⟩ := hD
  have hn := d1.n8
  have hk := d1.k3
  refine ⟨⟨d1.keep E26 (fun k m j q => by unfold PS DC XFb BX PC at q; omega), d2.keep E26 (fun k m j q => by unfold PS DC XFb BX PC at q; omega), d3, d4, .inl ⟨?_, d9⟩, fun l hl => ?_, fun k hk => ?_⟩, (t2.left Ea (fun k m j q => by unfold PS DC XFb BX PC at q; omega)).keep E6 (fun k m j q => by unfold PS XFb BX PC at q; omega), E26⟩
  · rw [E26.at1 (by unfold PS DC XFb BX PC; omega)]; exact d8
  · rw [E26.2 _ _ _ (by unfold PS DC XFb BX PC; omega)]; exact d5 l hl
  · rw [E26.2 _ _ _ (by unfold PS DC XFb BX PC; omega), d6 k hk, show 11 * 4 + (8 + k) = 52 + k by omega]
theorem dr_good {a : Int32} {σ2 τ υ2 : SS} {n2 nk2 c2 : Nat} {nu2 : Nat → Nat → Nat} {lo2 : Nat → Nat} {L2 : List X3} (eC : X11_drawer σ a = X11_drawer_j58 σ2 0) (E2 : Eqo (fun k m j => PS k m j ∨ CFb k m j) σ σ2) (y1 : σ2.1 4 0 1 = 0) (t1 : X0_takeOver (wI σ2 10 0 11 0) 0 1 = some τ) (t2 : Took (wI σ2 10 0 11 0) τ 0 1) (t3 : Eqo (DC 0) (wI σ2 10 0 11 0) τ) (eX : X12_drawer τ a = X12_drawer_j122 υ2) (x12 : υ2.1 11 0 12 = 0) (f7 : σ2.1 4 0 7 = 0) (f8 : σ2.1 4 0 8 = -1) (hD : DT n2 nk2 nu2 lo2 c2 L2 σ2 υ2) (y8 : υ2.1 11 0 8 = 0) (k6 : Eqo XFb (xb τ) υ2) : OR3 PDr σ (fun σ => X11_drawer σ a) (fun σ => X12_drawer σ a) (fun τ => BlE 0 0 τ ∧ TpR τ ∧ FtR τ) := by
  obtain ⟨hBl, hTk, E26⟩ := dr_blk hD t2 t3 k6
  have E7 : Eqo (fun k m j => k = 11 ∧ m = 0 ∧ (j = 10 ∨ j = 11)) υ2 (wI (wI υ2 11 0 10 0) 11 0 11 (-1)) := (Eqo.wI (by omega)).tr (Eqo.wI (by omega))
  obtain ⟨ω, m0, m1, m2, E8⟩ := xcopy_ok (wI (wI υ2 11 0 10 0) 11 0 11 (-1)) (a := 4) (b := 0) (by decide) (by decide) (by decide)
  have hnew := hBl.took ((hTk.keep E7 (fun k m j q => by omega)).keep E8 (fun k m j q => by unfold PC at q; omega)) (fun j hj => by rw [m1 j hj, E7.at1 (by omega)]) (fun j hj => by rw [m2 j hj, E7.2 _ _ _ (by omega)])
  have E78 : Eqo (fun k m j => PC 0 k m j ∨ (k = 11 ∧ m = 0 ∧ (j = 10 ∨ j = 11))) υ2 ω := (E7.mono (fun _ _ _ q => .inr q)).tr (E8.mono (fun _ _ _ q => .inl q))
  have y : ∀ j, ω.1 4 0 j = σ2.1 4 0 j := fun j => by
    rw [E78.at1 (by unfold PC; omega), E26.at1 (by unfold PS DC XFb BX PC; omega)]
  have o10 : ω.1 11 0 10 = 0 := by rw [E8.at1 (by unfold PC; omega), wI_ne _ _ (by omega), wI_eq]
  have o11 : ω.1 11 0 11 = -1 := by rw [E8.at1 (by unfold PC; omega), wI_eq]
  have m0' : X12_copy (wI (wI υ2 11 0 10 0) 11 0 11 (-1)) 4 0 = some ω := m0
  refine ⟨nI n2, τ, ω, ?_, ?_, ?_, ?_, ⟨n2, nk2, nu2, lo2, _, c2, 0, 0, 0, L2, hnew⟩, ?_, ?_⟩
  · show X11_drawer σ a = _
    rw [eC]
    unfold X11_drawer_j58 X0_leadCount X0_leadCount_j0
    rw [answers0, Option.bind_some, if_neg neg1_0, t1, Option.bind_some, Option.bind_some, t2.1 5 (by decide) (by decide), wI_ne _ _ (by omega), hD.1.ln]
  · show X12_drawer τ a = _
    rw [eX]
    unfold X12_drawer_j122
    rw [isWell_good x12, Option.bind_some, if_neg neg1_0, m0', Option.bind_some, ck0, Option.bind_some]
    have := hnew.2.2.1.ln
    rw [shb_0] at this
    rw [this]
  · unfold St
    rw [E78.at1 (by unfold PC; omega), E78.at1 (by unfold PC; omega), k6.at1 (by unfold XFb BX PC; omega), k6.at1 (by unfold XFb BX PC; omega)]
    exact xb_st (by rw [t3.at1 (by unfold DC; omega), wI_eq])
  · refine ((E2.mono (fun k m j q => ?_)).tr (E26.mono (fun k m j q => ?_))).tr (E78.mono (fun k m j q => ?_))
    · rcases q with q | q
      · exact .inl q
      · rcases q with q | q
        · exact .inr (.inl q)
        · exact .inr (.inr (.inr (.inr (.inl q))))
    · rcases q with q | q | q
      · exact .inl q
      · exact .inr (.inr (.inr (.inl q)))
      · rcases q with q | q
        · exact .inr (.inr (.inl q))
        · exact .inr (.inr (.inr (.inr (.inr (.inr q)))))
    · rcases q with q | q
      · exact .inr (.inr (.inr (.inr (.inr (.inl q)))))
      · exact .inr (.inr (.inl (by unfold BX; omega)))
  · exact TpR.done ((y 1).trans y1) (by rw [E78.at1 (by unfold PC; omega)]; exact y8)
  · exact ⟨by rw [y 7, f7, o10], by rw [y 8, f8, o11]⟩
theorem op_drawer (a : Int32) (h : BlR 0 0 σ n nk nu lo i c s p o L) (hT : TpR σ) (hF : FtR σ) : OR3 PDr σ (fun σ => X11_drawer σ a) (fun σ => X12_drawer σ a) (fun τ => BlE 0 0 τ ∧ TpR τ ∧ FtR τ) := by
  obtain ⟨B, T, hB⟩ := hT.bytes
  have h900 := hB.1
  rcases i32_or T (by omega) a with ⟨N, hN, rfl⟩ | q
  rotate_left
  · exact dr_refuse a h hT hF hB.2.1 hB.2.2.1 q
  obtain ⟨g, σ2, eC, E2, y1, ref⟩ := dr_class hB hN
  by_cases hg : g = 0
  · obtain ⟨υ2, k2, k3, k5, k6⟩ := ref (wI σ2 10 0 11 10) ((ps1 σ2 10).mono (fun _ _ _ q => .inl q))
    rw [if_pos hg] at eC
    exact dr_flt h eC E2 y1 k2 (k3.resolve_left (fun z => neg1_0 (z.1.symm.trans hg))).2 k5 k6
  · obtain ⟨υ0, -, k0, -⟩ := ref σ2 (Eqo.rf _ _)
    obtain ⟨hg1, -, f7, f8, n', nk', nu', lo', c', L', hD0⟩ := k0.resolve_right (fun z => hg z.1)
    rw [if_neg hg] at eC
    obtain ⟨τ, t1, t2, t3⟩ := takeOver_ok (σ := wI σ2 10 0 11 0) (t := 0) (f := 1) (by decide) (by decide) (by decide) ⟨false, by rw [wI_ne _ _ (by omega)]; exact hD0.2.2.2.2.2.2.2.1⟩
    obtain ⟨υ2, k2, k3, k5, k6⟩ := ref τ (((ps1 σ2 0).mono (fun _ _ _ q => .inl q)).tr (t3.mono (fun _ _ _ q => .inr q)))
    obtain ⟨-, x12, -, -, n2, nk2, nu2, lo2, c2, L2, hD⟩ := k3.resolve_right (fun z => hg z.1)
    exact dr_good eC E2 y1 t1 t2 t3 k2 x12 f7 f8 hD k5 k6
end OD
