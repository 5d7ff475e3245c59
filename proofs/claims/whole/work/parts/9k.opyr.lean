/-! ===== TEXTS: years, the op ===== -/
def PYr : Nat → Nat → Nat → Prop := fun k m j => PS k m j ∨ YFb k m j ∨ YXb k m j ∨ (k = 13 ∧ m = 0) ∨ (k = 8 ∧ m = 0 ∧ 1 ≤ j ∧ j ≤ 3) ∨ (k = 13 ∧ m = 34 ∧ 132 ≤ j ∧ j < 410)
section OY
variable {σ : SS} {n nk i c : Nat} {s p o : Int32} {nu : Nat → Nat → Nat} {lo : Nat → Nat} {L : List X3}
/-- years of drawer 0 alone are new -/
theorem BlR.yrs {τ : SS} (h : BlR 0 0 σ n nk nu lo i c s p o L) (hE : Eqo PYr σ τ) (hY : YrB 0 0 n τ) : BlR 0 0 τ n nk nu lo i c s p o L := by
  obtain ⟨h1, h2, h3, h4, h5, h6, h7⟩ := h
  have h8 := h1.n8
  have hk := h1.k3
  have e : ∀ j, j < 132 → (shb 0 τ).1 13 34 j = (shb 0 σ).1 13 34 j := fun j hj => by
    rw [shb_at, shb_at]
    exact hE.at1 (by unfold PYr PS YFb YXb BC BX; omega)
  refine ⟨h1.keep hE (fun k m j q => by unfold PYr PS YFb YXb BC BX at q; omega), h2.keep hE (fun k m j q => by unfold PYr PS YFb YXb BC BX at q; omega), h3.of e, h4.of e, hY, fun l hl => ?_, fun k hkk => ?_⟩
  · rw [hE.2 _ _ _ (by unfold PYr PS YFb YXb BC BX; omega), hE.2 14 7 _ (by unfold PYr PS YFb YXb BC BX; omega)]
    exact h6 l hl
  · rw [hE.2 _ _ _ (by unfold PYr PS YFb YXb BC BX; omega), hE.2 14 7 _ (by unfold PYr PS YFb YXb BC BX; omega)]
    exact h7 k hkk
theorem BlR.pre (h : BlR 0 0 σ n nk nu lo i c s p o L) : σ.1 0 0 5 = nI n ∧ σ.1 13 34 0 = nI n ∧ n ≤ 8 ∧ ∀ l, l < n → σ.2 14 0 l = σ.2 14 7 l := by
  obtain ⟨h1, h2, h3, h4, h5, h6, h7⟩ := h
  refine ⟨h1.ln, ?_, h1.n8, fun l hl => ?_⟩
  · have := h3.ln
    rw [shb_0] at this
    exact this
  · have := h6 l hl
    rw [Nat.mul_zero, Nat.zero_add] at this
    exact this
theorem yr_class {B : Nat → Nat} {T N : Nat} (h : BlR 0 0 σ n nk nu lo i c s p o L) (hB : TpB B T σ σ) (hN : N ≤ T) (h300 : N ≤ 300) : ∃ (g : Int32) (σ2 : SS), X11_years σ (nI N) = X11_years_j72 σ2 (if g = 0 then 10 else 0) ∧ Eqo (fun k m j => PS k m j ∨ YFb k m j) σ σ2 ∧ σ2.1 4 0 1 = 0 ∧ ∀ σF, Eqo (fun k m j => PS k m j ∨ (k = 13 ∧ m = 0) ∨ (k = 8 ∧ m = 0)) σ2 σF → ∃ υ2, X12_years σF (nI N) = X12_years_j50 υ2 ∧ ((g = 1 ∧ υ2.1 11 0 12 = 0 ∧ σ2.1 4 0 7 = 0 ∧ σ2.1 4 0 8 = -1 ∧ σ2.1 8 1 1 = 1 ∧ ∃ s l, s ≤ 30 ∧ l ≤ 60 ∧ σ2.1 8 1 2 = nI l ∧ σ2.1 8 1 3 = nI s ∧ υ2.1 11 0 24 = nI s ∧ BkE n σ2 υ2 3 0 s 0 l) ∨ (g = 0 ∧ Flt σ2 υ2)) ∧ υ2.1 11 0 8 = 0 ∧ Eqo YXb (xb σF) υ2 := by
  have h900 := hB.1
  have h41 := hB.2.1
  obtain ⟨p5, p0, pn, pN⟩ := h.pre
  have ha := (ps1 σ 0)
  have hBa : TpB B T (wI σ 10 0 11 0) (wI σ 10 0 11 0) := by
    have := hB.keep ha (fun k m j q => by unfold PS at q; omega)
    exact ⟨this.1, (ha.at1 (by unfold PS; omega)).trans this.2.1, this.2.2.1, fun j hj => ⟨(this.2.2.2 j hj).1, (ha.at1 (by unfold PS; omega)).trans (this.2.2.2 j hj).2.1, (this.2.2.2 j hj).2.2⟩⟩
  have a5 : (wI σ 10 0 11 0).1 0 0 5 = nI n := (ha.at1 (by unfold PS; omega)).trans p5
  have a0 : (wI σ 10 0 11 0).1 13 34 0 = nI n := (ha.at1 (by unfold PS; omega)).trans p0
  obtain ⟨σ1, g, σ2, -, -, e1, e2, -, -, -, y1, -, E2, -⟩ := joint_years hBa hN h300 a5 a0 pn pN
  refine ⟨g, σ2, ?_, (ha.mono (fun _ _ _ q => .inl q)).tr (E2.mono (fun _ _ _ q => .inr q)), y1, fun σF hE => ?_⟩
  · unfold X11_years X11_years_j0 X5_fed X5_fed_j0 X11_years_j28
    rw [if_neg (nI_pos (by omega)), Option.bind_some, h41, if_neg (nI_nlt hN (by omega)), if_pos (show nI N ≤ 300 from nI_le (b := 300) h300 (by decide)), answers0, Option.bind_some, if_neg neg1_0, e1, Option.bind_some, e2, Option.bind_some]
  · have EF : Eqo (fun k m j => PS k m j ∨ YFb k m j ∨ (k = 13 ∧ m = 0) ∨ (k = 8 ∧ m = 0)) (wI σ 10 0 11 0) (xb σF) := ((E2.mono (fun _ _ _ q => .inr (.inl q))).tr (hE.mono (fun _ _ _ q => by
      rcases q with q | q
      · exact .inl q
      · exact .inr (.inr q)))).tr ((xb_ps σF).mono (fun _ _ _ q => .inl q))
    have hBF : TpB B T (wI σ 10 0 11 0) (xb σF) := hBa.keep EF (fun k m j q => by unfold PS YFb BC at q; omega)
    obtain ⟨σ1', g', σ2', υ1, υ2, k1, k2, k3, k4, k5, k6, k7, k8, k9⟩ := joint_years hBF hN h300 a5 ((EF.at1 (by unfold PS YFb BC; omega)).trans a0) pn (fun l hl => by rw [EF.2 14 7 _ (by unfold PS YFb BC; omega)]; exact pN l hl)
    have q1 : σ1' = σ1 := Option.some.inj (k1.symm.trans e1)
    subst q1
    have q2 := Option.some.inj (k2.symm.trans e2)
    have q3 : g' = g := congrArg Prod.fst q2
    have q4 : σ2' = σ2 := congrArg Prod.snd q2
    subst q3
    subst q4
    refine ⟨υ2, ?_, k5, k7, k9⟩
    show X12_years_j0 σF (nI N) = _
    unfold X12_years_j0
    rw [Option.bind_some, Option.bind_some]
    show ((X12_starts (xb σF) (nI N) 300).bind _) = _
    rw [k3, Option.bind_some, if_neg neg1_0, Option.bind_some, k4]
theorem yr_refuse (a : Int32) (h : BlR 0 0 σ n nk nu lo i c s p o L) (hT : TpR σ) (hF : FtR σ) {T : Nat} (h41 : σ.1 4 0 1 = nI T) (h118 : σ.1 11 0 8 = nI T) (q : a < 0 ∨ (¬ a < 0 ∧ nI T < a) ∨ (¬ a < 0 ∧ ¬ nI T < a ∧ ¬ a ≤ 300)) : OR3 PYr σ (fun σ => X11_years σ a) (fun σ => X12_years σ a) (fun τ => BlR 0 0 τ n nk nu lo i c s p o L ∧ TpR τ ∧ FtR τ) := by
  have hPS : ∀ k n j, PS k n j → PYr k n j := fun _ _ _ q => .inl q
  refine refP (fun τ hE => ⟨h.keep hE (fun k m j q => by unfold PS at q; unfold PC; omega), hT.keep hE (fun k m j q => by unfold PS at q; unfold TpC; omega), ?_⟩) hPS 5 (-1) ?_ ?_
  · unfold FtR
    rw [hE.at1 (by unfold PS; omega), hE.at1 (by unfold PS; omega), hE.at1 (by unfold PS; omega), hE.at1 (by unfold PS; omega)]
    exact hF
  · have e5 : X11_years_j28 σ a 5 = some (-1, wI σ 10 0 11 5) := by
      unfold X11_years_j28
      rw [answersN _ (by decide), Option.bind_some, if_pos rfl]
    show X11_years_j0 σ a = _
    unfold X11_years_j0 X11_years_j23 X5_fed X5_fed_j0
    rw [Option.bind_some, h41, e5]
    rcases q with q | ⟨q, q2⟩ | ⟨q, q2, q3⟩
    · rw [if_pos q]
    · rw [if_neg q, if_pos q2]
    · rw [if_neg q, if_neg q2, if_neg q3]
  · show X12_years_j0 (wI σ 10 0 11 5) a = _
    have e17 : X12_starts_j17 (s0 σ 5) = some (0, wI (s0 σ 5) 11 0 0 5) := by
      unfold X12_starts_j17
      rw [no_eq, Option.bind_some]
      rfl
    have g8 : (s0 σ 5).1 11 0 8 = nI T := ((s0_ps σ 5).at1 (by unfold PS; omega)).trans h118
    have est : X12_starts (s0 σ 5) a 300 = some (0, wI (s0 σ 5) 11 0 0 5) := by
      unfold X12_starts X12_starts_j0
      rw [g8, e17]
      rcases q with q | ⟨q, q2⟩ | ⟨q, q2, q3⟩
      · rw [if_pos q]
      · rw [if_neg q, if_pos q2]
      · rw [if_neg q, if_neg q2, if_neg q3]
    unfold X12_years_j0
    rw [Option.bind_some, Option.bind_some]
    show ((X12_starts (s0 σ 5) a 300).bind _) = _
    rw [est, Option.bind_some, if_pos rfl]
theorem yr_flt {a : Int32} {σ2 υ2 : SS} (h : BlR 0 0 σ n nk nu lo i c s p o L) (eC : X11_years σ a = X11_years_j72 σ2 10) (E2 : Eqo (fun k m j => PS k m j ∨ YFb k m j) σ σ2) (y1 : σ2.1 4 0 1 = 0) (eX : X12_years (wI σ2 10 0 11 10) a = X12_years_j50 υ2) (hFl : Flt σ2 υ2) (y8 : υ2.1 11 0 8 = 0) (k6 : Eqo YXb (xb (wI σ2 10 0 11 10)) υ2) : OR3 PYr σ (fun σ => X11_years σ a) (fun σ => X12_years σ a) (fun τ => BlR 0 0 τ n nk nu lo i c s p o L ∧ TpR τ ∧ FtR τ) := by
  obtain ⟨τ, f, w1, w2, w3, w4, w5, w6⟩ := isWell_flt hFl
  have y : ∀ j, τ.1 4 0 j = σ2.1 4 0 j := fun j => by
    rw [w6.at1 (by omega), k6.at1 (by unfold YXb BX; omega), xb_ne _ (by decide), wI_ne _ _ (by omega)]
  have E4 : Eqo (fun k m j => PS k m j ∨ YFb k m j ∨ YXb k m j) σ τ := ((E2.mono (fun _ _ _ q => by
    rcases q with q | q
    · exact .inl q
    · exact .inr (.inl q))).tr (((ps1 σ2 10).tr (xb_ps _)).mono (fun _ _ _ q => .inl q))).tr ((k6.mono (fun _ _ _ q => .inr (.inr q))).tr (w6.mono (fun k m j q => by
    by_cases z : j = 0
    · exact .inl (by unfold PS; omega)
    · exact .inr (.inr (.inl (by unfold BX; omega))))))
  refine ⟨-1, wI σ2 10 0 11 10, τ, ?_, ?_, ?_, E4.mono (fun k m j q => ?_), ?_, ?_, ?_⟩
  · show X11_years σ a = _
    rw [eC]
    unfold X11_years_j72
    rw [answersN _ (by decide), Option.bind_some, if_pos rfl]
  · show X12_years (wI σ2 10 0 11 10) a = _
    rw [eX]
    unfold X12_years_j50
    rw [w1, Option.bind_some, if_pos rfl]
  · unfold St
    rw [w6.at1 (by omega), k6.at1 (by unfold YXb BX; omega), xb_ne _ (by decide), wI_eq, w5]
  · rcases q with q | q | q
    · exact .inl q
    · exact .inr (.inl q)
    · exact .inr (.inr (.inl q))
  · refine h.keep E4 (fun k m j q => by unfold PS YFb YXb BC BX at q; unfold PC; omega)
  · exact TpR.done ((y 1).trans y1) (by rw [w6.at1 (by omega)]; exact y8)
  · exact ⟨by rw [y 7, w2, w3], by rw [y 8, w4]⟩
/-- the class takes them over -/
theorem ytake_ok {σ : SS} {b : Int32} (h1 : σ.1 8 1 1 = 1) : ∃ τ, X9_takeOver σ 0 1 = some τ ∧ (∀ j, j < 240 → τ.1 13 0 j = σ.1 13 4 j) ∧ τ.1 8 0 1 = 1 ∧ τ.1 8 0 2 = σ.1 8 1 2 ∧ τ.1 8 0 3 = σ.1 8 1 3 ∧ Eqo (fun k m j => (k = 13 ∧ m = 0) ∨ (k = 8 ∧ m = 0 ∧ 1 ≤ j ∧ j ≤ 3)) σ τ := by
  obtain ⟨τ, e, t2, t1, tc⟩ := ttake (σ := σ) (t := 4 * 0) (r := 4 * 1) (N := 240) (LN_d 0 (by decide)).1 (LN_d 1 (by decide)).1 (by decide) (by decide)
  have g : ∀ j, τ.1 8 1 j = σ.1 8 1 j := fun j => t1 8 1 j (by omega)
  have hE : Eqo (fun k m j => (k = 13 ∧ m = 0) ∨ (k = 8 ∧ m = 0 ∧ 1 ≤ j ∧ j ≤ 3)) σ τ := ⟨fun k m j q => t1 k m j (by omega), fun k m j q => by rw [t2]⟩
  refine ⟨wI (wI (wI τ 8 0 1 (σ.1 8 1 1)) 8 0 2 (σ.1 8 1 2)) 8 0 3 (σ.1 8 1 3), ?_, fun j hj => ?_, ?_, ?_, ?_, ((hE.tr (Eqo.wI (by omega))).tr (Eqo.wI (by omega))).tr (Eqo.wI (by omega))⟩
  · unfold X9_takeOver X9_takeOver_j0
    rw [e, Option.bind_some, g, h1, zb_1, Option.bind_some, Option.bind_some, wI_ne _ _ (by omega), g, Option.bind_some, wI_ne _ _ (by omega), wI_ne _ _ (by omega), g, Option.bind_some]
  · rw [wI_ne _ _ (by omega), wI_ne _ _ (by omega), wI_ne _ _ (by omega)]
    exact tc j hj
  · rw [wI_ne _ _ (by omega), wI_ne _ _ (by omega), wI_eq]; exact h1
  · rw [wI_ne _ _ (by omega), wI_eq]
  · rw [wI_eq]
/-- the reference copies them -/
theorem xcopyY_ok (υ : SS) {s : Nat} (hs : s ≤ 30) (h24 : υ.1 11 0 24 = nI s) : ∃ τ, X12_years_l82 υ 0 = some (nI s, τ) ∧ (∀ j, j < 9 * s → τ.1 13 34 (134 + j) = υ.1 13 34 (1774 + j)) ∧ Eqo (fun k m j => k = 13 ∧ m = 34 ∧ 134 ≤ j ∧ j < 404) υ τ := by
  obtain ⟨-, w, e, h1, h2⟩ := loopI (f := X12_years_l82b) (s := (0, υ)) (9 * s) (fun k (_ : Unit) (w : SS) => ((nI k, w) : Int32 × SS)) (fun _ w => w) (fun k _ w => (∀ j, j < k → w.1 13 34 (134 + j) = υ.1 13 34 (1774 + j)) ∧ Eqo (fun k m j => k = 13 ∧ m = 34 ∧ 134 ≤ j ∧ j < 404) υ w) () υ rfl ⟨fun j hj => absurd hj (Nat.not_lt_zero _), Eqo.rf _ _⟩ (by omega) (fun k u w hk hI => by
    obtain ⟨h1, h2⟩ := hI
    have w24 : w.1 11 0 24 = nI s := (h2.at1 (by omega)).trans h24
    have e9 : (9 : Int32) * nI s = nI (9 * s) := by
      show nI 9 * nI s = _
      rw [pk_mul]
    show ∃ b' w', X12_years_l82c w (nI k) = _ ∧ _
    unfold X12_years_l82c
    rw [w24, e9, if_neg (nI_ge hk (by omega)), show ck (LN 13 34) (1774 + nI k) = some (1774 + k) from ck16n (off := 1774) (by omega), Option.bind_some, show ck (LN 13 34) (134 + nI k) = some (134 + k) from ck16n (off := 134) (by omega), Option.bind_some, Option.bind_some, nI_1, Option.bind_some]
    refine ⟨(), _, rfl, fun j hj => ?_, h2.tr (Eqo.wI (by omega))⟩
    by_cases ej : j = k
    · subst ej
      rw [wI_eq]
      exact h2.at1 (by omega)
    · rw [wI_ne _ _ (by omega)]
      exact h1 j (by omega)) (fun u w hI => by
    obtain ⟨h1, h2⟩ := hI
    have w24 : w.1 11 0 24 = nI s := (h2.at1 (by omega)).trans h24
    have e9 : (9 : Int32) * nI s = nI (9 * s) := by
      show nI 9 * nI s = _
      rw [pk_mul]
    show X12_years_l82c w (nI (9 * s)) = _
    unfold X12_years_l82c
    rw [w24, e9, if_pos (nI_le (Nat.le_refl _) (by omega))])
  refine ⟨w, ?_, h1, h2⟩
  unfold X12_years_l82
  rw [e, Option.bind_some, h2.at1 (by omega), h24]
theorem yr_good {a : Int32} {σ2 τ υ2 : SS} {s2 l2 : Nat} (h : BlR 0 0 σ n nk nu lo i c s p o L) (eC : X11_years σ a = X11_years_j72 σ2 0) (E2 : Eqo (fun k m j => PS k m j ∨ YFb k m j) σ σ2) (y1 : σ2.1 4 0 1 = 0) (t1 : X9_takeOver (wI σ2 10 0 11 0) 0 1 = some τ) (tc : ∀ j, j < 240 → τ.1 13 0 j = σ2.1 13 4 j) (ta : τ.1 8 0 1 = 1) (tb : τ.1 8 0 2 = nI l2) (td : τ.1 8 0 3 = nI s2) (t3 : Eqo (fun k m j => (k = 13 ∧ m = 0) ∨ (k = 8 ∧ m = 0 ∧ 1 ≤ j ∧ j ≤ 3)) (wI σ2 10 0 11 0) τ) (eX : X12_years τ a = X12_years_j50 υ2) (x12 : υ2.1 11 0 12 = 0) (f7 : σ2.1 4 0 7 = 0) (f8 : σ2.1 4 0 8 = -1) (hs : s2 ≤ 30) (hl : l2 ≤ 60) (x24 : υ2.1 11 0 24 = nI s2) (hK : BkE n σ2 υ2 3 0 s2 0 l2) (y8 : υ2.1 11 0 8 = 0) (k6 : Eqo YXb (xb τ) υ2) : OR3 PYr σ (fun σ => X11_years σ a) (fun σ => X12_years σ a) (fun τ => BlR 0 0 τ n nk nu lo i c s p o L ∧ TpR τ ∧ FtR τ) := by
  have Eτ : Eqo (fun k m j => PS k m j ∨ (k = 13 ∧ m = 0) ∨ (k = 8 ∧ m = 0 ∧ 1 ≤ j ∧ j ≤ 3)) σ2 τ := ((ps1 σ2 0).mono (fun _ _ _ q => .inl q)).tr (t3.mono (fun _ _ _ q => .inr q))
  have E6 : Eqo (fun k m j => PS k m j ∨ YXb k m j) τ υ2 := ((xb_ps τ).mono (fun _ _ _ q => .inl q)).tr (k6.mono (fun _ _ _ q => .inr q))
  -- the reference's last rows
  have E7 : Eqo (fun k m j => (k = 11 ∧ m = 0 ∧ (j = 10 ∨ j = 11)) ∨ (k = 13 ∧ m = 34 ∧ (j = 132 ∨ j = 133))) υ2 (wI (wI (wI (wI υ2 11 0 10 0) 11 0 11 (-1)) 13 34 132 1) 13 34 133 (nI s2)) := (((Eqo.wI (by omega)).tr (Eqo.wI (by omega))).tr (Eqo.wI (by omega))).tr (Eqo.wI (by omega))
  have v10 : (wI (wI (wI (wI υ2 11 0 10 0) 11 0 11 (-1)) 13 34 132 1) 13 34 133 (nI s2)).1 11 0 10 = 0 := by rw [wI_ne _ _ (by omega), wI_ne _ _ (by omega), wI_ne _ _ (by omega), wI_eq]
  have v11 : (wI (wI (wI (wI υ2 11 0 10 0) 11 0 11 (-1)) 13 34 132 1) 13 34 133 (nI s2)).1 11 0 11 = -1 := by rw [wI_ne _ _ (by omega), wI_ne _ _ (by omega), wI_eq]
  have v132 : (wI (wI (wI (wI υ2 11 0 10 0) 11 0 11 (-1)) 13 34 132 1) 13 34 133 (nI s2)).1 13 34 132 = 1 := by rw [wI_ne _ _ (by omega), wI_eq]
  have v133 : (wI (wI (wI (wI υ2 11 0 10 0) 11 0 11 (-1)) 13 34 132 1) 13 34 133 (nI s2)).1 13 34 133 = nI s2 := wI_eq _ _ _ _ _
  have v24 : (wI (wI (wI (wI υ2 11 0 10 0) 11 0 11 (-1)) 13 34 132 1) 13 34 133 (nI s2)).1 11 0 24 = nI s2 := (E7.at1 (by omega)).trans x24
  have w24 : (wI (wI (wI υ2 11 0 10 0) 11 0 11 (-1)) 13 34 132 1).1 11 0 24 = nI s2 := by rw [wI_ne _ _ (by omega), wI_ne _ _ (by omega), wI_ne _ _ (by omega)]; exact x24
  have eX2 : X12_years τ a = X12_years_l82 (wI (wI (wI (wI υ2 11 0 10 0) 11 0 11 (-1)) 13 34 132 1) 13 34 133 (nI s2)) 0 := by
    rw [eX]
    unfold X12_years_j50
    rw [isWell_good x12, Option.bind_some, if_neg neg1_0, show ck (LN 13 34) 132 = some 132 from ckc (j := 132) (by decide), Option.bind_some, Option.bind_some, show ck (LN 13 34) 133 = some 133 from ckc (j := 133) (by decide), Option.bind_some, w24, Option.bind_some]
  generalize wI (wI (wI (wI υ2 11 0 10 0) 11 0 11 (-1)) 13 34 132 1) 13 34 133 (nI s2) = υ3 at *
  obtain ⟨ω, m0, m1, E8⟩ := xcopyY_ok υ3 hs v24
  have E28 : Eqo (fun k m j => PS k m j ∨ YXb k m j ∨ (k = 13 ∧ m = 0) ∨ (k = 8 ∧ m = 0 ∧ 1 ≤ j ∧ j ≤ 3) ∨ (k = 13 ∧ m = 34 ∧ 132 ≤ j ∧ j < 410)) σ2 ω := (((Eτ.mono (fun k m j q => by
    rcases q with q | q | q
    · exact .inl q
    · exact .inr (.inr (.inl q))
    · exact .inr (.inr (.inr (.inl q))))).tr (E6.mono (fun k m j q => by
    rcases q with q | q
    · exact .inl q
    · exact .inr (.inl q)))).tr (E7.mono (fun k m j q => by
    rcases q with q | q
    · exact .inr (.inl (.inl (by unfold BX; omega)))
    · exact .inr (.inr (.inr (.inr (by omega))))))).tr (E8.mono (fun k m j q => .inr (.inr (.inr (.inr (by omega))))))
  have EE : Eqo PYr σ ω := (E2.mono (fun k m j q => by
    rcases q with q | q
    · exact .inl q
    · exact .inr (.inl q))).tr (E28.mono (fun k m j q => by
    rcases q with q | q | q
    · exact .inl q
    · exact .inr (.inr (.inl q))
    · exact .inr (.inr (.inr q))))
  have Eω : ∀ k m j, (k = 13 ∧ m = 0) ∨ k = 8 → ω.1 k m j = τ.1 k m j := fun k m j hk => by
    rw [E8.at1 (by omega), E7.at1 (by omega), E6.at1 (by unfold PS YXb BX; omega)]
  have y : ∀ j, ω.1 4 0 j = σ2.1 4 0 j := fun j => E28.at1 (by unfold PS YXb BX; omega)
  refine ⟨nI s2, τ, ω, ?_, ?_, ?_, EE, h.yrs EE (.inr ⟨?_, ?_, s2, l2, ?_⟩), ?_, ?_⟩
  · show X11_years σ a = _
    rw [eC]
    unfold X11_years_j72 X9_stepCount X9_stepCount_j0
    rw [answers0, Option.bind_some, if_neg neg1_0, t1, Option.bind_some, Option.bind_some, td]
  · show X12_years τ a = _
    rw [eX2, m0]
  · unfold St
    rw [E8.at1 (by omega), E8.at1 (by omega), E7.at1 (by omega), E7.at1 (by omega), k6.at1 (by unfold YXb BX; omega), k6.at1 (by unfold YXb BX; omega)]
    exact xb_st (by rw [t3.at1 (by omega), wI_eq])
  · rw [Eω _ _ _ (.inr rfl)]; exact ta
  · show ω.1 13 34 132 = 1
    rw [E8.at1 (by omega)]; exact v132
  · obtain ⟨K, hK⟩ := hK
    refine ⟨K, hs, hl, ?_, ?_, ?_⟩
    · rw [Eω _ _ _ (.inr rfl)]; exact tb
    · rw [shb_0, E8.at1 (by omega)]; exact v133
    · refine Bk.own K 3 0 s2 0 l2 (fun j _ _ hj => ?_) (fun j h1 h2 => ?_) hl hK
      · show ω.1 13 0 j = σ2.1 13 4 j
        rw [Eω _ _ _ (.inl ⟨rfl, rfl⟩)]
        exact tc j hj
      · show (shb 0 ω).1 13 34 j = υ2.1 13 34 (1640 + j)
        have := m1 (j - 134) (by omega)
        rw [show 134 + (j - 134) = j by omega, show 1774 + (j - 134) = 1640 + j by omega] at this
        rw [shb_0, this]
        exact E7.at1 (by omega)
  · exact TpR.done ((y 1).trans y1) (by rw [E8.at1 (by omega), E7.at1 (by omega)]; exact y8)
  · exact ⟨by rw [y 7, f7, E8.at1 (by omega), v10], by rw [y 8, f8, E8.at1 (by omega), v11]⟩
theorem op_years (a : Int32) (h : BlR 0 0 σ n nk nu lo i c s p o L) (hT : TpR σ) (hF : FtR σ) : OR3 PYr σ (fun σ => X11_years σ a) (fun σ => X12_years σ a) (fun τ => BlR 0 0 τ n nk nu lo i c s p o L ∧ TpR τ ∧ FtR τ) := by
  obtain ⟨B, T, hB⟩ := hT.bytes
  have h900 := hB.1
  rcases i32_or T (by omega) a with ⟨N, hN, rfl⟩ | q | q
  rotate_left
  · exact yr_refuse a h hT hF hB.2.1 hB.2.2.1 (.inl q)
  · exact yr_refuse a h hT hF hB.2.1 hB.2.2.1 (.inr (.inl q))
  by_cases h300 : N ≤ 300
  rotate_left
  · exact yr_refuse (nI N) h hT hF hB.2.1 hB.2.2.1 (.inr (.inr ⟨nI_pos (by omega), nI_nlt hN (by omega), show ¬ nI N ≤ 300 from nI_ge (a := 300) (by omega) (by omega)⟩))
  obtain ⟨g, σ2, eC, E2, y1, ref⟩ := yr_class h hB hN h300
  by_cases hg : g = 0
  · obtain ⟨υ2, k2, k3, k5, k6⟩ := ref (wI σ2 10 0 11 10) ((ps1 σ2 10).mono (fun _ _ _ q => .inl q))
    rw [if_pos hg] at eC
    exact yr_flt h eC E2 y1 k2 (k3.resolve_left (fun z => neg1_0 (z.1.symm.trans hg))).2 k5 k6
  · obtain ⟨υ0, -, k0, -⟩ := ref σ2 (Eqo.rf _ _)
    obtain ⟨hg1, -, f7, f8, h81, s2, l2, hs, hl, b2, b3, -⟩ := k0.resolve_right (fun z => hg z.1)
    rw [if_neg hg] at eC
    have w8 : ∀ m j, (wI σ2 10 0 11 0).1 8 m j = σ2.1 8 m j := fun m j => wI_ne _ _ (by omega)
    obtain ⟨τ, t1, tc, ta, tb, td, t3⟩ := ytake_ok (σ := wI σ2 10 0 11 0) (b := 0) (by rw [w8]; exact h81)
    obtain ⟨υ2, k2, k3, k5, k6⟩ := ref τ (((ps1 σ2 0).mono (fun _ _ _ q => .inl q)).tr (t3.mono (fun k m j q => .inr (by omega))))
    obtain ⟨-, x12, -, -, -, s3, l3, hs3, hl3, b23, b33, x24, hK⟩ := k3.resolve_right (fun z => hg z.1)
    rw [w8] at tb td
    exact yr_good h eC E2 y1 t1 (fun j hj => by rw [tc j hj, wI_ne _ _ (by omega)]) ta (tb.trans b23) (td.trans b33) t3 k2 x12 f7 f8 hs3 hl3 x24 hK k5 k6
end OY
