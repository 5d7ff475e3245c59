/-! ===== TEXTS: a STEP's own line ===== -/
def knd (kw kk : Nat) : Prop := ((kw = 12 ∧ kk = 0) ∨ (kw = 21 ∧ kk = 7) ∨ (kw = 14 ∧ kk = 2) ∨ (kw = 23 ∧ kk = 8) ∨ (kw = 13 ∧ kk = 1) ∨ (kw = 15 ∧ kk = 3) ∨ (kw = 17 ∧ kk = 4) ∨ (kw = 6 ∧ kk = 5)) ∨ (kw = 18 ∧ kk = 6)
def BodyY (n l s W kw kk : Nat) (σ υ : SS) : Prop := (kw ≠ 18 → LnY l s kw σ ∧ RestY n kw kk (σ.1 13 4 (60 + l)) (υ.1 13 34 (W + 1))) ∧ (kw = 18 → TstY n l s W σ υ)
theorem plain_k : ∀ k, k < 24 → ∀ σ, X10_isPlainStep σ (nI k) = some (if k = 12 ∨ k = 14 ∨ k = 23 ∨ k = 13 ∨ k = 15 ∨ k = 17 ∨ k = 6 then 1 else 0) := by
  have h : ∀ k, k < 24 → X10_isPlainStep (fun _ _ _ => 0, fun _ _ _ => 0) (nI k) = some (if k = 12 ∨ k = 14 ∨ k = 23 ∨ k = 13 ∨ k = 15 ∨ k = 17 ∨ k = 6 then 1 else 0) := by decide +kernel
  intro k hk σ
  exact h k hk
theorem plain_n (σ : SS) : X10_isPlainStep σ (-1) = some 0 := by
  have h : X10_isPlainStep (fun _ _ _ => 0, fun _ _ _ => 0) (-1) = some 0 := by decide +kernel
  exact h
theorem spF_k : ∀ k, k < 24 → spF (some k) = if k = 12 then 0 else if k = 13 then 1 else if k = 14 then 2 else if k = 15 then 3 else if k = 17 then 4 else if k = 6 then 5 else if k = 18 then 6 else if k = 21 then 7 else if k = 23 then 8 else -1 := by decide +kernel
section HD
variable {σ υ : SS} {B : Nat → Nat} {S a n l s W : Nat}
theorem BodyY.keep {σ' υ' : SS} {kw kk : Nat} (h : BodyY n l s W kw kk σ υ) (hE : Eqo NCf σ σ') (hE2 : Eqo NXf υ υ') : BodyY n l s W kw kk σ' υ' := by
  have c : ∀ j, σ'.1 13 4 j = σ.1 13 4 j := fun j => hE.at1 (by unfold NCf NC; omega)
  have d : ∀ j, σ'.1 8 1 j = σ.1 8 1 j := fun j => hE.at1 (by unfold NCf NC; omega)
  have x : ∀ j, υ'.1 13 34 j = υ.1 13 34 j := fun j => hE2.at1 (by unfold NXf NX; omega)
  unfold BodyY LnY TstY LnY at *
  simp only [c, d, x]
  exact h
theorem body_ok (h : TK B S a σ υ) (h12 : υ.1 11 0 12 = 0) (h5 : σ.1 0 0 5 = nI n) (h0 : υ.1 13 34 0 = nI n) (hn : n ≤ 8) (hN : ∀ l, l < n → σ.2 14 0 l = υ.2 14 7 l) (hl : l < 60) (h2 : σ.1 8 1 2 = nI l) (h3 : σ.1 8 1 3 = nI s) (hW0 : 600 < W) (hW : W + 9 < 2050) {kw kk : Nat} (hk : υ.1 13 34 W = nI kk) (hkw : knd kw kk) : ∃ r σ' υ', X10_stepLine_j126 σ 0 1 (nI kw) = some (r, σ') ∧ ((X12_readRest υ (nI W)).bind fun σ129 => (X12_isSign σ129 59).bind fun v136 => X12_must σ129 v136) = some υ' ∧ Out B S (BodyY n l s W kw kk) r σ' υ' ∧ Eqo (NA l) σ σ' ∧ Eqo (NW W) υ υ' := by
  have k0 : ck (LN 13 34) (nI W) = some W := ckc (by omega)
  have main : ∃ r σ' υ', X10_stepLine_j126 σ 0 1 (nI kw) = (if r = 0 then some (0, σ') else X10_stepLine_j154 σ' 0 1) ∧ X12_readRest υ (nI W) = some υ' ∧ Out B S (BodyY n l s W kw kk) r σ' υ' ∧ Eqo (NA l) σ σ' ∧ Eqo (NW W) υ υ' := by
    rcases hkw with hkw | ⟨rfl, rfl⟩
    · obtain ⟨r, σ', υ', e1, e2, e3, e4, e5⟩ := whole_ok h h12 h5 h0 hn hN hl h2 h3 hW hk hkw
      refine ⟨r, σ', υ', ?_, e2, ?_, e4, e5⟩
      · unfold X10_stepLine_j126
        rw [if_neg (show ¬ nI kw = 18 from wne (b := 18) (by omega) (by omega) (by decide)), e1, Option.bind_some]
      · rcases e3 with ⟨z1, z2, z3⟩ | z
        · exact .inl ⟨z1, z2, fun _ => z3, fun q => by omega⟩
        · exact .inr z
    · obtain ⟨r, σ', υ', e1, e2, e3, e4, e5⟩ := tst_ok h h12 h5 h0 hn hN hl h2 h3 hW0 hW
      refine ⟨r, σ', υ', ?_, ?_, ?_, e4, e5⟩
      · unfold X10_stepLine_j126
        rw [if_pos (by decide), e1, Option.bind_some]
      · unfold X12_readRest X12_readRest_j0
        rw [k0, Option.bind_some, hk, Option.bind_some, if_pos (by decide), e2, Option.bind_some]
      · rcases e3 with ⟨z1, z2, z3⟩ | z
        · exact .inl ⟨z1, z2, fun q => absurd rfl q, fun _ => z3⟩
        · exact .inr z
  obtain ⟨r, σ', υ', e1, e2, e3, e4, e5⟩ := main
  rw [e1, e2, Option.bind_some]
  rcases e3 with ⟨rfl, ⟨⟨a', g⟩, g12⟩, z⟩ | ⟨rfl, g⟩
  · obtain ⟨v, w, σ2, υ2, f1, f2, f3, f4, E, F⟩ := must_sign g g12 (s := 59) (by decide)
    have f1' : X12_isSign υ' 59 = some v := f1
    have f2' : X5_passSign σ' 59 = some (w, σ2) := f2
    refine ⟨w, σ2, υ2, ?_, ?_, ?_, e4.tr (E.mono (fun _ _ _ q => .inl q)), e5.tr (F.mono (fun _ _ _ q => .inl q))⟩
    · rw [if_neg neg1_0]
      unfold X10_stepLine_j154
      rw [f2', Option.bind_some]
      rcases f4 with ⟨rfl, -⟩ | ⟨rfl, -⟩
      · rw [if_neg neg1_0]
      · rw [if_pos rfl]
    · rw [f1', Option.bind_some, f3]
    · rcases f4 with ⟨q1, q2⟩ | q
      · exact .inl ⟨q1, q2, z.keep E F⟩
      · exact .inr q
  · obtain ⟨v, f1⟩ := isSign_any υ' 59
    refine ⟨0, σ', υ', if_pos rfl, ?_, .inr ⟨rfl, g⟩, e4, e5⟩
    rw [f1, Option.bind_some, must_no g.pos.2.1]
/-- the state between lines: q WHENs or LOOPs may still open, s STEPs, l lines -/
def YP (n q s l : Nat) (σ υ : SS) : Prop := σ.1 0 0 5 = nI n ∧ υ.1 13 34 0 = nI n ∧ n ≤ 8 ∧ (∀ l, l < n → σ.2 14 0 l = υ.2 14 7 l) ∧ σ.1 8 1 2 = nI l ∧ σ.1 8 1 3 = nI s ∧ υ.1 11 0 24 = nI s ∧ σ.1 9 0 2 = nI (3 - q) ∧ q ≤ 3 ∧ s ≤ 30 ∧ l + (3 - q) ≤ 2 * s
def YFr (l dp : Nat) : Nat → Nat → Nat → Prop := fun k m j => NCf k m j ∨ (k = 13 ∧ m = 4 ∧ l ≤ j % 60 ∧ j < 240) ∨ (k = 8 ∧ m = 1 ∧ (j = 2 ∨ j = 3)) ∨ (k = 9 ∧ m = 0 ∧ j = 2) ∨ (k = 13 ∧ m = 21 ∧ dp ≤ j)
def YXr (s : Nat) : Nat → Nat → Nat → Prop := fun k m j => NXf k m j ∨ (k = 13 ∧ m = 34 ∧ 1774 + 9 * s ≤ j ∧ j < 2050) ∨ (k = 11 ∧ m = 0 ∧ j = 24)
theorem NA_Y {τ : SS} {l' dp : Nat} (h : Eqo (NA l) σ τ) (hl : l < 60) (hll : l' ≤ l) : Eqo (YFr l' dp) σ τ := h.mono (fun k m j q => by
  rcases q with q | q
  · exact .inl q
  · unfold AS at q; unfold YFr; omega)
theorem NW_Y {τ : SS} {s' : Nat} (h : Eqo (NW (1774 + 9 * s)) υ τ) (hs : s < 30) (hss : s' ≤ s) : Eqo (YXr s') υ τ := h.mono (fun k m j q => by
  rcases q with q | q
  · exact .inl q
  · unfold YXr; omega)
theorem YF_le {τ : SS} {l' dp dp' : Nat} (h : Eqo (YFr l dp) σ τ) (h1 : l' ≤ l) (h2 : dp' ≤ dp) : Eqo (YFr l' dp') σ τ := h.mono (fun k m j q => by
  rcases q with q | q
  · exact .inl q
  · unfold YFr; omega)
theorem YX_le {τ : SS} {s' : Nat} (h : Eqo (YXr s) υ τ) (h1 : s' ≤ s) : Eqo (YXr s') υ τ := h.mono (fun k m j q => by
  rcases q with q | q
  · exact .inl q
  · unfold YXr; omega)
theorem op_at (σ : SS) {i : Nat} (hi : i < 3) : X4_at σ 21 0 (nI i) = some (σ.1 13 21 i) := by
  have := at_ok σ (t := 21) (r := 0) (c := i) (by decide) (by decide) (by rw [show TW 21 = 3 by decide]; exact hi)
  rw [Nat.zero_mul, Nat.zero_add] at this
  exact this
theorem op_put (σ : SS) {i : Nat} (hi : i < 3) (x : Int32) : X4_put σ 21 0 (nI i) x = some (wI σ 13 21 i x) := by
  have := put_ok σ (t := 21) (r := 0) (c := i) x (by decide) (by decide) (by rw [show TW 21 = 3 by decide]; exact hi)
  rw [Nat.zero_mul, Nat.zero_add] at this
  exact this
/-- is it a word that opens? -/
def blk (kw : Nat) : Bool := kw == 18 || kw == 21
/-- a STEP's line, up to its sign -/
theorem head_ok {q : Nat} (h : TK B S a σ υ) (h12 : υ.1 11 0 12 = 0) (hY : YP n q s l σ υ) {kw kk : Nat} (hw : wid B S a = some kw) (hkw : knd kw kk) (hs : s < 30) (hb : blk kw = true → 0 < q) : ∃ r σ' υ', X10_stepLine σ 0 1 = some (r, σ') ∧ X12_readStepN (q + 2) υ (nI (3 - q)) = X12_readStep_l142 (X12_readStepN (q + 1)) υ' (nI (3 - q)) (if blk kw = true then 1 else 0) (nI (1774 + 9 * s)) ∧ υ'.1 11 0 24 = nI (s + 1) ∧ υ'.1 13 34 (1774 + 9 * s) = nI kk ∧ Out B S (fun σ' υ' => BodyY n l s (1774 + 9 * s) kw kk σ' υ' ∧ σ'.1 9 0 2 = nI (if blk kw = true then 3 - q + 1 else 3 - q) ∧ (blk kw = true → σ'.1 13 21 (3 - q) = nI l)) r σ' υ' ∧ Eqo (YFr l (3 - q)) σ σ' ∧ Eqo (YXr s) υ υ' := by
  obtain ⟨y5, y0, yn, yN, yl, ys, yx, yd, yq, y30, yle⟩ := hY
  have hl : l < 60 := by omega
  obtain ⟨a1, σ1, υ0, e1, -, -, E1, -⟩ := h.next
  -- the reference: the count, then the next token
  have F0 : Eqo (fun k m j => k = 11 ∧ m = 0 ∧ j = 24) υ (wI υ 11 0 24 (nI (s + 1))) := Eqo.wI ⟨rfl, rfl, rfl⟩
  have h' : TK B S a σ (wI υ 11 0 24 (nI (s + 1))) := h.keep (Eqo.rf (fun _ _ _ => False) _) F0 (fun k m j z => z.elim) (fun k m j z => by omega)
  obtain ⟨a2, σ2, υ1, e2, e3, hT1, E2, F1⟩ := h'.next
  have e12 : σ2 = σ1 := Option.some.inj (e2.symm.trans e1)
  subst e12
  have F2 : Eqo (fun k m j => k = 13 ∧ m = 34 ∧ j = 1774 + 9 * s) υ1 (wI υ1 13 34 (1774 + 9 * s) (nI kk)) := Eqo.wI ⟨rfl, rfl, rfl⟩
  have FF : Eqo (YXr s) υ (wI υ1 13 34 (1774 + 9 * s) (nI kk)) := ((F0.mono (fun k m j z => .inr (.inr z))).tr ((NX_NXf F1).mono (fun _ _ _ z => .inl z))).tr (F2.mono (fun k m j z => .inr (.inl (by omega))))
  have hT2 : TK B S a2 σ2 (wI υ1 13 34 (1774 + 9 * s) (nI kk)) := hT1.keep (Eqo.rf (fun _ _ _ => False) _) F2 (fun k m j z => z.elim) (fun k m j z => by omega)
  have z24 : (wI υ1 13 34 (1774 + 9 * s) (nI kk)).1 11 0 24 = nI (s + 1) := by
    rw [wI_ne _ _ (by omega), F1.at1 (by unfold NX; omega), wI_eq]
  have z12 : (wI υ1 13 34 (1774 + 9 * s) (nI kk)).1 11 0 12 = 0 := by
    rw [wI_ne _ _ (by omega), F1.at1 (by unfold NX; omega), wI_ne _ _ (by omega)]
    exact h12
  have zk : (wI υ1 13 34 (1774 + 9 * s) (nI kk)).1 13 34 (1774 + 9 * s) = nI kk := wI_eq _ _ _ _ _
  have k0 : ck (LN 13 34) (nI (1774 + 9 * s)) = some (1774 + 9 * s) := ckc (by omega)
  have hkk : kk < 9 := by
    unfold knd at hkw
    omega
  have ex4 : (1774 : Int32) + 9 * nI s = nI (1774 + 9 * s) := by
    show nI 1774 + nI 9 * nI s = _
    rw [pk_mul, nI_add]
  -- what the reference does up to the rest
  have eX : X12_readStepN (q + 2) υ (nI (3 - q)) = ((X12_readRest (wI υ1 13 34 (1774 + 9 * s) (nI kk)) (nI (1774 + 9 * s))).bind fun σ129 => (X12_isSign σ129 59).bind fun v136 => X12_must σ129 v136).bind fun σ139 => X12_readStep_l142 (X12_readStepN (q + 1)) σ139 (nI (3 - q)) (if blk kw = true then 1 else 0) (nI (1774 + 9 * s)) := by
    have e83 : ∀ x3 : Int32, X12_readStep_j83 (X12_readStepN (q + 1)) υ (nI (3 - q)) (nI kk) x3 = ((X12_readRest (wI υ1 13 34 (1774 + 9 * s) (nI kk)) (nI (1774 + 9 * s))).bind fun σ129 => (X12_isSign σ129 59).bind fun v136 => X12_must σ129 v136).bind fun σ139 => X12_readStep_l142 (X12_readStepN (q + 1)) σ139 (nI (3 - q)) x3 (nI (1774 + 9 * s)) := fun x3 => by
      unfold X12_readStep_j83
      rw [h12, if_pos (by decide), yx, ex4, nI_1, Option.bind_some, Option.bind_some, e3, Option.bind_some, k0, Option.bind_some, Option.bind_some]
      rw [Option.bind_assoc]
      congr 1
      funext z
      rw [Option.bind_assoc]
    have n30 : ¬ nI s = 30 := wne (b := 30) (by omega) (by omega) (by decide)
    have e31 : ∀ x3 : Int32, (x3 = 0 ∨ ¬ nI (3 - q) = 3) → X12_readStep_j31 (X12_readStepN (q + 1)) υ (nI (3 - q)) (nI kk) x3 = X12_readStep_j83 (X12_readStepN (q + 1)) υ (nI (3 - q)) (nI kk) x3 := fun x3 hx => by
      unfold X12_readStep_j31 X12_readStep_j57
      rw [if_pos h12, yx, if_neg n30, if_pos h12]
      by_cases z : x3 = 0
      · rw [if_pos z]
      · rw [if_neg z, if_neg (hx.resolve_left z)]
    have e22 : ∀ x3 : Int32, (x3 = 0 ∨ ¬ nI (3 - q) = 3) → X12_readStep_j22 (X12_readStepN (q + 1)) υ (nI (3 - q)) (nI kk) x3 = X12_readStep_j83 (X12_readStepN (q + 1)) υ (nI (3 - q)) (nI kk) x3 := fun x3 hx => by
      unfold X12_readStep_j22
      rw [if_pos (nI_pos' (by omega)), e31 x3 hx]
    have esp : spF (wid B S a) = nI kk := by
      rw [hw]
      rcases hkw with (⟨rfl, rfl⟩ | ⟨rfl, rfl⟩ | ⟨rfl, rfl⟩ | ⟨rfl, rfl⟩ | ⟨rfl, rfl⟩ | ⟨rfl, rfl⟩ | ⟨rfl, rfl⟩ | ⟨rfl, rfl⟩) | ⟨rfl, rfl⟩ <;> rfl
    show X12_readStep (X12_readStepN (q + 1)) υ (nI (3 - q)) = _
    unfold X12_readStep X12_readStep_j0 X12_readStep_j17
    rw [xstepWord h, Option.bind_some, esp]
    by_cases hbk : blk kw = true
    · have hq3 : ¬ nI (3 - q) = 3 := wne (b := 3) (by have := hb hbk; omega) (by omega) (by decide)
      have hkk2 : kk = 6 ∨ kk = 7 := by
        unfold blk at hbk
        simp at hbk
        unfold knd at hkw
        omega
      rw [if_pos hbk]
      rcases hkk2 with rfl | rfl
      · rw [if_pos (by decide), e22 1 (.inr hq3), e83]
      · rw [if_neg (by decide), if_pos (by decide), e22 1 (.inr hq3), e83]
    · have hkk2 : kk ≠ 6 ∧ kk ≠ 7 := by
        unfold blk at hbk
        simp at hbk
        unfold knd at hkw
        omega
      rw [if_neg hbk, if_neg (show ¬ nI kk = 6 from wne (b := 6) (by omega) (by omega) (by decide)), if_neg (show ¬ nI kk = 7 from wne (b := 7) (by omega) (by omega) (by decide)), e22 0 (.inl rfl), e83]
  -- the class
  have hkw24 : kw < 24 := wid24 kw hw
  have hfull : X9_isFull σ 1 = some 0 := by
    unfold X9_isFull X9_isFull_j0
    rw [ys, if_pos (show nI s < 30 from nI_lt (b := 30) hs (by decide))]
  have eW : X5_word σ = some (nI kw) := by
    rw [word_val h, hw]
    rfl
  have hC : ∃ σ3, X10_stepLine σ 0 1 = X10_stepLine_j126 σ3 0 1 (nI kw) ∧ Eqo (fun k m j => (k = 9 ∧ m = 0 ∧ j = 2) ∨ (k = 13 ∧ m = 21 ∧ j = 3 - q)) σ2 σ3 ∧ σ3.1 9 0 2 = nI (if blk kw = true then 3 - q + 1 else 3 - q) ∧ (blk kw = true → σ3.1 13 21 (3 - q) = nI l) := by
    by_cases hbk : blk kw = true
    · have hq0 := hb hbk
      have d2 : σ2.1 9 0 2 = nI (3 - q) := (E1.at1 (by unfold NC; omega)).trans yd
      have l2 : σ2.1 8 1 2 = nI l := (E1.at1 (by unfold NC; omega)).trans yl
      refine ⟨wI (wI σ2 13 21 (3 - q) (nI l)) 9 0 2 (nI (3 - q + 1)), ?_, (Eqo.wI (by omega)).tr (Eqo.wI (by omega)), ?_, fun _ => ?_⟩
      · have hkw2 : kw = 18 ∨ kw = 21 := by
          unfold blk at hbk
          simpa using hbk
        unfold X10_stepLine X10_stepLine_j0 X10_stepLine_j20 X10_stepLine_j25 X10_stepLine_j48 X10_stepLine_j88 X9_lineCount X9_lineCount_j0
        rw [eW, Option.bind_some, hfull, Option.bind_some, if_pos rfl, if_neg neg1_0, yd, if_pos (show nI (3 - q) < 3 from nI_lt (b := 3) (by omega) (by decide)), e1, Option.bind_some, if_neg neg1_0, Option.bind_some, d2, l2, op_put _ (by omega), Option.bind_some, wI_ne _ _ (by omega), d2, nI_1, Option.bind_some, if_neg neg1_0]
        rcases hkw2 with rfl | rfl
        · rw [if_pos (by decide)]
        · rw [if_neg (by decide), if_pos (by decide)]
      · rw [wI_eq, if_pos hbk]
      · rw [wI_ne _ _ (by omega), wI_eq]
    · have hpl := plain_k kw hkw24 σ
      have hkw3 : kw = 12 ∨ kw = 14 ∨ kw = 23 ∨ kw = 13 ∨ kw = 15 ∨ kw = 17 ∨ kw = 6 := by
        unfold blk at hbk
        simp at hbk
        unfold knd at hkw
        omega
      rw [if_pos hkw3] at hpl
      refine ⟨σ2, ?_, Eqo.rf _ _, ?_, fun z => absurd z hbk⟩
      · unfold X10_stepLine X10_stepLine_j0 X10_stepLine_j25 X10_stepLine_j48 X10_stepLine_j88
        rw [eW, Option.bind_some, if_neg (show ¬ nI kw = 18 from wne (b := 18) (by omega) (by omega) (by decide)), if_neg (show ¬ nI kw = 21 from wne (b := 21) (by omega) (by omega) (by decide)), if_pos rfl, hpl, Option.bind_some, if_neg neg1_0, hfull, Option.bind_some, if_pos rfl, if_pos rfl, e1, Option.bind_some, if_pos rfl]
      · rw [if_neg hbk, E1.at1 (by unfold NC; omega)]; exact yd
  obtain ⟨σ3, eC, E3, d3, o3⟩ := hC
  have hT3 : TK B S a2 σ3 (wI υ1 13 34 (1774 + 9 * s) (nI kk)) := hT2.keep E3 (Eqo.rf (fun _ _ _ => False) _) (fun k m j z => by omega) (fun k m j z => z.elim)
  have c13 : ∀ {k m j : Nat}, (k = 0 ∨ k = 8) → σ3.1 k m j = σ.1 k m j := fun {k m j} hk => by
    rw [E3.at1 (by omega), E1.at1 (by unfold NC; omega)]
  obtain ⟨r, σ', υ', b1, b2, b3, b4, b5⟩ := body_ok hT3 z12 ((c13 (.inl rfl)).trans y5) ((FF.at1 (by unfold YXr NXf NX; omega)).trans y0) yn (fun l hl => by rw [E3.2 _ _ _ (by omega), E1.2 _ _ _ (by unfold NC; omega), FF.2 _ _ _ (by unfold YXr NXf NX; omega)]; exact yN l hl) hl ((c13 (.inr rfl)).trans yl) ((c13 (.inr rfl)).trans ys) (by omega) (by omega) zk hkw
  refine ⟨r, σ', υ', eC.trans b1, by rw [eX, b2, Option.bind_some], ?_, ?_, ?_, ?_, FF.tr (NW_Y b5 hs (Nat.le_refl _))⟩
  · rw [b5.at1 (by unfold NW NXf NX; omega)]; exact z24
  · rw [b5.at1 (by unfold NW NXf NX; omega)]; exact zk
  · rcases b3 with ⟨z1, z2, z3⟩ | z
    · refine .inl ⟨z1, z2, z3, ?_, fun hbk => ?_⟩
      · rw [b4.at1 (by unfold NA NCf NC AS; omega)]; exact d3
      · rw [b4.at1 (by unfold NA NCf NC AS; omega)]; exact o3 hbk
    · exact .inr z
  · exact (((NC_NCf E1).mono (fun _ _ _ z => .inl z)).tr (E3.mono (fun k m j z => by unfold YFr; omega))).tr (NA_Y b4 hl (Nat.le_refl _))
end HD
