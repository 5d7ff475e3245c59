/-! ===== TEXTS: a when's TEST ===== -/
section TS
variable {σ υ : SS} {B : Nat → Nat} {S a n l s W : Nat}
def TstY (n l s W : Nat) (σ υ : SS) : Prop := ∃ tw tk, LnY l s tw σ ∧ TsC n tw tk (σ.1 13 4 (60 + l)) (σ.1 13 4 (120 + l)) (υ.1 13 34 (W + 1)) (υ.1 13 34 (W + 2)) (υ.1 13 34 (W + 7)) ∧ υ.1 13 34 (W + 6) = nI tk
theorem wW {j : Nat} {x : Int32} (h : W < j ∧ j < W + 8) : Eqo (fun k m j => k = 13 ∧ m = 34 ∧ W < j ∧ j < W + 8) υ (wI υ 13 34 j x) := Eqo.wI ⟨rfl, rfl, h⟩
theorem wW_NW {τ : SS} (h : Eqo (fun k m j => k = 13 ∧ m = 34 ∧ W < j ∧ j < W + 8) υ τ) : Eqo (NW W) υ τ := h.mono (fun _ _ _ q => .inr q)
theorem Flt.ww {τ : SS} (h : Flt σ υ) (hE : Eqo (fun k m j => k = 13 ∧ m = 34 ∧ W < j ∧ j < W + 8) υ τ) : Flt σ τ := h.as (l := 0) (Eqo.rf _ _) hE
theorem TK.ww {τ : SS} (h : TK B S a σ υ) (hE : Eqo (fun k m j => k = 13 ∧ m = 34 ∧ W < j ∧ j < W + 8) υ τ) : TK B S a σ τ := h.keep (Eqo.rf (fun _ _ _ => False) _) hE (fun k n j q => q.elim) (fun k n j q => by omega)
/-- behind the sign: the number -/
theorem test_num (h : TK B S a σ υ) (h12 : υ.1 11 0 12 = 0) (hl : l < 60) (h2 : σ.1 8 1 2 = nI l) (h3 : σ.1 8 1 3 = nI s) (hW : W + 9 < 2050) {tw tk : Nat} (ht : (tw = 19 ∧ tk = 0) ∨ (tw = 7 ∧ tk = 1)) (h6 : υ.1 13 34 (W + 6) = nI tk) {cm : Int32} (h7 : υ.1 13 34 (W + 7) = cm) : ∃ r σ' υ', X10_testStep_j103 σ 0 1 (nI tw) cm = some (r, σ') ∧ X12_readTest_j140 υ (nI W + 2) 0 (if nI tk = 0 then 8 else 24) = some υ' ∧ Out B S (TstY n l s W) r σ' υ' ∧ Eqo (NA l) σ σ' ∧ Eqo (NW W) υ υ' := by
  have k2 : ck (LN 13 34) (nI W + 2) = some (W + 2) := ckW (e := 2) (by omega)
  have fin : ∀ hi : Nat, hi < 1000 → X10_testStep_j103 σ 0 1 (nI tw) cm = (X5_passNumber σ 0 (nI hi)).bind (fun p => X10_testStep_j138 p.2 0 1 (nI tw) cm p.1) → (if nI tk = 0 then (8 : Int32) else 24) = nI hi → ∃ r σ' υ', X10_testStep_j103 σ 0 1 (nI tw) cm = some (r, σ') ∧ X12_readTest_j140 υ (nI W + 2) 0 (if nI tk = 0 then 8 else 24) = some υ' ∧ Out B S (TstY n l s W) r σ' υ' ∧ Eqo (NA l) σ σ' ∧ Eqo (NW W) υ υ' := fun hi hhi eC eh => by
    obtain ⟨w, x, σ1, υ1, f1, f2, f3, E1, F1⟩ := must_number h h12 (lo := 0) (hi := hi) (by decide) hhi
    have f1' : X5_passNumber σ 0 (nI hi) = some (w, σ1) := f1
    have f2' : X12_count υ 0 (nI hi) = some (x, υ1) := f2
    obtain ⟨τ, e, c1, c2, c3, c4, c5, c6, E2⟩ := addStep_ok (σ := σ1) hl ((E1.at1 (by unfold NCf NC; omega)).trans h2) ((E1.at1 (by unfold NCf NC; omega)).trans h3) (nI tw) w cm
    have F2 := wW (W := W) (υ := υ1) (j := W + 2) (x := x) (by omega)
    have EE : Eqo (NA l) σ τ := (E1.mono (fun _ _ _ q => .inl q)).tr (E2.mono (fun _ _ _ q => .inr q))
    have FF : Eqo (NW W) υ (wI υ1 13 34 (W + 2) x) := (F1.mono (fun _ _ _ q => .inl q)).tr (wW_NW F2)
    have eX : X12_readTest_j140 υ (nI W + 2) 0 (if nI tk = 0 then 8 else 24) = some (wI υ1 13 34 (W + 2) x) := by
      unfold X12_readTest_j140
      rw [eh, f2', Option.bind_some, k2, Option.bind_some, Option.bind_some]
    rw [eC, f1', Option.bind_some]
    unfold X10_testStep_j138
    rw [e, Option.bind_some]
    rcases f3 with ⟨m, g1, g2, rfl, rfl, g5⟩ | ⟨rfl, rfl, g3⟩
    · rw [if_neg (show ¬ nI m = -1 from ne_m1 (by omega))]
      refine ⟨1, τ, _, rfl, eX, .inl ⟨rfl, g5.as E2 F2, tw, tk, ⟨c5, c6, c1⟩, .inr ⟨ht, ?_, ?_⟩, ?_⟩, EE, FF⟩
      · rw [c2, wI_eq]
      · rw [c3, wI_ne _ _ (by omega), F1.at1 (by unfold NXf NX; omega)]; exact h7.symm
      · rw [wI_ne _ _ (by omega), F1.at1 (by unfold NXf NX; omega)]; exact h6
    · rw [if_pos rfl]
      exact ⟨0, τ, _, rfl, eX, .inr ⟨rfl, g3.as E2 F2⟩, EE, FF⟩
  rcases ht with ⟨rfl, rfl⟩ | ⟨rfl, rfl⟩
  · refine fin 8 (by decide) ?_ rfl
    unfold X10_testStep_j103 X10_testStep_j135
    rw [if_neg (by decide), if_pos (by decide)]
    rfl
  · refine fin 24 (by decide) ?_ rfl
    unfold X10_testStep_j103 X10_testStep_j135
    rw [if_neg (by decide), if_neg (by decide)]
    rfl
/-- behind the word: sign and number -/
theorem test_sign (h : TK B S a σ υ) (h12 : υ.1 11 0 12 = 0) (hl : l < 60) (h2 : σ.1 8 1 2 = nI l) (h3 : σ.1 8 1 3 = nI s) (hW : W + 9 < 2050) {tw tk : Nat} (ht : (tw = 19 ∧ tk = 0) ∨ (tw = 7 ∧ tk = 1)) (h6 : υ.1 13 34 (W + 6) = nI tk) : ∃ r σ' υ', ((X5_signIs σ 60).bind fun v57 => if v57 = 0 then ((X5_signIs σ 62).bind fun v74 => X10_testStep_j87 σ 0 1 (nI tw) (if v74 = 0 then 61 else 62)) else (X10_testStep_j87 σ 0 1 (nI tw) 60)) = some (r, σ') ∧ X12_readTest_j46 υ (nI W) (nI tk) = some υ' ∧ Out B S (TstY n l s W) r σ' υ' ∧ Eqo (NA l) σ σ' ∧ Eqo (NW W) υ υ' := by
  have k7 : ck (LN 13 34) (nI W + 7) = some (W + 7) := ckW (e := 7) (by omega)
  have k2 : ck (LN 13 34) (nI W + 2) = some (W + 2) := ckW (e := 2) (by omega)
  have hkl := tkK_le B S a
  have y14 : υ.1 11 0 14 = nI (tkK B S a) := h.2.2.2.2.2.2.2.2.2.2.1
  have hk2 : ¬ nI tk = 2 := wne (a := tk) (b := 2) (by omega) (by omega) (by decide)
  have hx2 : ¬ (0 : Int32) < υ.1 11 0 12 := by rw [h12]; decide
  have eS : ∀ k : Nat, k < 256 → X5_signIs σ (nI k) = some (if sgn B S a = some k then 1 else 0) ∧ X12_isSign υ (nI k) = some (if sgn B S a = some k then 1 else 0) := fun k hk => sign_val h hk
  -- the class
  have eC : ((X5_signIs σ 60).bind fun v57 => if v57 = 0 then ((X5_signIs σ 62).bind fun v74 => X10_testStep_j87 σ 0 1 (nI tw) (if v74 = 0 then 61 else 62)) else (X10_testStep_j87 σ 0 1 (nI tw) 60)) = X10_testStep_j87 σ 0 1 (nI tw) (if sgn B S a = some 60 then 60 else if sgn B S a = some 62 then 62 else 61) := by
    rw [show X5_signIs σ 60 = _ from (eS 60 (by decide)).1, Option.bind_some, show X5_signIs σ 62 = _ from (eS 62 (by decide)).1, Option.bind_some, if01, if01]
    split
    · rfl
    · rfl
  -- the reference
  have hg : ∃ g : Int32, (if (υ.1 11 0 14) = 3 then (υ.1 11 0 17) else 0) = g ∧ ∀ k, sgn B S a = some k → g = nI k := by
    refine ⟨_, rfl, fun k hk => ?_⟩
    unfold sgn at hk
    by_cases q : tkK B S a = 3
    · rw [if_pos q] at hk
      rw [y14, q, if_pos (show nI 3 = 3 from rfl), ← Option.some.inj hk]
      exact h.2.2.2.2.2.2.2.2.2.2.2.2.2.1 q
    · rw [if_neg q] at hk
      cases hk
  obtain ⟨g, eg, hgk⟩ := hg
  have F0 := wW (W := W) (υ := υ) (j := W + 7) (x := g) (by omega)
  have hT1 := h.ww F0
  have x12 : (wI υ 13 34 (W + 7) g).1 11 0 12 = 0 := (wI_ne _ _ (by omega)).trans h12
  have c6 : (wI υ 13 34 (W + 7) g).1 13 34 (W + 6) = nI tk := (wI_ne _ _ (by omega)).trans h6
  have c7 : (wI υ 13 34 (W + 7) g).1 13 34 (W + 7) = g := wI_eq _ _ _ _ _
  have eX : X12_readTest_j46 υ (nI W) (nI tk) = X12_readTest_j117 (wI υ 13 34 (W + 7) g) (nI W) (nI tk) (if sgn B S a = some 60 then 1 else if sgn B S a = some 62 then 1 else if sgn B S a = some 61 then 1 else 0) := by
    unfold X12_readTest_j46 X12_readTest_j83 X12_readTest_j112
    rw [if_neg hx2, if_neg hk2, eg, k7, Option.bind_some, Option.bind_some, show X12_isSign (wI υ 13 34 (W + 7) g) 60 = _ from (sign_val hT1 (s := 60) (by decide)).2, Option.bind_some, show X12_isSign (wI υ 13 34 (W + 7) g) 62 = _ from (sign_val hT1 (s := 62) (by decide)).2, Option.bind_some, show X12_isSign (wI υ 13 34 (W + 7) g) 61 = _ from (sign_val hT1 (s := 61) (by decide)).2, Option.bind_some, if01, if01, if01]
    split
    · rfl
    · split
      · rfl
      · split <;> rfl
  rw [eC, eX]
  generalize wI υ 13 34 (W + 7) g = υ0 at *
  have good : ∀ k : Nat, (k = 60 ∨ k = 62 ∨ k = 61) → sgn B S a = some k → ∃ r σ' υ', X10_testStep_j87 σ 0 1 (nI tw) (nI k) = some (r, σ') ∧ X12_readTest_j117 υ0 (nI W) (nI tk) 1 = some υ' ∧ Out B S (TstY n l s W) r σ' υ' ∧ Eqo (NA l) σ σ' ∧ Eqo (NW W) υ υ' := fun k hk hs => by
    obtain ⟨σ1, υ1, e1, e2, ⟨⟨a1, g1⟩, g2⟩, E1, F1⟩ := next_gon hT1 x12
    have ep : X5_passSign σ (nI k) = some (1, σ1) := by
      unfold X5_passSign X5_passSign_j0
      rw [(eS k (by omega)).1, Option.bind_some, if_pos hs, if_neg neg1_0, e1, Option.bind_some]
    have em : X12_must υ0 1 = some υ1 := by
      unfold X12_must X12_must_j0
      rw [x12, if_pos (by decide), if_neg neg1_0, e2, Option.bind_some]
    have d7 : υ1.1 13 34 (W + 7) = nI k := by rw [F1.at1 (by unfold NX; omega), c7]; exact hgk k hs
    have d6 : υ1.1 13 34 (W + 6) = nI tk := by rw [F1.at1 (by unfold NX; omega)]; exact c6
    obtain ⟨r, σ', υ', m1, m2, m3, m4, m5⟩ := test_num g1 g2 hl ((E1.at1 (by unfold NC; omega)).trans h2) ((E1.at1 (by unfold NC; omega)).trans h3) hW ht d6 d7
    refine ⟨r, σ', υ', ?_, ?_, m3, ((NC_NCf E1).mono (fun _ _ _ q => .inl q)).tr m4, ((wW_NW F0).tr ((NX_NXf F1).mono (fun _ _ _ q => .inl q))).tr m5⟩
    · unfold X10_testStep_j87
      rw [ep, Option.bind_some, if_neg neg1_0, m1]
    · unfold X12_readTest_j117
      rw [em, Option.bind_some, m2]
  by_cases q1 : sgn B S a = some 60
  · rw [if_pos q1, if_pos q1]
    exact good 60 (by decide) q1
  · rw [if_neg q1, if_neg q1]
    by_cases q2 : sgn B S a = some 62
    · rw [if_pos q2, if_pos q2]
      exact good 62 (by decide) q2
    · rw [if_neg q2, if_neg q2]
      by_cases q3 : sgn B S a = some 61
      · rw [if_pos q3]
        exact good 61 (by decide) q3
      · rw [if_neg q3]
        obtain ⟨σ1, υ1, w1, w2, w3, w4, w5⟩ := hT1.wrong x12
        have F2 := wW (W := W) (υ := υ1) (j := W + 2) (x := 0) (by omega)
        refine ⟨0, σ1, wI υ1 13 34 (W + 2) 0, ?_, ?_, .inr ⟨rfl, w3.ww F2⟩, w4.mono (fun _ _ _ q => .inl q), ((wW_NW F0).tr (w5.mono (fun _ _ _ q => .inl q))).tr (wW_NW F2)⟩
        · unfold X10_testStep_j87 X5_passSign X5_passSign_j0
          rw [show X5_signIs σ 61 = _ from (eS 61 (by decide)).1, Option.bind_some, if_neg q3, if_pos rfl, w1, Option.bind_some]
          rfl
        · unfold X12_readTest_j117 X12_readTest_j140 X12_must X12_must_j0
          rw [x12, if_pos (by decide), if_pos rfl, w2, Option.bind_some, Option.bind_some, count_no w3.pos.2.1 w3.pos.2.2, Option.bind_some, k2, Option.bind_some, Option.bind_some]
theorem tst_ok (h : TK B S a σ υ) (h12 : υ.1 11 0 12 = 0) (h5 : σ.1 0 0 5 = nI n) (h0 : υ.1 13 34 0 = nI n) (hn : n ≤ 8) (hN : ∀ l, l < n → σ.2 14 0 l = υ.2 14 7 l) (hl : l < 60) (h2 : σ.1 8 1 2 = nI l) (h3 : σ.1 8 1 3 = nI s) (hW0 : 600 < W) (hW : W + 9 < 2050) : ∃ r σ' υ', X10_testStep σ 0 1 = some (r, σ') ∧ X12_readTest υ (nI W) = some υ' ∧ Out B S (TstY n l s W) r σ' υ' ∧ Eqo (NA l) σ σ' ∧ Eqo (NW W) υ υ' := by
  have k6 : ck (LN 13 34) (nI W + 6) = some (W + 6) := ckW (e := 6) (by omega)
  have k1 : ck (LN 13 34) (nI W + 1) = some (W + 1) := ckW (e := 1) (by omega)
  have hw := word_val h
  have w19 := wn_eq (o := wid B S a) (k := 19) wid24 (by decide)
  have w7 := wn_eq (o := wid B S a) (k := 7) wid24 (by decide)
  have w20 := wn_eq (o := wid B S a) (k := 20) wid24 (by decide)
  have eX : X12_readTest υ (nI W) = X12_readTest_j15 υ (nI W) (teF (wid B S a)) (if teF (wid B S a) < 0 then 0 else 1) := by
    unfold X12_readTest X12_readTest_j0
    rw [xtestWord h, Option.bind_some]
  rw [eX]
  unfold X10_testStep X10_testStep_j0
  rw [hw, Option.bind_some]
  -- a word that is a TEST's
  have hd : ∀ (k tk : Nat), wid B S a = some k → teF (wid B S a) = nI tk → tk < 3 → ∃ σ1 υ1 a1, X5_next σ = some σ1 ∧ TK B S a1 σ1 υ1 ∧ υ1.1 11 0 12 = 0 ∧ υ1.1 13 34 (W + 6) = nI tk ∧ X12_readTest_j15 υ (nI W) (teF (wid B S a)) (if teF (wid B S a) < 0 then 0 else 1) = (if nI tk = 2 then ((X12_readTold υ1 0).bind fun p42 => (some (wI p42.2 13 34 (W + 1) p42.1)).bind fun σ45 => X12_readTest_j46 σ45 (nI W) (nI tk)) else X12_readTest_j46 υ1 (nI W) (nI tk)) ∧ Eqo NC σ σ1 ∧ Eqo (NW W) υ υ1 ∧ υ1.1 13 34 0 = nI n ∧ (∀ l, l < n → σ1.2 14 0 l = υ1.2 14 7 l) := fun k tk hk ht ht3 => by
    obtain ⟨a1, σ1, υ1, e1, e2, g1, E1, F1⟩ := h.next
    have F2 := wW (W := W) (υ := υ1) (j := W + 6) (x := nI tk) (by omega)
    have FF : Eqo (NW W) υ (wI υ1 13 34 (W + 6) (nI tk)) := ((NX_NXf F1).mono (fun _ _ _ q => .inl q)).tr (wW_NW F2)
    refine ⟨σ1, wI υ1 13 34 (W + 6) (nI tk), a1, e1, g1.ww F2, ?_, wI_eq _ _ _ _ _, ?_, E1, FF, ?_, fun l hl => ?_⟩
    · rw [wI_ne _ _ (by omega), F1.at1 (by unfold NX; omega)]; exact h12
    · have em : X12_must υ 1 = some υ1 := by
        unfold X12_must X12_must_j0
        rw [h12, if_pos (by decide), if_neg neg1_0, e2, Option.bind_some]
      unfold X12_readTest_j15
      rw [ht, if_neg (nI_pos (by omega)), em, Option.bind_some, k6, Option.bind_some, Option.bind_some, k1]
      rfl
    · rw [FF.at1 (by unfold NW NXf NX; omega)]; exact h0
    · rw [E1.2 _ _ _ (by unfold NC; omega), FF.2 _ _ _ (by unfold NW NXf NX; omega)]; exact hN l hl
  have c2 : ∀ {τ : SS}, Eqo NC σ τ → τ.1 8 1 2 = nI l ∧ τ.1 8 1 3 = nI s := fun E => ⟨(E.at1 (by unfold NC; omega)).trans h2, (E.at1 (by unfold NC; omega)).trans h3⟩
  by_cases q19 : wid B S a = some 19
  · obtain ⟨σ1, υ1, a1, e1, g1, g2, g3, g4, g5, g6, -, -⟩ := hd 19 0 q19 (by rw [q19]; rfl) (by decide)
    obtain ⟨r, σ', υ', m1, m2, m3, m4, m5⟩ := test_sign g1 g2 hl (c2 g5).1 (c2 g5).2 hW (tw := 19) (tk := 0) (.inl ⟨rfl, rfl⟩) g3
    refine ⟨r, σ', υ', ?_, ?_, m3, ((NC_NCf g5).mono (fun _ _ _ q => .inl q)).tr m4, g6.tr m5⟩
    · rw [w19.mpr q19, if_pos (by decide)]
      unfold X10_testStep_j35
      rw [e1, Option.bind_some, if_neg (by decide)]
      exact m1
    · rw [g4, if_neg (by decide)]
      exact m2
  by_cases q7 : wid B S a = some 7
  · obtain ⟨σ1, υ1, a1, e1, g1, g2, g3, g4, g5, g6, -, -⟩ := hd 7 1 q7 (by rw [q7]; rfl) (by decide)
    obtain ⟨r, σ', υ', m1, m2, m3, m4, m5⟩ := test_sign g1 g2 hl (c2 g5).1 (c2 g5).2 hW (tw := 7) (tk := 1) (.inr ⟨rfl, rfl⟩) g3
    refine ⟨r, σ', υ', ?_, ?_, m3, ((NC_NCf g5).mono (fun _ _ _ q => .inl q)).tr m4, g6.tr m5⟩
    · rw [w7.mpr q7, if_neg (by decide), if_pos (by decide)]
      unfold X10_testStep_j35
      rw [e1, Option.bind_some, if_neg (by decide)]
      exact m1
    · rw [g4, if_neg (by decide)]
      exact m2
  by_cases q20 : wid B S a = some 20
  · obtain ⟨σ1, υ1, a1, e1, g1, g2, g3, g4, g5, g6, g7, g8⟩ := hd 20 2 q20 (by rw [q20]; rfl) (by decide)
    obtain ⟨w, x, σ2, υ2, f1, f2, f3, E2, F2⟩ := must_lead g1 g2 ((g5.at1 (by unfold NC; omega)).trans h5) g7 hn g8
    obtain ⟨τ, e, d1, d2, d3, d4, d5, d6, E3⟩ := addStep_ok (σ := σ2) hl ((E2.at1 (by unfold NCf NC; omega)).trans (c2 g5).1) ((E2.at1 (by unfold NCf NC; omega)).trans (c2 g5).2) 20 w 0
    have F3 := wW (W := W) (υ := υ2) (j := W + 1) (x := x) (by omega)
    have EE : Eqo (NA l) σ τ := (((NC_NCf g5).mono (fun _ _ _ q => .inl q)).tr (E2.mono (fun _ _ _ q => .inl q))).tr (E3.mono (fun _ _ _ q => .inr q))
    have FF : Eqo (NW W) υ (wI υ2 13 34 (W + 1) x) := (g6.tr (F2.mono (fun _ _ _ q => .inl q))).tr (wW_NW F3)
    have eC : (if nI 20 = 19 then (X10_testStep_j35 σ 0 1 (nI 20)) else (if nI 20 = 7 then (X10_testStep_j35 σ 0 1 (nI 20)) else (if nI 20 = 20 then (X10_testStep_j35 σ 0 1 (nI 20)) else ((X5_fail σ 2).bind fun p31 => (zb p31.1).bind fun b34 => some (p31.1, p31.2))))) = if w = -1 then some (0, τ) else some (1, τ) := by
      rw [if_neg (by decide), if_neg (by decide), if_pos (by decide)]
      unfold X10_testStep_j35 X10_testStep_j103 X10_testStep_j138
      rw [e1, Option.bind_some, if_pos (by decide), if_pos (by decide), f1, Option.bind_some, show nI 20 = 20 from rfl, e, Option.bind_some]
    have eR : ∀ w', X12_readTest_j46 w' (nI W) (nI 2) = some w' := fun w' => by
      unfold X12_readTest_j46
      split
      · rfl
      · rw [if_pos (by decide)]
    have eX2 : X12_readTest_j15 υ (nI W) (teF (wid B S a)) (if teF (wid B S a) < 0 then 0 else 1) = some (wI υ2 13 34 (W + 1) x) := by
      rw [g4, if_pos (by decide), f2, Option.bind_some, Option.bind_some, eR]
    rw [w20.mpr q20, eC, eX2]
    rcases f3 with ⟨m, p1, rfl, rfl, p4⟩ | ⟨rfl, rfl, p3⟩
    · rw [if_neg (show ¬ nI m = -1 from ne_m1 (by omega))]
      refine ⟨1, τ, _, rfl, rfl, .inl ⟨rfl, p4.as E3 F3, 20, 2, ⟨d5, d6, d1⟩, .inl ⟨rfl, rfl, m, p1, d2, wI_eq _ _ _ _ _⟩, ?_⟩, EE, FF⟩
      rw [wI_ne _ _ (by omega), F2.at1 (by unfold NXf NX; omega)]
      exact g3
    · rw [if_pos rfl]
      exact ⟨0, τ, _, rfl, rfl, .inr ⟨rfl, p3.as E3 F3⟩, EE, FF⟩
  -- no TEST
  have ht : teF (wid B S a) = -1 := by
    unfold teF
    rw [if_neg q19, if_neg q7, if_neg q20]
  obtain ⟨σ1, υ1, f1, f2, f3, f4, f5⟩ := h.wrong h12
  have F2 := wW (W := W) (υ := υ1) (j := W + 6) (x := -1) (by omega)
  have g := f3.ww F2
  refine ⟨0, σ1, wI υ1 13 34 (W + 6) (-1), ?_, ?_, .inr ⟨rfl, g⟩, f4.mono (fun _ _ _ q => .inl q), (f5.mono (fun _ _ _ q => .inl q)).tr (wW_NW F2)⟩
  · rw [if_neg (show ¬ wnI (wid B S a) = 19 from fun z => q19 (w19.mp z)), if_neg (show ¬ wnI (wid B S a) = 7 from fun z => q7 (w7.mp z)), if_neg (show ¬ wnI (wid B S a) = 20 from fun z => q20 (w20.mp z)), f1, Option.bind_some]
    rfl
  · rw [ht, if_pos (by decide)]
    unfold X12_readTest_j15 X12_readTest_j46 X12_must X12_must_j0
    rw [h12, if_pos (by decide), if_pos rfl, f2, Option.bind_some, Option.bind_some, k6, Option.bind_some, Option.bind_some, if_neg (by decide), if_pos g.pos.1]
end TS
