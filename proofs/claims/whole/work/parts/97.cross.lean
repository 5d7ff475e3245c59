/-! ===== TEXTS: a crossing ===== -/
section CRP
variable {σ υ σ' υ' : SS} {n nk c : Nat} {nu : Nat → Nat → Nat} {lo : Nat → Nat} {L : List X3} {B : Nat → Nat} {S a : Nat}
/-- whose name stands here: a lead's, nobody's, or none -/
theorem who_ok (h : TK B S a σ υ) (h12 : υ.1 11 0 12 = 0) {d b : Nat} (hd : d < 5) (hb : b < 5) (h5 : σ.1 0 d 5 = nI n) (h0 : υ.1 13 34 (410 * b) = nI n) (hn : n ≤ 8) (hN : ∀ l, l < n → σ.2 14 d l = υ.2 14 7 (11 * b + l)) : (∃ y l, l < n ∧ tkK B S a = 1 ∧ X5_nameStands σ = some 1 ∧ X5_name σ = some y ∧ X0_leadNamed σ d y = some (nI l) ∧ X12_told υ (nI b) = some (nI l, υ)) ∨ (∃ y σ' υ', X5_nameStands σ = some 1 ∧ X5_name σ = some y ∧ X0_leadNamed σ d y = some (-1) ∧ X5_fail σ 3 = some (0, σ') ∧ X12_told υ (nI b) = some (0, υ') ∧ Flt σ' υ' ∧ Eqo NCf σ σ' ∧ Eqo NXf υ υ') ∨ (∃ σ' υ', X5_nameStands σ = some 0 ∧ X5_fail σ 2 = some (0, σ') ∧ X12_told υ (nI b) = some (0, υ') ∧ Flt σ' υ' ∧ Eqo NCf σ σ' ∧ Eqo NXf υ υ') := by
  rcases names_ok h with ⟨g1, g2, g3, g4, g5⟩ | ⟨g1, g2, g3⟩
  · generalize cdF B a (tkZ B S a - a) = y at *
    have hc := leadNamed_ok (σ := σ) hd h5 hn y
    have hx := xleadNamed_ok (υ := υ) hb h0 hn
    rw [g5, ← fnN_congr y hN] at hx
    have hm := fnN_m1 (f := fun l => σ.2 14 d l) (n := n) (y := y) hn
    have eX : X12_told υ (nI b) = (X12_leadNamed υ (nI b)).bind fun v29 => if 0 ≤ v29 then (X12_told_j46 υ v29) else ((X12_fail υ 3 (υ.1 11 0 15)).bind fun σ43 => X12_told_j46 σ43 v29) := by
      unfold X12_told X12_told_j0 X12_told_j18
      rw [if_pos h12, g3, Option.bind_some, if_neg neg1_0, h12, if_pos (by decide)]
    rw [hx, Option.bind_some] at eX
    cases e : fnN (fun l => σ.2 14 d l) n y with
    | some l =>
      have hl := fnN_lt e
      rw [e] at hc hm eX
      refine .inl ⟨y, l, hl, g1.1, g2, g4, hc, ?_⟩
      rw [eX, if_pos (hm.2.mpr (fun z => by cases z))]
      show some (imax 0 (nI l), υ) = _
      rw [show imax 0 (nI l) = nI l by
        have := imax_nI (a := 0) (b := l) (by decide) (by omega)
        rw [Nat.zero_max] at this
        exact this]
    | none =>
      rw [e] at hc hm eX
      obtain ⟨σ', υ', f1, f2, f3, f4, f5⟩ := h.fail h12 (x := 3) (by decide) (by rw [g1.1]; decide)
      have f1' : X5_fail σ 3 = some (0, σ') := f1
      have f2' : X12_fail υ 3 (υ.1 11 0 15) = some υ' := f2
      refine .inr (.inl ⟨y, σ', υ', g2, g4, hc, f1', ?_, f3, f4, f5⟩)
      rw [eX, if_neg (fun z => hm.2.mp z rfl), f2', Option.bind_some]
      rfl
  · obtain ⟨σ', υ', f1, f2, f3, f4, f5⟩ := h.wrong h12
    refine .inr (.inr ⟨σ', υ', g2, f1, ?_, f3, f4, f5⟩)
    unfold X12_told X12_told_j0 X12_told_j18
    rw [if_pos h12, g3, Option.bind_some, if_pos rfl, f2, Option.bind_some, if_neg f3.pos.2.1]
theorem DT.who (hD : DT n nk nu lo c L σ υ) (h : TK B S a σ υ) (h12 : υ.1 11 0 12 = 0) : (∃ y l, l < n ∧ tkK B S a = 1 ∧ X1_toldNameStands σ 1 = some (1, σ) ∧ X5_name σ = some y ∧ X0_leadNamed σ 1 y = some (nI l) ∧ X12_told υ 4 = some (nI l, υ)) ∨ (∃ σ' υ', X1_toldNameStands σ 1 = some (0, σ') ∧ X12_told υ 4 = some (0, υ') ∧ Flt σ' υ' ∧ Eqo NCf σ σ' ∧ Eqo NXf υ υ') := by
  rcases who_ok h h12 (d := 1) (b := 4) (by decide) (by decide) hD.1.ln hD.x0.1 hD.1.n8 hD.2.2.2.2.1 with ⟨y, l, g1, g2, g3, g4, g5, g6⟩ | ⟨y, σ', υ', g3, g4, g5, g6, g7, g8⟩ | ⟨σ', υ', g3, g6, g7, g8⟩
  · refine .inl ⟨y, l, g1, g2, ?_, g4, g5, g6⟩
    have hn := hD.1.n8
    unfold X1_toldNameStands X1_toldNameStands_j0
    rw [g3, Option.bind_some, if_neg neg1_0, g4, Option.bind_some, g5, Option.bind_some, if_neg (show ¬ nI l = -1 from ne_m1 (by omega))]
  · refine .inr ⟨σ', υ', ?_, g7, g8⟩
    unfold X1_toldNameStands X1_toldNameStands_j0
    rw [g3, Option.bind_some, if_neg neg1_0, g4, Option.bind_some, g5, Option.bind_some, if_pos rfl, g6, Option.bind_some]
    rfl
  · refine .inr ⟨σ', υ', ?_, g7, g8⟩
    unfold X1_toldNameStands X1_toldNameStands_j0
    rw [g3, Option.bind_some, if_pos rfl, g6, Option.bind_some]
    rfl
theorem tb_all {n l : Nat} (h : l < n) : (2 ^ n - 1).testBit l = true := by
  rw [Nat.testBit_two_pow_sub_one]
  simpa using h
theorem crossable_ok (hD : DT n nk nu lo c L σ υ) (h : TK B S a σ υ) (h12 : υ.1 11 0 12 = 0) (x2 : Int32) : (∃ l σ' υ', l < n ∧ ¬ nI l = x2 ∧ X1_crossable σ 1 x2 = some (nI l, σ') ∧ X12_told υ 4 = some (nI l, υ) ∧ X12_has υ (υ.1 13 34 1644) (nI l) = some 0 ∧ X12_must υ 1 = some υ' ∧ Gon B S σ' υ' ∧ Eqo NC σ σ' ∧ Eqo NX υ υ') ∨ (∃ l σ' υ', l < n ∧ X1_crossable σ 1 x2 = some (-1, σ') ∧ X12_told υ 4 = some (nI l, υ) ∧ (nI l = x2 ∨ (¬ nI l = x2 ∧ X12_has υ (υ.1 13 34 1644) (nI l) = some 1)) ∧ X12_fail υ 5 (υ.1 11 0 15) = some υ' ∧ Flt σ' υ' ∧ Eqo NCf σ σ' ∧ Eqo NXf υ υ') ∨ (∃ σ' υ', X1_crossable σ 1 x2 = some (-1, σ') ∧ X12_told υ 4 = some (0, υ') ∧ Flt σ' υ' ∧ Eqo NCf σ σ' ∧ Eqo NXf υ υ') := by
  have hn := hD.1.n8
  rcases hD.who h h12 with ⟨y, l, g1, g2, g3, g4, g5, g6⟩ | ⟨σ', υ', g3, g4, g5, g6, g7⟩
  · have hclip := hasClip_in hD.1 hD.2.1 g1 (tb_all g1)
    have hhas : X12_has υ (υ.1 13 34 1644) (nI l) = some (if c.testBit l = true then 1 else 0) := by
      rw [hD.x0.2.2.2.2]
      exact xhas hD.c256 (by omega)
    have eC : X1_crossable σ 1 x2 = if nI l = x2 then X1_crossable_j35 σ 1 else (if (if c.testBit l = true then (1 : Int32) else 0) = 0 then ((X5_next σ).bind fun σ50 => some (nI l, σ50)) else X1_crossable_j35 σ 1) := by
      unfold X1_crossable X1_crossable_j0
      rw [g3, Option.bind_some, if_neg neg1_0, g4, Option.bind_some, g5, Option.bind_some, hclip, Option.bind_some]
    obtain ⟨σ1, υ1, f1, f2, f3, f4, f5⟩ := h.fail h12 (x := 5) (by decide) (by rw [g2]; decide)
    have f1' : X5_fail σ 5 = some (0, σ1) := f1
    have f2' : X12_fail υ 5 (υ.1 11 0 15) = some υ1 := f2
    have e35 : X1_crossable_j35 σ 1 = some (-1, σ1) := by
      unfold X1_crossable_j35
      rw [f1', Option.bind_some]
    by_cases q : nI l = x2
    · exact .inr (.inl ⟨l, σ1, υ1, g1, by rw [eC, if_pos q, e35], g6, .inl q, f2', f3, f4, f5⟩)
    by_cases q2 : c.testBit l = true
    · exact .inr (.inl ⟨l, σ1, υ1, g1, by rw [eC, if_neg q, if_pos q2, if_neg neg1_0, e35], g6, .inr ⟨q, by rw [hhas, if_pos q2]⟩, f2', f3, f4, f5⟩)
    · obtain ⟨σ2, υ2, k1, k2, k3, k4, k5⟩ := next_gon h h12
      refine .inl ⟨l, σ2, υ2, g1, q, by rw [eC, if_neg q, if_neg q2, if_pos rfl, k1, Option.bind_some], g6, by rw [hhas, if_neg q2], ?_, k3, k4, k5⟩
      unfold X12_must X12_must_j0
      rw [h12, if_pos (by decide), if_neg neg1_0, k2, Option.bind_some]
  · refine .inr (.inr ⟨σ', υ', ?_, g4, g5, g6, g7⟩)
    unfold X1_crossable X1_crossable_j0
    rw [g3, Option.bind_some, if_pos rfl]
theorem isw_any (υ : SS) : (∃ v, X12_stateWord υ = some v) := by
  unfold X12_stateWord X12_stateWord_j0
  obtain ⟨v1, -, e1⟩ := isWord_any υ (lN (cdL [116, 104, 114, 101, 97, 100, 101, 100]))
  obtain ⟨v2, -, e2⟩ := isWord_any υ (lN (cdL [116, 105, 103, 104, 116]))
  obtain ⟨v3, -, e3⟩ := isWord_any υ (lN (cdL [107, 110, 111, 116]))
  rw [sp_thread, Option.bind_some, sp_threaded υ, e1, Option.bind_some, sp_tight, Option.bind_some, e2, Option.bind_some, sp_knot, Option.bind_some, e3, Option.bind_some]
  split
  · split
    · split <;> exact ⟨_, rfl⟩
    · exact ⟨_, rfl⟩
  · exact ⟨_, rfl⟩
theorem flt148 (h : Flt σ υ) (x1 x2 x3 x4 : Int32) : X12_readCross_j148 υ x1 x2 x3 x4 = some υ := by
  unfold X12_readCross_j148
  rw [if_neg h.pos.2.1]
theorem flt121 (h : Flt σ υ) (x1 x2 x3 : Int32) : X12_readCross_j121 υ x1 x2 x3 = some υ := by
  obtain ⟨v, e⟩ := isw_any υ
  unfold X12_readCross_j121
  rw [must_no h.pos.2.1, Option.bind_some, e, Option.bind_some, if_neg h.pos.2.2, flt148 h]
theorem told_no (h : Flt σ υ) (x : Int32) : X12_told υ x = some (0, υ) := by
  unfold X12_told X12_told_j0 X12_told_j18
  rw [if_neg h.pos.2.2, if_neg h.pos.2.1]
theorem flt74 (h : Flt σ υ) (x1 x2 : Int32) : X12_readCross_j74 υ x1 x2 = some υ := by
  unfold X12_readCross_j74
  rw [must_no h.pos.2.1, Option.bind_some, told_no h, Option.bind_some, if_neg h.pos.2.2, flt121 h]
theorem perhapsState_ok (h : TK B S a σ υ) (h12 : υ.1 11 0 12 = 0) : ∃ st σ' υ', st ≤ 3 ∧ X1_perhapsState σ = some (nI st, σ') ∧ X12_stateWord υ = some (nI st) ∧ (if nI st ≤ 0 then υ' = υ else X12_next υ = some υ') ∧ Gon B S σ' υ' ∧ Eqo NC σ σ' ∧ Eqo NX υ υ' := by
  have hst : stF (wid B S a) ≤ 3 := by
    unfold stF
    split
    · decide
    · split
      · decide
      · split <;> decide
  have eC : X1_perhapsState σ = X1_perhapsState_j49 σ (nI (stF (wid B S a))) := by
    unfold X1_perhapsState X1_perhapsState_j0
    rw [show X5_wordIs σ 8 = _ from (h.isw (k := 8) rfl).1, Option.bind_some, show X5_wordIs σ 9 = _ from (h.isw (k := 9) rfl).1, Option.bind_some, show X5_wordIs σ 10 = _ from (h.isw (k := 10) rfl).1, Option.bind_some, if01, if01, if01]
    unfold stF
    split
    · rfl
    · split
      · rfl
      · split <;> rfl
  have hX := xstateWord h
  generalize stF (wid B S a) = st at *
  unfold X1_perhapsState_j49 at eC
  by_cases q : st = 0
  · subst q
    refine ⟨0, σ, υ, hst, by rw [eC, if_pos (show nI 0 = 0 from rfl)], hX, ?_, ⟨⟨a, h⟩, h12⟩, Eqo.rf _ _, Eqo.rf _ _⟩
    rw [if_pos (show nI 0 ≤ 0 by decide)]
  · obtain ⟨σ2, υ2, k1, k2, k3, k4, k5⟩ := next_gon h h12
    refine ⟨st, σ2, υ2, hst, ?_, hX, ?_, k3, k4, k5⟩
    · rw [eC, if_neg (show ¬ nI st = 0 from wne q (by omega) (by decide)), k1, Option.bind_some]
    · rw [if_neg (show ¬ nI st ≤ 0 from nI_ge (b := st) (a := 0) (by omega) (by omega))]
      exact k2
theorem DT.cross (h : DT n nk nu lo c L σ υ) (h12 : υ.1 11 0 12 = 0) (hl : L.length < 24) {p q w : Nat} (hp : p < n) (hq : q < n) (hpq : p ≠ q) (hw : w ≤ 3) : ∃ τ υ', X0_addCrossing σ 1 (nI p) (nI q) (nI w) = some (1, τ) ∧ X12_readCross_j148 υ (nI L.length) (nI p) (nI q) (nI w) = some υ' ∧ DT n nk nu lo c (L ++ [(p, q, w)]) τ υ' ∧ Eqo (DC 1) σ τ ∧ Eqo (PC 4) υ υ' := by
  have x1 := h.x0.2.1
  obtain ⟨h1, h2, h3, h4, h5, h6, h7, h8, h9, h10⟩ := h
  have hn := h1.n8
  obtain ⟨τ, e, E, hv⟩ := addC_ok (by decide) h2 hl hp hq hpq hw
  have E2 : Eqo (fun k m j => k = 13 ∧ m = 34 ∧ (j = 1641 ∨ j = 1700 + L.length ∨ j = 1724 + L.length ∨ j = 1748 + L.length)) υ (wI (wI (wI (wI υ 13 34 (1700 + L.length) (nI p)) 13 34 (1724 + L.length) (nI q)) 13 34 (1748 + L.length) (nI w)) 13 34 1641 (nI (L.length + 1))) := (((Eqo.wI (by omega)).tr (Eqo.wI (by omega))).tr (Eqo.wI (by omega))).tr (Eqo.wI (by omega))
  have eX : X12_readCross_j148 υ (nI L.length) (nI p) (nI q) (nI w) = some (wI (wI (wI (wI υ 13 34 (1700 + L.length) (nI p)) 13 34 (1724 + L.length) (nI q)) 13 34 (1748 + L.length) (nI w)) 13 34 1641 (nI (L.length + 1))) := by
    unfold X12_readCross_j148
    rw [h12, if_pos (by decide), show ck (LN 13 34) (1700 + nI L.length) = some (1700 + L.length) from ck16n (off := 1700) (by omega), Option.bind_some, Option.bind_some, show ck (LN 13 34) (1724 + nI L.length) = some (1724 + L.length) from ck16n (off := 1724) (by omega), Option.bind_some, Option.bind_some, show ck (LN 13 34) (1748 + nI L.length) = some (1748 + L.length) from ck16n (off := 1748) (by omega), Option.bind_some, Option.bind_some, show ck (LN 13 34) 1641 = some 1641 from ckc (j := 1641) (by decide), Option.bind_some, Option.bind_some, wI_ne _ _ (by omega), wI_ne _ _ (by omega), wI_ne _ _ (by omega), x1, nI_1, Option.bind_some]
  have c1 : (wI (wI (wI (wI υ 13 34 (1700 + L.length) (nI p)) 13 34 (1724 + L.length) (nI q)) 13 34 (1748 + L.length) (nI w)) 13 34 1641 (nI (L.length + 1))).1 13 34 1641 = nI (L.length + 1) := wI_eq _ _ _ _ _
  have c2 : (wI (wI (wI (wI υ 13 34 (1700 + L.length) (nI p)) 13 34 (1724 + L.length) (nI q)) 13 34 (1748 + L.length) (nI w)) 13 34 1641 (nI (L.length + 1))).1 13 34 (1700 + L.length) = nI p := by rw [wI_ne _ _ (by omega), wI_ne _ _ (by omega), wI_ne _ _ (by omega), wI_eq]
  have c3 : (wI (wI (wI (wI υ 13 34 (1700 + L.length) (nI p)) 13 34 (1724 + L.length) (nI q)) 13 34 (1748 + L.length) (nI w)) 13 34 1641 (nI (L.length + 1))).1 13 34 (1724 + L.length) = nI q := by rw [wI_ne _ _ (by omega), wI_ne _ _ (by omega), wI_eq]
  have c4 : (wI (wI (wI (wI υ 13 34 (1700 + L.length) (nI p)) 13 34 (1724 + L.length) (nI q)) 13 34 (1748 + L.length) (nI w)) 13 34 1641 (nI (L.length + 1))).1 13 34 (1748 + L.length) = nI w := by rw [wI_ne _ _ (by omega), wI_eq]
  generalize wI (wI (wI (wI υ 13 34 (1700 + L.length) (nI p)) 13 34 (1724 + L.length) (nI q)) 13 34 (1748 + L.length) (nI w)) 13 34 1641 (nI (L.length + 1)) = υ' at *
  have x : ∀ j, ¬ (j = 1 ∨ j = 60 + L.length ∨ j = 84 + L.length ∨ j = 108 + L.length) → (shb 4 υ').1 13 34 j = (shb 4 υ).1 13 34 j := fun j hj => by
    rw [shb_at, shb_at]
    exact E2.at1 (by omega)
  have hE : ∀ k m j, FC 1 k m j → DC 1 k m j := fun k m j z => by unfold FC CC at z; unfold DC; omega
  have hwl : wfL n (L ++ [(p, q, w)]) := hv.wl
  refine ⟨τ, υ', e, eX, ⟨h1.keep E (fun k m j z => by unfold FC CC at z; omega), hv, ⟨?_, ?_, fun w' l' hw' hl' => ?_, fun k hkk => ?_, h1.wf⟩, ⟨?_, ?_, ?_, ?_, ?_, ?_, ?_, h4.ilt, hwl, ?_, h4.sub⟩, fun l' hl' => ?_, fun k hkk => ?_, fun w' l' hw' g1 g2 => ?_, ?_, ?_, ?_⟩, E.mono hE, E2.mono (fun k m j z => by unfold PC; omega)⟩
  · rw [x _ (by omega)]; exact h3.ln
  · rw [x _ (by omega)]; exact h3.lk
  · rw [x _ (by omega)]; exact h3.gn hw' hl'
  · have := h1.k3
    rw [x _ (by omega)]; exact h3.2.2.2.1 k hkk
  · rw [shb_at, List.length_append]; exact c1
  · rw [x _ (by omega)]; exact h4.ins
  · rw [x _ (by omega)]; exact h4.clp
  · rw [x _ (by omega)]; exact h4.sec
  · rw [x _ (by omega)]; exact h4.pen
  · rw [x _ (by omega)]; exact h4.opn
  · intro k y hy
    show (shb 4 υ').1 13 34 (60 + 24 * 0 + k) = _ ∧ (shb 4 υ').1 13 34 (60 + 24 * 1 + k) = _ ∧ (shb 4 υ').1 13 34 (60 + 24 * 2 + k) = _
    by_cases hk : k < L.length
    · rw [List.getElem?_append_left hk] at hy
      obtain ⟨_, _, -, -, -, -, g0, g1, g2⟩ := h4.x hy
      rw [x _ (by omega), x _ (by omega), x _ (by omega)]
      exact ⟨g0, g1, g2⟩
    · have hk2 : k = L.length := by
        have := (List.getElem?_eq_some_iff.mp hy).1
        rw [List.length_append] at this
        simp at this
        omega
      subst hk2
      rw [List.getElem?_append_right (Nat.le_refl _), Nat.sub_self] at hy
      cases hy
      rw [shb_at, shb_at, shb_at, show 410 * 4 + (60 + 24 * 0 + L.length) = 1700 + L.length by omega, show 410 * 4 + (60 + 24 * 1 + L.length) = 1724 + L.length by omega, show 410 * 4 + (60 + 24 * 2 + L.length) = 1748 + L.length by omega]
      exact ⟨c2, c3, c4⟩
  · intro y hy
    rcases List.mem_append.mp hy with z | z
    · exact h4.inn y z
    · rw [List.mem_singleton] at z
      subst z
      exact ⟨tb_all hp, tb_all hq⟩
  · rw [E.2 _ _ _ (by unfold FC CC; omega), E2.2 _ _ _ (by omega)]; exact h5 l' hl'
  · rw [E.2 _ _ _ (by unfold FC CC; omega), E2.2 _ _ _ (by omega)]; exact h6 k hkk
  · rw [E2.at1 (by omega)]; exact h7 w' l' hw' g1 g2
  · rw [E.at1 (by unfold FC CC; omega)]; exact h8
  · rw [E2.at1 (by omega)]; exact h9
  · rw [E.at1 (by unfold FC CC; omega)]; exact h10
theorem crossPart_ok (hT : TK B S a σ υ) (h12 : υ.1 11 0 12 = 0) (hD : DT n nk nu lo c L σ υ) (hw : wid B S a = some 7) : ∃ r σ' υ', X1_crossPart σ 1 = some (r, σ') ∧ ((X12_readCross υ).bind fun z => X12_drawer_j109 z) = some (Sum.inl υ') ∧ Out B S (fun σ' υ' => L.length < 24 ∧ ∃ y, DT n nk nu lo c (L ++ [y]) σ' υ') r σ' υ' ∧ Eqo CF σ σ' ∧ Eqo XF υ υ' := by
  have h24 := hD.2.1.l24
  have hn := hD.1.n8
  have hk4 : tkK B S a ≠ 4 := by rw [(wid_lt hw).2]; decide
  have k1644 : ck (LN 13 34) 1644 = some 1644 := ckc (j := 1644) (by decide)
  have eX : X12_readCross υ = if nI L.length = 24 then ((X12_fail υ 6 (υ.1 11 0 15)).bind fun σ22 => X12_readCross_j25 σ22 (nI L.length)) else X12_readCross_j25 υ (nI L.length) := by
    unfold X12_readCross X12_readCross_j0
    rw [show ck (LN 13 34) 1641 = some 1641 from ckc (j := 1641) (by decide), Option.bind_some, hD.x0.2.1, Option.bind_some]
  have hfull : X0_isFull σ 1 = some (if L.length < 24 then 0 else 1) := by
    unfold X0_isFull X0_isFull_j0
    rw [hD.2.1.len]
    by_cases q : L.length < 24
    · rw [if_pos (show nI L.length < 24 from nI_lt (b := 24) q (by decide)), if_pos q]
    · rw [if_neg (show ¬ nI L.length < 24 from nI_nlt (b := 24) (by omega) (by omega)), if_neg q]
  by_cases q : L.length = 24
  · obtain ⟨σ', υ', f1, f2, f3, f4, f5⟩ := hT.fail h12 (x := 6) (by decide) hk4
    have f1' : X5_fail σ 6 = some (0, σ') := f1
    have f2' : X12_fail υ 6 (υ.1 11 0 15) = some υ' := f2
    refine ⟨0, σ', υ', ?_, ?_, .inr ⟨rfl, f3⟩, NCf_CF f4, NXf_XF f5⟩
    · unfold X1_crossPart X1_crossPart_j0
      rw [hfull, Option.bind_some, if_neg (show ¬ L.length < 24 by omega), if_neg neg1_0, f1', Option.bind_some]
      rfl
    · rw [eX, if_pos (by rw [q]; rfl), f2', Option.bind_some]
      unfold X12_readCross_j25
      rw [if_neg f3.pos.2.1, Option.bind_some, flt109 f3]
  have hl : L.length < 24 := by omega
  rw [if_neg (show ¬ nI L.length = 24 from wne q (by omega) (by decide))] at eX
  obtain ⟨a1, σ1, υ1, e1, e2, hT1, E1, F1⟩ := hT.next
  have x12 : υ1.1 11 0 12 = 0 := (F1.at1 (by unfold NX; omega)).trans h12
  have hD1 := hD.nc E1 F1
  have eX1 : X12_readCross υ = (X12_told υ1 4).bind fun p39 => if (p39.2.1 11 0 12) = 0 then ((X12_has p39.2 (p39.2.1 13 34 1644) p39.1).bind fun v59 => if v59 = 0 then (X12_readCross_j74 p39.2 (nI L.length) p39.1) else ((X12_fail p39.2 5 (p39.2.1 11 0 15)).bind fun σ71 => X12_readCross_j74 σ71 (nI L.length) p39.1)) else (X12_readCross_j74 p39.2 (nI L.length) p39.1) := by
    rw [eX]
    unfold X12_readCross_j25
    rw [h12, if_pos (by decide), e2, Option.bind_some, k1644]
    rfl
  have eC : X1_crossPart σ 1 = (X1_crossable σ1 1 (-1)).bind fun p27 => if p27.1 = (-1) then (some (0, p27.2)) else ((X1_crossable p27.2 1 p27.1).bind fun p41 => if p41.1 = (-1) then (some (0, p41.2)) else ((X1_perhapsState p41.2).bind fun p56 => (X0_addCrossing p56.2 1 p27.1 p41.1 p56.1).bind fun p59 => (X5_passSign p59.2 59).bind fun p69 => (zb p69.1).bind fun b72 => some (p69.1, p69.2))) := by
    unfold X1_crossPart X1_crossPart_j0
    rw [hfull, Option.bind_some, if_pos hl, if_pos rfl, e1, Option.bind_some]
  rw [eX1, eC]
  rcases crossable_ok hD1 hT1 x12 (-1) with ⟨p, σ2, υ2, g1, -, g3, g4, g5, g6, g7, g8, g9⟩ | ⟨p, σ2, υ2, g1, g2, g3, g4, g5, g6, g7, g8⟩ | ⟨σ2, υ2, g1, g2, g3, g4, g5⟩
  rotate_left
  · have hm : ¬ nI p = -1 := ne_m1 (by omega)
    have hh := (g4.resolve_left hm).2
    refine ⟨0, σ2, υ2, ?_, ?_, .inr ⟨rfl, g6⟩, (NC_CF E1).tr (NCf_CF g7), (NX_XF F1).tr (NXf_XF g8)⟩
    · rw [g2, Option.bind_some, if_pos rfl]
    · rw [g3, Option.bind_some, if_pos x12, hh, Option.bind_some, if_neg neg1_0, g5, Option.bind_some, flt74 g6, Option.bind_some, flt109 g6]
  · refine ⟨0, σ2, υ2, ?_, ?_, .inr ⟨rfl, g3⟩, (NC_CF E1).tr (NCf_CF g4), (NX_XF F1).tr (NXf_XF g5)⟩
    · rw [g1, Option.bind_some, if_pos rfl]
    · rw [g2, Option.bind_some, if_neg g3.pos.2.2, flt74 g3, Option.bind_some, flt109 g3]
  rw [g3, Option.bind_some, if_neg (show ¬ nI p = -1 from ne_m1 (by omega)), g4, Option.bind_some, if_pos x12, g5, Option.bind_some, if_pos rfl]
  have hD2 := hD1.nc g8 g9
  obtain ⟨⟨a2, hT2⟩, y12⟩ := g7
  have EE : Eqo CF σ σ2 := (NC_CF E1).tr (NC_CF g8)
  have FF : Eqo XF υ υ2 := (NX_XF F1).tr (NX_XF g9)
  unfold X12_readCross_j74
  rw [g6, Option.bind_some]
  rcases crossable_ok hD2 hT2 y12 (nI p) with ⟨q', σ3, υ3, k1, k2, k3, k4, k5, k6, k7, k8, k9⟩ | ⟨q', σ3, υ3, k1, k2, k3, k4, k5, k6, k7, k8⟩ | ⟨σ3, υ3, k1, k2, k3, k4, k5⟩
  rotate_left
  · refine ⟨0, σ3, υ3, ?_, ?_, .inr ⟨rfl, k6⟩, EE.tr (NCf_CF k7), FF.tr (NXf_XF k8)⟩
    · rw [k2, Option.bind_some, if_pos rfl]
    · have e112 : X12_readCross_j112 υ2 (nI L.length) (nI p) (nI q') = some υ3 := by
        unfold X12_readCross_j112
        rw [k5, Option.bind_some, flt121 k6]
      rw [k3, Option.bind_some, if_pos y12]
      rcases k4 with k4 | ⟨k4, k4'⟩
      · rw [if_pos k4, e112, Option.bind_some, flt109 k6]
      · rw [if_neg k4, k1644, Option.bind_some, k4', Option.bind_some, if_neg neg1_0, e112, Option.bind_some, flt109 k6]
  · refine ⟨0, σ3, υ3, ?_, ?_, .inr ⟨rfl, k3⟩, EE.tr (NCf_CF k4), FF.tr (NXf_XF k5)⟩
    · rw [k1, Option.bind_some, if_pos rfl]
    · rw [k2, Option.bind_some, if_neg k3.pos.2.2, flt121 k3, Option.bind_some, flt109 k3]
  rw [k3, Option.bind_some, if_neg (show ¬ nI q' = -1 from ne_m1 (by omega)), k4, Option.bind_some, if_pos y12, if_neg k2, k1644, Option.bind_some, k5, Option.bind_some, if_pos rfl]
  have hpq : p ≠ q' := fun z => k2 (by rw [z])
  have hD3 := hD2.nc k8 k9
  obtain ⟨⟨a3, hT3⟩, z12⟩ := k7
  unfold X12_readCross_j121
  rw [k6, Option.bind_some]
  obtain ⟨st, σ4, υ4, m1, m2, m3, m4, m5, m6, m7⟩ := perhapsState_ok hT3 z12
  have hD4 := hD3.nc m6 m7
  obtain ⟨τ, υ5, w1, w2, w3, w4, w5⟩ := hD4.cross m5.2 hl g1 k1 hpq m1
  obtain ⟨w, σ6, υ6, s1, s2, s3, s4, s5⟩ := semi (m5.dx w4 w5)
  have EE6 : Eqo CF σ σ6 := (((EE.tr (NC_CF k8)).tr (NC_CF m6)).tr (DC_CF w4)).tr (NCf_CF s4)
  have FF6 : Eqo XF υ υ6 := (((FF.tr (NX_XF k9)).tr (NX_XF m7)).tr (PC_XF w5)).tr (NXf_XF s5)
  have eR : (X12_stateWord υ3).bind (fun v127 => if (υ3.1 11 0 12) = 0 then (if v127 ≤ 0 then (X12_readCross_j148 υ3 (nI L.length) (nI p) (nI q') v127) else ((X12_next υ3).bind fun σ145 => X12_readCross_j148 σ145 (nI L.length) (nI p) (nI q') v127)) else (X12_readCross_j148 υ3 (nI L.length) (nI p) (nI q') v127)) = some υ5 := by
    rw [m3, Option.bind_some, if_pos z12]
    by_cases y : nI st ≤ 0
    · rw [if_pos y] at m4
      rw [if_pos y, ← m4, w2]
    · rw [if_neg y] at m4
      rw [if_neg y, m4, Option.bind_some, w2]
  rw [m2, Option.bind_some, w1, Option.bind_some, s1, Option.bind_some, eR, Option.bind_some, s2]
  refine ⟨w, σ6, υ6, ?_, rfl, ?_, EE6, FF6⟩
  · rcases s3 with ⟨z, -⟩ | ⟨z, -⟩ <;> subst z <;> rfl
  · rcases s3 with ⟨z, g⟩ | z
    · exact .inl ⟨z, g, hl, _, w3.ncf s4 s5⟩
    · exact .inr z
end CRP
