/-! ===== the reference: cuts, clips, openings ===== -/
theorem mem_updC {l : Nat} {L : List X3} {x : X3} (h : x ∈ updL (gC l) L) : x ∈ L ∧ qO l x = false := by
  unfold updL res at h
  obtain ⟨y, hy, rfl⟩ := List.mem_map.mp h
  obtain ⟨hy1, hy2⟩ := List.mem_filter.mp hy
  obtain ⟨z, hz, rfl⟩ := List.mem_map.mp hy1
  refine ⟨hz, ?_⟩
  simpa [mkg, gC] using hy2
theorem and_not_tb {i l k : Nat} (hl : l < 8) : (i &&& (255 ^^^ 2 ^ l)).testBit k = true ↔ i.testBit k = true ∧ k ≠ l ∧ (k < 8) := by
  rw [Nat.testBit_and, Bool.and_eq_true]
  by_cases hk : k < 8
  · rw [xor_tb hk, Nat.testBit_two_pow]
    simp only [Bool.not_eq_true', decide_eq_false_iff_not]
    constructor
    · rintro ⟨a, b⟩
      exact ⟨a, fun z => b z.symm, hk⟩
    · rintro ⟨a, b, _⟩
      exact ⟨a, fun z => b z.symm⟩
  · constructor
    · rintro ⟨_, b⟩
      have : 255 ^^^ 2 ^ l < 256 := by
        have := @Nat.xor_lt_two_pow 255 (2 ^ l) 8 (by decide) (pow_lt8 hl)
        exact this
      exact absurd (tb_lt this b) hk
    · rintro ⟨_, _, z⟩
      exact absurd z hk
section D5
variable {σ : SS} {n nk i c : Nat} {s p o : Int32} {nu : Nat → Nat → Nat} {lo : Nat → Nat} {L : List X3}
theorem xand (a : Nat) (ha : a < 256) {l : Nat} (hl : l < 8) : nI a &&& ((1 <<< (nI l &&& 31)) ^^^ (-1)) = nI (a &&& (255 ^^^ 2 ^ l)) := by
  have hsh : nI 1 <<< (nI l &&& nI 31) = nI (2 ^ l) := hsh hl
  have : nI a &&& (nI (2 ^ l) ^^^ -nI 1) = nI (a &&& (255 ^^^ 2 ^ l)) := nI_andn ha
  rw [← this, ← hsh]
  rfl
theorem clt (hs : n ≤ 8) (h : RXV σ n i c s p o L) : c < 256 := lt256 (fun k hk => tb_lt (p256 hs h.ilt) (h.sub k hk))
theorem xcuts (hs : RXS σ n nk nu lo) (h : RXV σ n i c s p o L) {l : Nat} (hl : l < n) : ∃ τ, X12_cuts σ (nI l) = some (nI (cnt L l), τ) ∧ Eqo XC σ τ ∧ RXV τ n (i &&& (255 ^^^ 2 ^ l)) (c &&& (255 ^^^ 2 ^ l)) s (p + nI (nu 4 l)) o (updL (gC l) L) := by
  have h8 := hs.n8
  have h24 := h.l24
  have hi := p256 h8 h.ilt
  have hc := clt h8 h
  have g4 := hs.gn (w := 4) (by decide) hl
  have c40 : ck (LN 13 34) (40 + nI l) = some (8 + 8 * 4 + l) := by
    show ck (LN 13 34) (nI 40 + nI l) = _
    rw [nI_add]
    exact ckc (by omega)
  let σ3 := wI (wI (wI σ 13 34 6 (p + nI (nu 4 l))) 13 34 3 (nI (i &&& (255 ^^^ 2 ^ l)))) 13 34 4 (nI (c &&& (255 ^^^ 2 ^ l)))
  have hE3 : Eqo XC σ σ3 := ((Eqo.wI (by unfold XC; omega)).tr (Eqo.wI (by unfold XC; omega))).tr (Eqo.wI (by unfold XC; omega))
  have hcell : ∀ j, 60 ≤ j → σ3.1 13 34 j = σ.1 13 34 j := fun j hj => by
    show (wI _ 13 34 4 _).1 13 34 j = _
    rw [wI_ne _ _ (by omega), wI_ne _ _ (by omega), wI_ne _ _ (by omega)]
  obtain ⟨τ, e, hE, g1, g2⟩ := xdropsAll0 (σ := σ3) (L := L) (l := l) (by
    show (wI _ 13 34 4 _).1 13 34 1 = _
    rw [wI_ne _ _ (by omega), wI_ne _ _ (by omega), wI_ne _ _ (by omega)]
    exact h.len) (fun k x hx => by
    have := h.cr k x hx
    unfold xf at this ⊢
    rw [hcell _ (by omega), hcell _ (by omega), hcell _ (by omega)]
    exact this) h24 (xwf8 h8 h) (by omega)
  refine ⟨τ, ?_, hE3.tr (XD_XC hE), ?_⟩
  · unfold X12_cuts X12_cuts_j0
    rw [ck6, Option.bind_some, c40, Option.bind_some, Option.bind_some, h.pen, g4, Option.bind_some, ck3, Option.bind_some, Option.bind_some, wI_ne _ _ (by omega), h.ins, xand i hi (by omega), Option.bind_some, ck4, Option.bind_some, Option.bind_some, wI_ne _ _ (by omega), wI_ne _ _ (by omega), h.clp, xand c hc (by omega), Option.bind_some]
    have e' : X12_dropsAll (wI (wI (wI σ 13 34 6 (p + nI (nu 4 l))) 13 34 3 (nI (i &&& (255 ^^^ 2 ^ l)))) 13 34 4 (nI (c &&& (255 ^^^ 2 ^ l)))) (nI l) = some (nI (cnt L l), τ) := e
    rw [e', Option.bind_some]
  · have f : ∀ j, j < 60 → j ≠ 1 → τ.1 13 34 j = σ3.1 13 34 j := fun j q q2 => hE.1 13 34 j (by unfold XD; omega)
    refine ⟨g1, ?_, ?_, ?_, ?_, ?_, g2, Nat.lt_of_le_of_lt Nat.and_le_left h.ilt, h.wl.up (gC l) (fun x hx _ => (h.wl.2 x hx).2.2.2), ?_, ?_⟩
    · rw [f _ (by omega) (by omega)]
      show (wI _ 13 34 4 _).1 13 34 3 = _
      rw [wI_ne _ _ (by omega), wI_eq]
    · rw [f _ (by omega) (by omega)]
      show (wI _ 13 34 4 _).1 13 34 4 = _
      rw [wI_eq]
    · rw [f _ (by omega) (by omega)]
      show (wI _ 13 34 4 _).1 13 34 5 = _
      rw [wI_ne _ _ (by omega), wI_ne _ _ (by omega), wI_ne _ _ (by omega)]
      exact h.sec
    · rw [f _ (by omega) (by omega)]
      show (wI _ 13 34 4 _).1 13 34 6 = _
      rw [wI_ne _ _ (by omega), wI_ne _ _ (by omega), wI_eq]
    · rw [f _ (by omega) (by omega)]
      show (wI _ 13 34 4 _).1 13 34 7 = _
      rw [wI_ne _ _ (by omega), wI_ne _ _ (by omega), wI_ne _ _ (by omega)]
      exact h.opn
    · intro x hx
      obtain ⟨hx1, hx2⟩ := mem_updC hx
      have hin := h.inn x hx1
      unfold qO at hx2
      simp only [Bool.or_eq_false_iff, beq_eq_false_iff_ne] at hx2
      have hw := xwf8 h8 h x hx1
      exact ⟨(and_not_tb (by omega)).mpr ⟨hin.1, hx2.1, hw.1⟩, (and_not_tb (by omega)).mpr ⟨hin.2, hx2.2, hw.2⟩⟩
    · intro k hk
      obtain ⟨a, b, d⟩ := (and_not_tb (by omega)).mp hk
      exact (and_not_tb (by omega)).mpr ⟨h.sub k a, b, d⟩
theorem xcrossable (hn : n ≤ 8) (h : RXV σ n i c s p o L) : X12_crossable σ = some (nI (i &&& (255 ^^^ c))) := by
  unfold X12_crossable X12_crossable_j0
  rw [ck3, Option.bind_some, ck4, Option.bind_some, h.ins, h.clp]
  exact congrArg some (nI_andn (p256 hn h.ilt))
theorem xcrosses (hn : n ≤ 8) (h : RXV σ n i c s p o L) (hl : L.length < 24) {a b w : Nat} (ha : a < n) (hb : b < n) (hab : a ≠ b) (hw : w ≤ 3) (hia : i.testBit a = true) (hib : i.testBit b = true) : ∃ τ, X12_crosses σ (nI a) (nI b) (nI w) = some τ ∧ Eqo XD σ τ ∧ RXV τ n i c s p o (L ++ [(a, b, w)]) := by
  let m := L.length
  let υ := wI (wI (wI (wI σ 13 34 (60 + m) (nI a)) 13 34 (84 + m) (nI b)) 13 34 (108 + m) (nI w)) 13 34 1 (nI (m + 1))
  have hE : Eqo XD σ υ := (((Eqo.wI (P := XD) ⟨rfl, rfl, .inr ⟨by omega, by omega⟩⟩).tr (Eqo.wI ⟨rfl, rfl, .inr ⟨by omega, by omega⟩⟩)).tr (Eqo.wI ⟨rfl, rfl, .inr ⟨by omega, by omega⟩⟩)).tr (Eqo.wI ⟨rfl, rfl, .inl rfl⟩)
  refine ⟨υ, ?_, hE, h.newL hE ?_ ?_ ?_ ?_⟩
  · unfold X12_crosses X12_crosses_j0
    rw [ck1, Option.bind_some, h.len, Option.bind_some, ckO (by omega), Option.bind_some, Option.bind_some, ckU (by omega), Option.bind_some, Option.bind_some, ckS (by omega), Option.bind_some, Option.bind_some, Option.bind_some, Option.bind_some, wI_ne _ _ (by omega), wI_ne _ _ (by omega), wI_ne _ _ (by omega), h.len, nI_1, Option.bind_some]
  · rw [List.length_append]
    exact wI_eq _ _ _ _ _
  · intro k y hy
    unfold xf
    by_cases hk : k < m
    · rw [List.getElem?_append_left hk] at hy
      obtain ⟨_, _, -, -, -, -, g0, g1, g2⟩ := h.x hy
      have g0' : σ.1 13 34 (60 + 24 * 0 + k) = nI y.1 := g0
      have g1' : σ.1 13 34 (60 + 24 * 1 + k) = nI y.2.1 := g1
      have g2' : σ.1 13 34 (60 + 24 * 2 + k) = nI y.2.2 := g2
      simp (disch := omega) only [υ, wI_ne, g0', g1', g2']
      exact ⟨trivial, trivial, trivial⟩
    · have hk2 : k = m := by
        have := (List.getElem?_eq_some_iff.mp hy).1
        rw [List.length_append] at this
        simp at this
        omega
      subst hk2
      rw [List.getElem?_append_right (Nat.le_refl _), Nat.sub_self] at hy
      cases hy
      have e0 : υ.1 13 34 (60 + L.length) = nI a := by
        show (wI _ 13 34 1 _).1 13 34 _ = _
        rw [wI_ne _ _ (by omega), wI_ne _ _ (by omega), wI_ne _ _ (by omega), wI_eq]
      have e1 : υ.1 13 34 (84 + L.length) = nI b := by
        show (wI _ 13 34 1 _).1 13 34 _ = _
        rw [wI_ne _ _ (by omega), wI_ne _ _ (by omega), wI_eq]
      have e2 : υ.1 13 34 (108 + L.length) = nI w := by
        show (wI _ 13 34 1 _).1 13 34 _ = _
        rw [wI_ne _ _ (by omega), wI_eq]
      exact ⟨e0, e1, e2⟩
  · refine ⟨by rw [List.length_append]; simp; omega, fun y hy => ?_⟩
    rcases List.mem_append.mp hy with q | q
    · exact h.wl.2 y q
    · rw [List.mem_singleton] at q
      subst q
      exact ⟨ha, hb, hab, hw⟩
  · intro y hy
    rcases List.mem_append.mp hy with q | q
    · exact h.inn y q
    · rw [List.mem_singleton] at q
      subst q
      exact ⟨hia, hib⟩
end D5
