/-! ===== TEXTS: signs, words and numbers are passed ===== -/
def NCf : Nat → Nat → Nat → Prop := fun k n j => NC k n j ∨ (k = 4 ∧ n = 0 ∧ (j = 7 ∨ j = 8))
def NXf : Nat → Nat → Nat → Prop := fun k n j => NX k n j ∨ (k = 11 ∧ n = 0 ∧ (j = 12 ∨ j = 13))
/-- a fault is told on both sides -/
def Flt (σ υ : SS) : Prop := ∃ f : Nat, 1 ≤ f ∧ f ≤ 10 ∧ σ.1 4 0 7 = nI f ∧ υ.1 11 0 12 = nI f ∧ σ.1 4 0 8 = υ.1 11 0 13
theorem NC_NCf {σ τ : SS} (h : Eqo NC σ τ) : Eqo NCf σ τ := h.mono (fun _ _ _ q => .inl q)
theorem NX_NXf {σ τ : SS} (h : Eqo NX σ τ) : Eqo NXf σ τ := h.mono (fun _ _ _ q => .inl q)
theorem clK_bad (k : Nat) (h : k ≤ 4) : (clK k = 1 ↔ k = 4) ∧ clK k ≤ 5 ∧ (clK k = 2 ↔ k = 1) ∧ (clK k = 3 ↔ k = 2) ∧ (clK k = 4 ↔ k = 3) ∧ (clK k = 0 ↔ k = 0) := by
  have : k = 0 ∨ k = 1 ∨ k = 2 ∨ k = 3 ∨ k = 4 := by omega
  rcases this with z | z | z | z | z <;> subst z <;> decide
theorem tkK_le (B : Nat → Nat) (S a : Nat) : tkK B S a ≤ 4 := by
  unfold tkK
  split
  · decide
  · split
    · decide
    · split
      · split <;> decide
      · split <;> decide
section PZ
variable {σ υ : SS} {B : Nat → Nat} {S a : Nat}
theorem TK.keep {σ' υ' : SS} {P Q : Nat → Nat → Nat → Prop} (h : TK B S a σ υ) (hE : Eqo P σ σ') (hE2 : Eqo Q υ υ') (hP : ∀ k n j, P k n j → ¬ ((k = 4 ∧ n = 0 ∧ 2 ≤ j ∧ j ≤ 8) ∨ (k = 13 ∧ n = 31))) (hQ : ∀ k n j, Q k n j → ¬ ((k = 11 ∧ n = 0 ∧ (j = 9 ∨ (14 ≤ j ∧ j ≤ 19))) ∨ (k = 12 ∧ n = 0))) : TK B S a σ' υ' := by
  obtain ⟨h1, h2, h3, h4, h5, h6, h7, h8, h9, h10, h11, h12, h13, h14, h15, h16⟩ := h
  have e : ∀ j, 2 ≤ j → j ≤ 8 → σ'.1 4 0 j = σ.1 4 0 j := fun j a b => hE.at1 (fun q => hP _ _ _ q (by omega))
  have x : ∀ j, 14 ≤ j → j ≤ 19 → υ'.1 11 0 j = υ.1 11 0 j := fun j a b => hE2.at1 (fun q => hQ _ _ _ q (by omega))
  have y : υ'.2 11 0 19 = υ.2 11 0 19 := hE2.2 _ _ _ (fun q => hQ _ _ _ q (by omega))
  refine ⟨h1.keep hE (fun k n j q z => hP _ _ _ q (by omega)), h2.keep hE2 (fun k n j q z => hQ _ _ _ q (by omega)), h3, ?_, ?_, ?_, fun z => ?_, fun z => ?_, ?_, ?_, ?_, fun z => ⟨?_, ?_⟩, fun z => ?_, fun z => ?_, ?_, ?_⟩
  · rw [e 4 (by decide) (by decide)]; exact h4
  · rw [e 5 (by decide) (by decide)]; exact h5
  · rw [e 3 (by decide) (by decide)]; exact h6
  · rw [e 6 (by decide) (by decide)]; exact h7 z
  · rw [e 6 (by decide) (by decide)]; exact h8 z
  · rw [x 15 (by decide) (by decide)]; exact h9
  · rw [x 16 (by decide) (by decide)]; exact h10
  · rw [x 14 (by decide) (by decide)]; exact h11
  · rw [x 18 (by decide) (by decide)]; exact (h12 z).1
  · rw [y]; exact (h12 z).2
  · rw [x 17 (by decide) (by decide)]; exact h13 z
  · rw [x 17 (by decide) (by decide)]; exact h14 z
  · rw [e 7 (by decide) (by decide)]; exact h15
  · rw [e 8 (by decide) (by decide)]; exact h16
/-- both tell a fault here -/
theorem TK.fail (h : TK B S a σ υ) (h12 : υ.1 11 0 12 = 0) {x : Nat} (hx : 1 ≤ x ∧ x ≤ 10) (hk : tkK B S a ≠ 4) : ∃ σ' υ', X5_fail σ (nI x) = some (0, σ') ∧ X12_fail υ (nI x) (υ.1 11 0 15) = some υ' ∧ Flt σ' υ' ∧ Eqo NCf σ σ' ∧ Eqo NXf υ υ' := by
  obtain ⟨h1, h2, h3, h4, h5, h6, h7, h8, h9, -⟩ := h
  have hc := clK_bad _ (tkK_le B S a)
  have hc1 : ¬ nI (clK (tkK B S a)) = 1 := wne (fun z => hk (hc.1.mp z)) (by omega) (by decide)
  refine ⟨wI (wI σ 4 0 7 (nI x)) 4 0 8 (nI a), wI (wI υ 11 0 12 (nI x)) 11 0 13 (nI a), ?_, ?_, ⟨x, hx.1, hx.2, ?_, ?_, ?_⟩, (Eqo.wI (.inr (by omega))).tr (Eqo.wI (.inr (by omega))), (Eqo.wI (.inr (by omega))).tr (Eqo.wI (.inr (by omega)))⟩
  · unfold X5_fail X5_fail_j0 X5_fail_j14
    rw [h6, if_neg hc1, Option.bind_some, wI_ne _ _ (by omega), h4, Option.bind_some]
  · unfold X12_fail X12_fail_j0
    rw [h12, if_pos (by decide), h9, Option.bind_some, Option.bind_some]
  · rw [wI_ne _ _ (by omega), wI_eq]
  · rw [wI_ne _ _ (by omega), wI_eq]
  · rw [wI_eq, wI_eq]
theorem TK.wrong (h : TK B S a σ υ) (h12 : υ.1 11 0 12 = 0) : ∃ σ' υ', X5_fail σ 2 = some (0, σ') ∧ X12_wrong υ = some υ' ∧ Flt σ' υ' ∧ Eqo NCf σ σ' ∧ Eqo NXf υ υ' := by
  obtain ⟨h1, h2, h3, h4, h5, h6, h7, h8, h9, h10, h11, -⟩ := h
  have hc := clK_bad _ (tkK_le B S a)
  have hkl := tkK_le B S a
  by_cases q : tkK B S a = 4
  · refine ⟨wI (wI σ 4 0 7 1) 4 0 8 (nI a), wI (wI υ 11 0 12 1) 11 0 13 (nI a), ?_, ?_, ⟨1, by decide, by decide, ?_, ?_, ?_⟩, (Eqo.wI (.inr (by omega))).tr (Eqo.wI (.inr (by omega))), (Eqo.wI (.inr (by omega))).tr (Eqo.wI (.inr (by omega)))⟩
    · unfold X5_fail X5_fail_j0 X5_fail_j14
      rw [h6, q, if_pos (by decide), Option.bind_some, wI_ne _ _ (by omega), h4, Option.bind_some]
    · unfold X12_wrong X12_wrong_j0 X12_wrong_j14 X12_fail X12_fail_j0
      rw [h11, q, if_pos (show nI 4 = 4 from rfl), h12, if_pos (by decide), h9, Option.bind_some, Option.bind_some, Option.bind_some]
    · rw [wI_ne _ _ (by omega), wI_eq]; rfl
    · rw [wI_ne _ _ (by omega), wI_eq]; rfl
    · rw [wI_eq, wI_eq]
  · have hc1 : ¬ nI (clK (tkK B S a)) = 1 := wne (fun z => q (hc.1.mp z)) (by omega) (by decide)
    have hx1 : ¬ nI (tkK B S a) = 4 := wne q (by omega) (by decide)
    refine ⟨wI (wI σ 4 0 7 2) 4 0 8 (nI a), wI (wI υ 11 0 12 2) 11 0 13 (nI a), ?_, ?_, ⟨2, by decide, by decide, ?_, ?_, ?_⟩, (Eqo.wI (.inr (by omega))).tr (Eqo.wI (.inr (by omega))), (Eqo.wI (.inr (by omega))).tr (Eqo.wI (.inr (by omega)))⟩
    · unfold X5_fail X5_fail_j0 X5_fail_j14
      rw [h6, if_neg hc1, Option.bind_some, wI_ne _ _ (by omega), h4, Option.bind_some]
    · unfold X12_wrong X12_wrong_j0 X12_wrong_j14 X12_fail X12_fail_j0
      rw [h11, if_neg hx1, h12, if_pos (by decide), h9, Option.bind_some, Option.bind_some, Option.bind_some]
    · rw [wI_ne _ _ (by omega), wI_eq]; rfl
    · rw [wI_ne _ _ (by omega), wI_eq]; rfl
    · rw [wI_eq, wI_eq]
/-- once a fault is told, the reference only looks on -/
theorem Flt.pos (h : Flt σ υ) : 0 < υ.1 11 0 12 ∧ ¬ υ.1 11 0 12 ≤ 0 ∧ ¬ υ.1 11 0 12 = 0 := by
  obtain ⟨f, h1, h2, -, h4, -⟩ := h
  rw [h4]
  have : f = 1 ∨ f = 2 ∨ f = 3 ∨ f = 4 ∨ f = 5 ∨ f = 6 ∨ f = 7 ∨ f = 8 ∨ f = 9 ∨ f = 10 := by omega
  rcases this with z | z | z | z | z | z | z | z | z | z <;> subst z <;> decide
theorem must_no (h : ¬ υ.1 11 0 12 ≤ 0) (v : Int32) : X12_must υ v = some υ := by
  unfold X12_must X12_must_j0
  rw [if_neg h]
theorem fail_no (h : ¬ υ.1 11 0 12 ≤ 0) (x y : Int32) : X12_fail υ x y = some υ := by
  unfold X12_fail X12_fail_j0
  rw [if_neg h]
theorem wrong_no (h : ¬ υ.1 11 0 12 ≤ 0) : X12_wrong υ = some υ := by
  unfold X12_wrong X12_wrong_j0 X12_wrong_j14
  rw [fail_no h, Option.bind_some]
theorem count_no (h : ¬ υ.1 11 0 12 ≤ 0) (h0 : ¬ υ.1 11 0 12 = 0) (x y : Int32) : X12_count υ x y = some (0, υ) := by
  unfold X12_count X12_count_j0 X12_count_j19 X12_count_j50
  rw [if_neg h0, if_neg h0, if_neg h]
/-- both go on, or both have told a fault -/
def Gon (B : Nat → Nat) (S : Nat) (σ υ : SS) : Prop := (∃ a, TK B S a σ υ) ∧ υ.1 11 0 12 = 0
theorem TK.gon (h : TK B S a σ υ) (h12 : υ.1 11 0 12 = 0) : Gon B S σ υ := ⟨⟨a, h⟩, h12⟩
theorem next_gon (h : TK B S a σ υ) (h12 : υ.1 11 0 12 = 0) : ∃ σ' υ', X5_next σ = some σ' ∧ X12_next υ = some υ' ∧ Gon B S σ' υ' ∧ Eqo NC σ σ' ∧ Eqo NX υ υ' := by
  obtain ⟨a', σ', υ', e1, e2, g, E1, E2⟩ := h.next
  exact ⟨σ', υ', e1, e2, ⟨⟨a', g⟩, (E2.at1 (by unfold NX; omega)).trans h12⟩, E1, E2⟩
/-- a word must stand here -/
theorem must_word (h : TK B S a σ υ) (h12 : υ.1 11 0 12 = 0) {k : Nat} {W : List Nat} (hk : WDS[k]? = some W) : ∃ v w σ' υ', X12_isWord υ (lN (cdL W)) = some v ∧ X5_passWord σ (nI k) = some (w, σ') ∧ X12_must υ v = some υ' ∧ ((w = 1 ∧ Gon B S σ' υ') ∨ (w = 0 ∧ Flt σ' υ')) ∧ Eqo NCf σ σ' ∧ Eqo NXf υ υ' := by
  obtain ⟨v, hv, e1, e2, -⟩ := h.word hk
  rcases hv with z | z
  · subst z
    obtain ⟨σ', υ', f1, f2, f3, f4, f5⟩ := h.wrong h12
    refine ⟨0, 0, σ', υ', e2, ?_, ?_, .inr ⟨rfl, f3⟩, f4, f5⟩
    · unfold X5_passWord X5_passWord_j0
      rw [e1, Option.bind_some, if_pos rfl, f1, Option.bind_some]
      rfl
    · unfold X12_must X12_must_j0
      rw [h12, if_pos (by decide), if_pos rfl, f2, Option.bind_some]
  · subst z
    obtain ⟨σ', υ', f1, f2, f3, f4, f5⟩ := next_gon h h12
    refine ⟨1, 1, σ', υ', e2, ?_, ?_, .inl ⟨rfl, f3⟩, NC_NCf f4, NX_NXf f5⟩
    · unfold X5_passWord X5_passWord_j0
      rw [e1, Option.bind_some, if_neg neg1_0, f1, Option.bind_some]
    · unfold X12_must X12_must_j0
      rw [h12, if_pos (by decide), if_neg neg1_0, f2, Option.bind_some]
/-- is it that sign? -/
theorem TK.sign (h : TK B S a σ υ) {s : Nat} (hs : s < 256) : ∃ v : Int32, (v = 0 ∨ v = 1) ∧ X5_signIs σ (nI s) = some v ∧ X12_isSign υ (nI s) = some v := by
  obtain ⟨h1, h2, h3, h4, h5, h6, h7, h8, h9, h10, h11, h12, h13, h14, -⟩ := h
  have hc := clK_bad _ (tkK_le B S a)
  have hkl := tkK_le B S a
  unfold X5_signIs X5_signIs_j0 X12_isSign X12_isSign_j0
  rw [h6, h11]
  by_cases q : tkK B S a = 3
  · have haS : a < S := by
      unfold tkK at q
      split at q
      · cases q
      · omega
    rw [q, if_pos (show nI (clK 3) = 4 by decide), if_pos (show nI 3 = 3 from rfl), h4, h1.at haS, Option.bind_some, h14 q]
    by_cases y : nI (B a) = nI s
    · rw [if_pos y]
      exact ⟨1, .inr rfl, rfl, rfl⟩
    · rw [if_neg y]
      exact ⟨0, .inl rfl, rfl, rfl⟩
  · rw [if_neg (show ¬ nI (clK (tkK B S a)) = 4 from wne (fun z => q (hc.2.2.2.2.1.mp z)) (by omega) (by decide)), if_neg (show ¬ nI (tkK B S a) = 3 from wne q (by omega) (by decide))]
    exact ⟨0, .inl rfl, rfl, rfl⟩
theorem must_sign (h : TK B S a σ υ) (h12 : υ.1 11 0 12 = 0) {s : Nat} (hs : s < 256) : ∃ v w σ' υ', X12_isSign υ (nI s) = some v ∧ X5_passSign σ (nI s) = some (w, σ') ∧ X12_must υ v = some υ' ∧ ((w = 1 ∧ Gon B S σ' υ') ∨ (w = 0 ∧ Flt σ' υ')) ∧ Eqo NCf σ σ' ∧ Eqo NXf υ υ' := by
  obtain ⟨v, hv, e1, e2⟩ := h.sign hs
  rcases hv with z | z
  · subst z
    obtain ⟨σ', υ', f1, f2, f3, f4, f5⟩ := h.wrong h12
    refine ⟨0, 0, σ', υ', e2, ?_, ?_, .inr ⟨rfl, f3⟩, f4, f5⟩
    · unfold X5_passSign X5_passSign_j0
      rw [e1, Option.bind_some, if_pos rfl, f1, Option.bind_some]
      rfl
    · unfold X12_must X12_must_j0
      rw [h12, if_pos (by decide), if_pos rfl, f2, Option.bind_some]
  · subst z
    obtain ⟨σ', υ', f1, f2, f3, f4, f5⟩ := next_gon h h12
    refine ⟨1, 1, σ', υ', e2, ?_, ?_, .inl ⟨rfl, f3⟩, NC_NCf f4, NX_NXf f5⟩
    · unfold X5_passSign X5_passSign_j0
      rw [e1, Option.bind_some, if_neg neg1_0, f1, Option.bind_some]
    · unfold X12_must X12_must_j0
      rw [h12, if_pos (by decide), if_neg neg1_0, f2, Option.bind_some]
end PZ
