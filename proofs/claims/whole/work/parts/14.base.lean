/-! ===== PURE: numbers, loops, tables, frames ===== -/
theorem l0 : (0 : Int32) = nI 0 := rfl
theorem l1 : (1 : Int32) = nI 1 := rfl
section IFS
variable {α : Type} {a b : Nat} {x y : α}
theorem le_t (h : a ≤ b) (hb : b < 2147483648) : (if nI a ≤ nI b then x else y) = x := if_pos (nI_le h hb)
theorem le_f (h : b < a) (ha : a < 2147483648) : (if nI a ≤ nI b then x else y) = y := if_neg (nI_ge h ha)
theorem lt_t (h : a < b) (hb : b < 2147483648) : (if nI a < nI b then x else y) = x := if_pos (nI_lt h hb)
theorem lt_f (h : b ≤ a) (ha : a < 2147483648) : (if nI a < nI b then x else y) = y := if_neg (nI_nlt h ha)
theorem eq_t (h : a = b) : (if nI a = nI b then x else y) = x := if_pos (by rw [h])
theorem eq_f (h : ¬ a = b) (ha : a < 2147483648) (hb : b < 2147483648) : (if nI a = nI b then x else y) = y := if_neg (fun q => h ((nI_eq ha hb).mp q))
theorem lz_f (ha : a < 2147483648) : (if nI a < 0 then x else y) = y := if_neg (nI_pos ha)
theorem zl_t (h : 0 < a) (ha : a < 2147483648) : (if (0 : Int32) < nI a then x else y) = x := if_pos (by rw [l0]; exact nI_lt h ha)
theorem zl_f (h : a = 0) : (if (0 : Int32) < nI a then x else y) = y := if_neg (by subst h; exact nI_nlt (Nat.le_refl _) (by decide))
theorem ez_t (h : a = 0) : (if nI a = 0 then x else y) = x := if_pos (by rw [h]; rfl)
theorem ez_f (h : 0 < a) (ha : a < 2147483648) : (if nI a = 0 then x else y) = y := if_neg (nI_ne0 h ha)
theorem em_f (ha : a < 2147483648) : (if nI a = -1 then x else y) = y := if_neg (fun q => by
  have h1 := congrArg Int32.toInt q
  rw [nI_toInt ha] at h1
  have h2 : ((-1 : Int32)).toInt = -1 := by decide
  omega)
end IFS
theorem nI_lz {a : Nat} (h : a < 2147483648) : ¬ nI a < 0 := nI_pos h
theorem nI_add1 (a : Nat) : nI a + 1 = nI (a + 1) := nI_1 a
theorem nI_sub1 {a : Nat} (h : 0 < a) : nI a - 1 = nI (a - 1) := pk_sub (a := a) (b := 1) h
theorem ck_nI {len j : Nat} (h : j < len) (h2 : len < 2147483648) : ck len (nI j) = some j := by
  unfold ck
  rw [nI_clamp (by omega), if_neg]
  rintro (q | q)
  · exact nI_pos (by omega) q
  · omega
theorem zb_0 : zb 0 = some 0 := rfl
theorem zb_1 : zb 1 = some 1 := rfl
theorem zb_i {c : Prop} [Decidable c] : zb (if c then 1 else 0) = some (if c then 1 else 0) := by split <;> rfl
/-- a loop that is known step by step -/
theorem iter_for {S T : Type} {f : S → Option (S ⊕ T)} {s : S} (st : Nat → S) (N : Nat) {t : T} (h0 : s = st 0) (hN : N < 2000000) (hs : ∀ k, k < N → f (st k) = some (Sum.inl (st (k + 1)))) (he : f (st N) = some (Sum.inr t)) : iter f NF s = some t := by
  subst h0
  have key : ∀ j n, j + n = N → ∀ F, n < F → iter f F (st j) = some t := by
    intro j n
    induction n generalizing j with
    | zero =>
      intro hj F hF
      obtain ⟨F, rfl⟩ := Nat.exists_eq_succ_of_ne_zero (Nat.ne_of_gt hF)
      have : j = N := by omega
      subst this
      simp only [iter, he, Option.bind_some]
    | succ n ih =>
      intro hj F hF
      obtain ⟨F, rfl⟩ := Nat.exists_eq_succ_of_ne_zero (by omega : F ≠ 0)
      simp only [iter, hs j (by omega), Option.bind_some]
      exact ih (j + 1) (by omega) F (by omega)
  exact key 0 N (by omega) NF (by unfold NF; omega)
/-- a loop with an invariant and a measure -/
theorem iter_inv {S T : Type} {f : S → Option (S ⊕ T)} (I : S → Prop) (μ : S → Nat) (R : T → Prop) (hs : ∀ s, I s → (∃ s', f s = some (Sum.inl s') ∧ I s' ∧ μ s' < μ s) ∨ ∃ t, f s = some (Sum.inr t) ∧ R t) {s : S} (h0 : I s) (hm : μ s < 2000000) : ∃ t, iter f NF s = some t ∧ R t := by
  have key : ∀ F s, I s → μ s < F → ∃ t, iter f F s = some t ∧ R t := by
    intro F
    induction F with
    | zero => intro s _ h; omega
    | succ F ih =>
      intro s hI hF
      rcases hs s hI with ⟨s', e, hI', hl⟩ | ⟨t, e, hR⟩
      · obtain ⟨t, e2, hR⟩ := ih s' hI' (by omega)
        exact ⟨t, by simp only [iter, e, Option.bind_some]; exact e2, hR⟩
      · exact ⟨t, by simp only [iter, e, Option.bind_some], hR⟩
  exact key NF s h0 (by unfold NF; omega)
/-- a loop over k from 0 to N with an invariant -/
theorem iter_upto {S T : Type} {f : S → Option (S ⊕ T)} (I : Nat → S → Prop) (N : Nat) (R : T → Prop) (hs : ∀ k s, k < N → I k s → (∃ s', f s = some (Sum.inl s') ∧ I (k + 1) s') ∨ ∃ t, f s = some (Sum.inr t) ∧ R t) (he : ∀ s, I N s → ∃ t, f s = some (Sum.inr t) ∧ R t) {s : S} (h0 : I 0 s) (hN : N < 2000000 - 1) : ∃ t, iter f NF s = some t ∧ R t := by
  have key : ∀ n j s, j + n = N → I j s → ∀ F, n < F → ∃ t, iter f F s = some t ∧ R t := by
    intro n
    induction n with
    | zero =>
      intro j s hj hI F hF
      obtain ⟨F, rfl⟩ := Nat.exists_eq_succ_of_ne_zero (Nat.ne_of_gt hF)
      have : j = N := by omega
      subst this
      obtain ⟨t, e, hR⟩ := he s hI
      exact ⟨t, by simp only [iter, e, Option.bind_some], hR⟩
    | succ n ih =>
      intro j s hj hI F hF
      obtain ⟨F, rfl⟩ := Nat.exists_eq_succ_of_ne_zero (by omega : F ≠ 0)
      rcases hs j s (by omega) hI with ⟨s', e, hI'⟩ | ⟨t, e, hR⟩
      · obtain ⟨t, e2, hR⟩ := ih (j + 1) s' (by omega) hI' F (by omega)
        exact ⟨t, by simp only [iter, e, Option.bind_some]; exact e2, hR⟩
      · exact ⟨t, by simp only [iter, e, Option.bind_some], hR⟩
  exact key N 0 s (by omega) h0 NF (by unfold NF; omega)
/-- what is not of P stays -/
def Eqo (P : Nat → Nat → Nat → Prop) (σ τ : SS) : Prop := (∀ k n j, ¬ P k n j → τ.1 k n j = σ.1 k n j) ∧ ∀ k n j, ¬ P k n j → τ.2 k n j = σ.2 k n j
theorem Eqo.rf (P : Nat → Nat → Nat → Prop) (σ : SS) : Eqo P σ σ := ⟨fun _ _ _ _ => rfl, fun _ _ _ _ => rfl⟩
theorem Eqo.tr {P : Nat → Nat → Nat → Prop} {σ τ υ : SS} (a : Eqo P σ τ) (b : Eqo P τ υ) : Eqo P σ υ := ⟨fun k n j h => (b.1 k n j h).trans (a.1 k n j h), fun k n j h => (b.2 k n j h).trans (a.2 k n j h)⟩
theorem Eqo.mono {P P' : Nat → Nat → Nat → Prop} {σ τ : SS} (h : Eqo P σ τ) (hP : ∀ k n j, P k n j → P' k n j) : Eqo P' σ τ := ⟨fun k n j q => h.1 k n j (fun z => q (hP k n j z)), fun k n j q => h.2 k n j (fun z => q (hP k n j z))⟩
theorem Eqo.wI {P : Nat → Nat → Nat → Prop} {σ : SS} {k n j : Nat} {x : Int32} (h : P k n j) : Eqo P σ (wI σ k n j x) := ⟨fun a b c q => up3_ne _ _ (fun z => q (by obtain ⟨rfl, rfl, rfl⟩ := z; exact h)), fun _ _ _ _ => rfl⟩
theorem Eqo.wJ {P : Nat → Nat → Nat → Prop} {σ : SS} {k n j : Nat} {x : Int64} (h : P k n j) : Eqo P σ (wJ σ k n j x) := ⟨fun _ _ _ _ => rfl, fun a b c q => up3_ne _ _ (fun z => q (by obtain ⟨rfl, rfl, rfl⟩ := z; exact h))⟩
theorem wI_eq (σ : SS) (k n j : Nat) (x : Int32) : (wI σ k n j x).1 k n j = x := up3_eq _ _ _ _ _
theorem wI_ne (σ : SS) {k n j a b c : Nat} (x : Int32) (h : ¬ (a = k ∧ b = n ∧ c = j)) : (wI σ k n j x).1 a b c = σ.1 a b c := up3_ne _ _ h
theorem wI_2 (σ : SS) (k n j : Nat) (x : Int32) : (wI σ k n j x).2 = σ.2 := rfl
theorem wJ_eq (σ : SS) (k n j : Nat) (x : Int64) : (wJ σ k n j x).2 k n j = x := up3_eq _ _ _ _ _
theorem wJ_ne (σ : SS) {k n j a b c : Nat} (x : Int64) (h : ¬ (a = k ∧ b = n ∧ c = j)) : (wJ σ k n j x).2 a b c = σ.2 a b c := up3_ne _ _ h
theorem wJ_1 (σ : SS) (k n j : Nat) (x : Int64) : (wJ σ k n j x).1 = σ.1 := rfl
/-- tables -/
theorem T_len : ∀ t, t < 31 → LN 13 t = TR t * TW t ∧ TR t * TW t < 1000 ∧ TW t < 1000 ∧ TR t < 1000 ∧ 0 < TW t := by decide +kernel
theorem at_ok (σ : SS) {t r c : Nat} (ht : t < 31) (hr : r < TR t) (hc : c < TW t) : X4_at σ t (nI r) (nI c) = some (σ.1 13 t (r * TW t + c)) := by
  obtain ⟨h1, h2, h3, h4, h5⟩ := T_len t ht
  have h6 : r * TW t + c < TR t * TW t := by
    have : (r + 1) * TW t ≤ TR t * TW t := Nat.mul_le_mul_right _ hr
    rw [Nat.add_mul] at this
    omega
  unfold X4_at X4_at_j0
  simp (disch := omega) only [lz_f, le_f, lt_t, pk_mul, nI_add, Option.bind_some, h1, ck_nI]
theorem put_ok (σ : SS) {t r c : Nat} (x : Int32) (ht : t < 31) (hr : r < TR t) (hc : c < TW t) : X4_put σ t (nI r) (nI c) x = some (wI σ 13 t (r * TW t + c) x) := by
  obtain ⟨h1, h2, h3, h4, h5⟩ := T_len t ht
  have h6 : r * TW t + c < TR t * TW t := by
    have : (r + 1) * TW t ≤ TR t * TW t := Nat.mul_le_mul_right _ hr
    rw [Nat.add_mul] at this
    omega
  unfold X4_put X4_put_j0
  simp (disch := omega) only [lz_f, le_f, lt_t, pk_mul, nI_add, Option.bind_some, h1, ck_nI]
theorem T_d : ∀ d, d < 5 → TR (4 * d) = 4 ∧ TW (4 * d) = 60 ∧ TR (4 * d + 1) = 7 ∧ TW (4 * d + 1) = 8 ∧ TR (4 * d + 2) = 3 ∧ TW (4 * d + 2) = 24 ∧ TR (4 * d + 3) = 1 ∧ TW (4 * d + 3) = 3 := by decide +kernel
