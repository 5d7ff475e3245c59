/-! ===== mark, back ===== -/
def PC (b : Nat) : Nat → Nat → Nat → Prop := fun k n j => (k = 13 ∧ n = 34 ∧ 410 * b ≤ j ∧ j < 410 * b + 410) ∨ (k = 14 ∧ n = 7 ∧ 11 * b ≤ j ∧ j < 11 * b + 11)
theorem xcopy_ok (σ : SS) {a b : Nat} (ha : a < 5) (hb : b < 5) (hne : a ≠ b) : ∃ τ, X12_copy σ (nI a) (nI b) = some τ ∧ (∀ j, j < 410 → τ.1 13 34 (410 * b + j) = σ.1 13 34 (410 * a + j)) ∧ (∀ j, j < 11 → τ.2 14 7 (11 * b + j) = σ.2 14 7 (11 * a + j)) ∧ Eqo (PC b) σ τ := by
  have c410 : ∀ {k a : Nat}, k < 410 → a < 5 → ck (LN 13 34) (410 * nI a + nI k) = some (410 * a + k) := fun {k a} hk ha => by
    have : (410 : Int32) * nI a + nI k = nI (410 * a + k) := by
      show nI 410 * nI a + nI k = _
      rw [pk_mul, nI_add]
    rw [this, ckc (by omega)]
  have c11 : ∀ {k a : Nat}, k < 11 → a < 5 → ck (LN 14 7) (11 * nI a + nI k) = some (11 * a + k) := fun {k a} hk ha => by
    have : (11 : Int32) * nI a + nI k = nI (11 * a + k) := by
      show nI 11 * nI a + nI k = _
      rw [pk_mul, nI_add]
    rw [this, show LN 14 7 = 55 by decide, ck_nI (by omega) (by decide)]
  obtain ⟨-, w, e, h1, h2⟩ := loopI (f := X12_copy_l2b (nI a) (nI b)) (s := (0, σ)) 410 (fun k (_ : Unit) (w : SS) => ((nI k, w) : Int32 × SS)) (fun _ w => w) (fun k _ w => (∀ j, j < k → w.1 13 34 (410 * b + j) = σ.1 13 34 (410 * a + j)) ∧ Eqo (fun k n j => k = 13 ∧ n = 34 ∧ 410 * b ≤ j ∧ j < 410 * b + 410) σ w) () σ rfl ⟨fun j hj => absurd hj (Nat.not_lt_zero _), Eqo.rf _ _⟩ (by decide) (fun k u w hk hI => by
    obtain ⟨h1, h2⟩ := hI
    show ∃ b' w', X12_copy_l2c w (nI a) (nI b) (nI k) = _ ∧ _
    unfold X12_copy_l2c
    rw [if_neg (show ¬ (410 : Int32) ≤ nI k from nI_ge (b := 410) hk (by decide)), c410 hk ha, Option.bind_some, c410 hk hb, Option.bind_some, Option.bind_some, nI_1, Option.bind_some]
    refine ⟨(), _, rfl, fun j hj => ?_, h2.tr (Eqo.wI ⟨rfl, rfl, by omega, by omega⟩)⟩
    by_cases ej : j = k
    · subst ej
      rw [wI_eq]
      exact h2.at1 (by omega)
    · rw [wI_ne _ _ (by omega)]
      exact h1 j (by omega)) (fun u w hI => by
    show X12_copy_l2c w (nI a) (nI b) (nI 410) = _
    unfold X12_copy_l2c
    rw [if_pos (show (410 : Int32) ≤ nI 410 by decide)])
  obtain ⟨-, v, e2, g1, g2⟩ := loopI (f := X12_copy_l41b (nI a) (nI b)) (s := (0, w)) 11 (fun k (_ : Unit) (w : SS) => ((nI k, w) : Int32 × SS)) (fun _ w => w) (fun k _ v => (∀ j, j < k → v.2 14 7 (11 * b + j) = w.2 14 7 (11 * a + j)) ∧ Eqo (fun k n j => k = 14 ∧ n = 7 ∧ 11 * b ≤ j ∧ j < 11 * b + 11) w v) () w rfl ⟨fun j hj => absurd hj (Nat.not_lt_zero _), Eqo.rf _ _⟩ (by decide) (fun k u v hk hI => by
    obtain ⟨h1, h2⟩ := hI
    show ∃ b' w', X12_copy_l41c v (nI a) (nI b) (nI k) = _ ∧ _
    unfold X12_copy_l41c
    rw [if_neg (show ¬ (11 : Int32) ≤ nI k from nI_ge (b := 11) hk (by decide)), c11 hk ha, Option.bind_some, c11 hk hb, Option.bind_some, Option.bind_some, nI_1, Option.bind_some]
    refine ⟨(), _, rfl, fun j hj => ?_, h2.tr (Eqo.wJ ⟨rfl, rfl, by omega, by omega⟩)⟩
    by_cases ej : j = k
    · subst ej
      rw [wJ_eq]
      exact h2.2 _ _ _ (by omega)
    · rw [wJ_ne _ _ (by omega)]
      exact h1 j (by omega)) (fun u v hI => by
    show X12_copy_l41c v (nI a) (nI b) (nI 11) = _
    unfold X12_copy_l41c
    rw [if_pos (show (11 : Int32) ≤ nI 11 by decide)])
  refine ⟨v, ?_, fun j hj => ?_, fun j hj => ?_, ?_⟩
  · unfold X12_copy X12_copy_j0 X12_copy_l2
    rw [e, Option.bind_some]
    unfold X12_copy_l41
    rw [e2, Option.bind_some]
  · rw [g2.at1 (by omega)]
    exact h1 j hj
  · rw [g1 j hj]
    exact h2.2 _ _ _ (by omega)
  · exact (h2.mono (fun _ _ _ q => .inl q)).tr (g2.mono (fun _ _ _ q => .inr q))
/-- block b of the reference's cells, as if it were the first -/
def shb (b : Nat) (σ : SS) : SS := (fun k n j => if k = 13 ∧ n = 34 then σ.1 13 34 (410 * b + j) else σ.1 k n j, σ.2)
theorem shb_at (b : Nat) (σ : SS) (j : Nat) : (shb b σ).1 13 34 j = σ.1 13 34 (410 * b + j) := by
  show (if (13 : Nat) = 13 ∧ (34 : Nat) = 34 then σ.1 13 34 (410 * b + j) else σ.1 13 34 j) = _
  exact if_pos ⟨rfl, rfl⟩
/-- years and names, drawer d and block b -/
def YrB (d b n : Nat) (σ : SS) : Prop := (σ.1 8 d 1 = 0 ∧ σ.1 13 34 (410 * b + 132) = 0) ∨ (σ.1 8 d 1 = 1 ∧ σ.1 13 34 (410 * b + 132) = 1 ∧ PrR d n σ (shb b σ))
def NmB (d b n nk : Nat) (σ : SS) : Prop := (∀ l, l < n → σ.2 14 d l = σ.2 14 7 (11 * b + l)) ∧ ∀ k, k < nk → σ.2 14 d (8 + k) = σ.2 14 7 (11 * b + (8 + k))
def BlR (d b : Nat) (σ : SS) (n nk : Nat) (nu : Nat → Nat → Nat) (lo : Nat → Nat) (i c : Nat) (s p o : Int32) (L : List X3) : Prop := RS σ d n nk nu lo ∧ RV σ d n i c s p o L ∧ RXS (shb b σ) n nk nu lo ∧ RXV (shb b σ) n i c s p o L ∧ YrB d b n σ ∧ NmB d b n nk σ
def BlE (d b : Nat) (σ : SS) : Prop := ∃ n nk nu lo i c s p o L, BlR d b σ n nk nu lo i c s p o L
section BK
variable {σ τ υ : SS} {n nk i c : Nat} {s p o : Int32} {nu : Nat → Nat → Nat} {lo : Nat → Nat} {L : List X3}
/-- a block is taken over: drawer d from f, block b from a -/
theorem BlR.took {t f a b : Nat} (h : BlR f a σ n nk nu lo i c s p o L) (hT : Took σ τ t f) (hx : ∀ j, j < 410 → τ.1 13 34 (410 * b + j) = σ.1 13 34 (410 * a + j)) (hN : ∀ j, j < 11 → τ.2 14 7 (11 * b + j) = σ.2 14 7 (11 * a + j)) : BlR t b τ n nk nu lo i c s p o L := by
  obtain ⟨h1, h2, h3, h4, h5, h6, h7⟩ := h
  have e : ∀ j, j < 410 → (shb b τ).1 13 34 j = (shb a σ).1 13 34 j := fun j hj => by rw [shb_at, shb_at, hx j hj]
  have h8 := h1.2.2.2.2.2.1
  have hk := h1.2.2.2.2.2.2.1
  refine ⟨hT.RS h1, hT.RV h2, h3.of (fun j hj => e j (by omega)), h4.of (fun j hj => e j (by omega)), ?_, fun l hl => ?_, fun k hkk => ?_⟩
  · have e1 := hT.2.1 1 (by decide) (by decide)
    have e2 := hx 132 (by decide)
    rcases h5 with ⟨g1, g2⟩ | ⟨g1, g2, ns, nl, K, b1, b2, b3, b4, b5⟩
    · exact .inl ⟨e1.trans g1, e2.trans g2⟩
    · exact .inr ⟨e1.trans g1, e2.trans g2, ns, nl, K, b1, b2, (hT.2.1 2 (by decide) (by decide)).trans b3, (e 133 (by decide)).trans b4, Bk.congr (fun j hj => hT.2.2.1 j hj) (fun j _ hj => e j hj) _ _ _ _ _ _ b5 b1 b2⟩
  · rw [hT.2.2.2.2.2.2 l (by omega), hN l (by omega)]
    exact h6 l hl
  · rw [hT.2.2.2.2.2.2 (8 + k) (by omega), hN (8 + k) (by omega)]
    exact h7 k hkk
/-- untouched -/
theorem BlR.keep {d b : Nat} {P : Nat → Nat → Nat → Prop} (h : BlR d b σ n nk nu lo i c s p o L) (hE : Eqo P σ τ) (hP : ∀ k m j, P k m j → ¬ ((k = 0 ∧ m = d ∧ 5 ≤ j ∧ j ≤ 12) ∨ (k = 13 ∧ 4 * d ≤ m ∧ m < 4 * d + 4) ∨ (k = 8 ∧ m = d) ∨ (k = 14 ∧ m = d) ∨ PC b k m j)) : BlR d b τ n nk nu lo i c s p o L := by
  obtain ⟨h1, h2, h3, h4, h5, h6, h7⟩ := h
  have e : ∀ j, j < 410 → (shb b τ).1 13 34 j = (shb b σ).1 13 34 j := fun j hj => by
    rw [shb_at, shb_at]
    exact hE.at1 (fun q => hP _ _ _ q (by unfold PC; omega))
  have h8 := h1.2.2.2.2.2.1
  have hk := h1.2.2.2.2.2.2.1
  refine ⟨h1.keep hE (fun k m j q z => hP _ _ _ q (by omega)), h2.keep hE (fun k m j q z => hP _ _ _ q (by omega)), h3.of (fun j hj => e j (by omega)), h4.of (fun j hj => e j (by omega)), ?_, fun l hl => ?_, fun k hkk => ?_⟩
  · have e8 : ∀ j, τ.1 8 d j = σ.1 8 d j := fun j => hE.at1 (fun q => hP _ _ _ q (by omega))
    have e132 := e 132 (by decide)
    rw [shb_at, shb_at] at e132
    rcases h5 with ⟨g1, g2⟩ | ⟨g1, g2, ns, nl, K, b1, b2, b3, b4, b5⟩
    · exact .inl ⟨(e8 1).trans g1, e132.trans g2⟩
    · exact .inr ⟨(e8 1).trans g1, e132.trans g2, ns, nl, K, b1, b2, (e8 2).trans b3, (e 133 (by decide)).trans b4, Bk.congr (fun j hj => hE.at1 (fun q => hP _ _ _ q (by omega))) (fun j _ hj => e j hj) _ _ _ _ _ _ b5 b1 b2⟩
  · rw [hE.2 _ _ _ (fun q => hP _ _ _ q (by omega)), hE.2 14 7 _ (fun q => hP _ _ _ q (by unfold PC; omega))]
    exact h6 l hl
  · rw [hE.2 _ _ _ (fun q => hP _ _ _ q (by omega)), hE.2 14 7 _ (fun q => hP _ _ _ q (by unfold PC; omega))]
    exact h7 k hkk
theorem shb_0 (σ : SS) : ∀ j, (shb 0 σ).1 13 34 j = σ.1 13 34 j := fun j => by rw [shb_at, Nat.mul_zero, Nat.zero_add]
/-- the first block is RelD -/
theorem BlR.rel (h : BlR 0 0 σ n nk nu lo i c s p o L) : RelD σ n nk nu lo i c s p o L := ⟨h.1, h.2.1, h.2.2.1.of (fun j _ => (shb_0 σ j).symm), h.2.2.2.1.of (fun j _ => (shb_0 σ j).symm)⟩
end BK
