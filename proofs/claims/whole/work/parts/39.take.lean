/-! ===== the class: taking a drawer over ===== -/
theorem LN_d : ∀ d, d < 5 → LN 13 (4 * d) = 240 ∧ LN 13 (4 * d + 1) = 56 ∧ LN 13 (4 * d + 2) = 72 ∧ LN 13 (4 * d + 3) = 3 ∧ LN 14 d = 11 := by decide +kernel
theorem ttake {σ : SS} {t r N : Nat} (h1 : LN 13 t = N) (h2 : LN 13 r = N) (hN : N < 1000) (hne : t ≠ r) : ∃ τ, X4_takeOver σ t r = some τ ∧ τ.2 = σ.2 ∧ (∀ k n j, ¬ (k = 13 ∧ n = t) → τ.1 k n j = σ.1 k n j) ∧ ∀ j, j < N → τ.1 13 t j = σ.1 13 r j := by
  have key : ∃ u, iter (X4_takeOver_l7b t r) NF (0, σ) = some u ∧ u.2 = σ.2 ∧ (∀ k n j, ¬ (k = 13 ∧ n = t) → u.1 k n j = σ.1 k n j) ∧ ∀ j, j < N → u.1 13 t j = σ.1 13 r j := by
    refine iter_upto (fun m (st : Int32 × SS) => st.1 = nI m ∧ st.2.2 = σ.2 ∧ (∀ k n j, ¬ (k = 13 ∧ n = t) → st.2.1 k n j = σ.1 k n j) ∧ ∀ j, j < m → st.2.1 13 t j = σ.1 13 r j) N (fun (u : SS) => u.2 = σ.2 ∧ (∀ k n j, ¬ (k = 13 ∧ n = t) → u.1 k n j = σ.1 k n j) ∧ ∀ j, j < N → u.1 13 t j = σ.1 13 r j) (fun m st hm hI => ?_) (fun st hI => ?_) ⟨rfl, rfl, fun _ _ _ _ => rfl, fun j hj => absurd hj (Nat.not_lt_zero _)⟩ (by omega)
    · left
      obtain ⟨x, υ⟩ := st
      obtain ⟨g1, g2, g3, g4⟩ := hI
      simp only at g1 g2 g3 g4
      subst g1
      refine ⟨(nI (m + 1), wI υ 13 t m (υ.1 13 r m)), ?_, rfl, g2, fun k n j q => ?_, fun j hj => ?_⟩
      · show X4_takeOver_l7c υ t r (nI m) = _
        unfold X4_takeOver_l7c
        rw [h1, h2, if_neg (nI_ge hm (by omega)), if_neg (nI_ge hm (by omega)), ck_nI hm (by omega), Option.bind_some, Option.bind_some, Option.bind_some, nI_1, Option.bind_some]
      · simp only
        rw [wI_ne _ _ (by omega)]
        exact g3 k n j q
      · simp only
        by_cases e : j = m
        · subst e
          rw [wI_eq]
          exact g3 _ _ _ (by omega)
        · rw [wI_ne _ _ (by omega)]
          exact g4 j (by omega)
    · obtain ⟨x, υ⟩ := st
      obtain ⟨g1, g2, g3, g4⟩ := hI
      simp only at g1 g2 g3 g4
      subst g1
      refine ⟨υ, ?_, g2, g3, g4⟩
      show X4_takeOver_l7c υ t r (nI N) = _
      unfold X4_takeOver_l7c
      rw [h1, if_pos (nI_le (Nat.le_refl _) (by omega))]
  obtain ⟨u, e, h⟩ := key
  refine ⟨u, ?_, h⟩
  unfold X4_takeOver X4_takeOver_j0 X4_takeOver_l7
  rw [e, Option.bind_some]
theorem ntake {σ : SS} {t r : Nat} (h1 : LN 14 t = 11) (h2 : LN 14 r = 11) (hne : t ≠ r) : ∃ τ, iter (X0_takeOver_l51b t r) NF (0, σ) = some τ ∧ τ.1 = σ.1 ∧ (∀ k n j, ¬ (k = 14 ∧ n = t) → τ.2 k n j = σ.2 k n j) ∧ ∀ j, j < 11 → τ.2 14 t j = σ.2 14 r j := by
  refine iter_upto (fun m (st : Int32 × SS) => st.1 = nI m ∧ st.2.1 = σ.1 ∧ (∀ k n j, ¬ (k = 14 ∧ n = t) → st.2.2 k n j = σ.2 k n j) ∧ ∀ j, j < m → st.2.2 14 t j = σ.2 14 r j) 11 (fun (u : SS) => u.1 = σ.1 ∧ (∀ k n j, ¬ (k = 14 ∧ n = t) → u.2 k n j = σ.2 k n j) ∧ ∀ j, j < 11 → u.2 14 t j = σ.2 14 r j) (fun m st hm hI => ?_) (fun st hI => ?_) ⟨rfl, rfl, fun _ _ _ _ => rfl, fun j hj => absurd hj (Nat.not_lt_zero _)⟩ (by decide)
  · left
    obtain ⟨x, υ⟩ := st
    obtain ⟨g1, g2, g3, g4⟩ := hI
    simp only at g1 g2 g3 g4
    subst g1
    refine ⟨(nI (m + 1), wJ υ 14 t m (υ.2 14 r m)), ?_, rfl, g2, fun k n j q => ?_, fun j hj => ?_⟩
    · show X0_takeOver_l51c υ t r (nI m) = _
      unfold X0_takeOver_l51c
      rw [h1, h2, if_neg (nI_ge hm (by decide)), if_neg (nI_ge hm (by decide)), ck_nI hm (by decide), Option.bind_some, Option.bind_some, Option.bind_some, nI_1, Option.bind_some]
    · simp only
      rw [wJ_ne _ _ (by omega)]
      exact g3 k n j q
    · simp only
      by_cases e : j = m
      · subst e
        rw [wJ_eq]
        exact g3 _ _ _ (by omega)
      · rw [wJ_ne _ _ (by omega)]
        exact g4 j (by omega)
  · obtain ⟨x, υ⟩ := st
    obtain ⟨g1, g2, g3, g4⟩ := hI
    simp only at g1 g2 g3 g4
    subst g1
    refine ⟨υ, ?_, g2, g3, g4⟩
    show X0_takeOver_l51c υ t r (nI 11) = _
    unfold X0_takeOver_l51c
    rw [h1, if_pos (nI_le (Nat.le_refl _) (by decide))]
/-- the cells of a drawer -/
def DC (t : Nat) : Nat → Nat → Nat → Prop := fun k n j => (k = 0 ∧ n = t ∧ 5 ≤ j ∧ j ≤ 12) ∨ (k = 13 ∧ 4 * t ≤ n ∧ n < 4 * t + 4) ∨ (k = 8 ∧ n = t) ∨ (k = 14 ∧ n = t)
/-- drawer t is as drawer f was -/
def Took (σ τ : SS) (t f : Nat) : Prop := (∀ j, 5 ≤ j → j ≤ 12 → τ.1 0 t j = σ.1 0 f j) ∧ (∀ j, 1 ≤ j → j ≤ 3 → τ.1 8 t j = σ.1 8 f j) ∧ (∀ j, j < 240 → τ.1 13 (4 * t) j = σ.1 13 (4 * f) j) ∧ (∀ j, j < 56 → τ.1 13 (4 * t + 1) j = σ.1 13 (4 * f + 1) j) ∧ (∀ j, j < 72 → τ.1 13 (4 * t + 2) j = σ.1 13 (4 * f + 2) j) ∧ (∀ j, j < 3 → τ.1 13 (4 * t + 3) j = σ.1 13 (4 * f + 3) j) ∧ ∀ j, j < 11 → τ.2 14 t j = σ.2 14 f j
theorem takeOver_ok {σ : SS} {t f : Nat} (ht : t < 5) (hf : f < 5) (hne : t ≠ f) (hb : ∃ b : Bool, σ.1 8 f 1 = if b = true then 1 else 0) : ∃ τ, X0_takeOver σ t f = some τ ∧ Took σ τ t f ∧ Eqo (DC t) σ τ := by
  obtain ⟨a0, a1, a2, a3, a4⟩ := LN_d t ht
  obtain ⟨b0, b1, b2, b3, b4⟩ := LN_d f hf
  obtain ⟨s1, e1, f1, g1, h1⟩ := ttake (σ := σ) a0 b0 (by decide) (by omega)
  let s2 := wI (wI (wI s1 8 t 1 (σ.1 8 f 1)) 8 t 2 (σ.1 8 f 2)) 8 t 3 (σ.1 8 f 3)
  have e2 : X9_takeOver σ t f = some s2 := by
    have q : ∀ j, s1.1 8 f j = σ.1 8 f j := fun j => g1 _ _ _ (by omega)
    unfold X9_takeOver X9_takeOver_j0
    rw [e1, Option.bind_some, q 1]
    obtain ⟨b, hb⟩ := hb
    have hz : zb (σ.1 8 f 1) = some (σ.1 8 f 1) := by
      rw [hb]
      exact zb_i
    rw [hz, Option.bind_some, Option.bind_some, wI_ne _ _ (by omega), q 2, Option.bind_some, wI_ne _ _ (by omega), wI_ne _ _ (by omega), q 3, Option.bind_some]
  have g2 : ∀ k n j, ¬ (k = 13 ∧ n = 4 * t) → ¬ (k = 8 ∧ n = t) → s2.1 k n j = σ.1 k n j := fun k n j q q2 => by
    show (wI _ 8 t 3 _).1 k n j = _
    rw [wI_ne _ _ (by omega), wI_ne _ _ (by omega), wI_ne _ _ (by omega)]
    exact g1 k n j q
  have h2 : ∀ j, j < 240 → s2.1 13 (4 * t) j = σ.1 13 (4 * f) j := fun j hj => by
    show (wI _ 8 t 3 _).1 13 (4 * t) j = _
    rw [wI_ne _ _ (by omega), wI_ne _ _ (by omega), wI_ne _ _ (by omega)]
    exact h1 j hj
  have y2 : ∀ j, 1 ≤ j → j ≤ 3 → s2.1 8 t j = σ.1 8 f j := fun j hj hj3 => by
    show (wI _ 8 t 3 _).1 8 t j = _
    have : j = 1 ∨ j = 2 ∨ j = 3 := by omega
    rcases this with z | z | z <;> subst z
    · rw [wI_ne _ _ (by omega), wI_ne _ _ (by omega), wI_eq]
    · rw [wI_ne _ _ (by omega), wI_eq]
    · rw [wI_eq]
  have f2 : s2.2 = σ.2 := f1
  obtain ⟨s3, e3, f3, g3, h3⟩ := ttake (σ := s2) a1 b1 (by decide) (by omega)
  obtain ⟨s4, e4, f4, g4, h4⟩ := ttake (σ := s3) a2 b2 (by decide) (by omega)
  obtain ⟨s5, e5, f5, g5, h5⟩ := ttake (σ := s4) a3 b3 (by decide) (by omega)
  obtain ⟨s6, e6, f6, g6, h6⟩ := ntake (σ := s5) a4 b4 hne
  have f52 : s5.2 = σ.2 := f5.trans (f4.trans (f3.trans f2))
  let s7 := wI (wI (wI (wI (wI (wI (wI (wI s6 0 t 5 (σ.1 0 f 5)) 0 t 6 (σ.1 0 f 6)) 0 t 7 (σ.1 0 f 7)) 0 t 8 (σ.1 0 f 8)) 0 t 9 (σ.1 0 f 9)) 0 t 10 (σ.1 0 f 10)) 0 t 11 (σ.1 0 f 11)) 0 t 12 (σ.1 0 f 12)
  have q0 : ∀ j, s6.1 0 f j = σ.1 0 f j := fun j => by
    rw [f6, g5 _ _ _ (by omega), g4 _ _ _ (by omega), g3 _ _ _ (by omega), g2 _ _ _ (by omega) (by omega)]
  have e7 : X0_takeOver_j87 s6 t f = some s7 := by
    unfold X0_takeOver_j87
    simp (disch := omega) only [Option.bind_some, wI_ne, q0]
    rfl
  have o7 : ∀ k n j, ¬ (k = 0 ∧ n = t) → s7.1 k n j = s5.1 k n j := fun k n j q => by
    show (wI _ 0 t 12 _).1 k n j = _
    simp (disch := omega) only [wI_ne]
    rw [f6]
  refine ⟨s7, ?_, ⟨?_, ?_, ?_, ?_, ?_, ?_, ?_⟩, ?_, ?_⟩
  · unfold X0_takeOver X0_takeOver_j0 X0_takeOver_l51
    rw [e2, Option.bind_some, e3, Option.bind_some, e4, Option.bind_some, e5, Option.bind_some, e6, Option.bind_some, e7]
  · intro j hj hj2
    show (wI _ 0 t 12 _).1 0 t j = _
    have : j = 5 ∨ j = 6 ∨ j = 7 ∨ j = 8 ∨ j = 9 ∨ j = 10 ∨ j = 11 ∨ j = 12 := by omega
    rcases this with z | z | z | z | z | z | z | z <;> subst z <;> simp (disch := omega) only [wI_ne, wI_eq]
  · intro j hj hj2
    rw [o7 _ _ _ (by omega), g5 _ _ _ (by omega), g4 _ _ _ (by omega), g3 _ _ _ (by omega)]
    exact y2 j hj hj2
  · intro j hj
    rw [o7 _ _ _ (by omega), g5 _ _ _ (by omega), g4 _ _ _ (by omega), g3 _ _ _ (by omega)]
    exact h2 j hj
  · intro j hj
    rw [o7 _ _ _ (by omega), g5 _ _ _ (by omega), g4 _ _ _ (by omega), h3 j hj]
    exact g2 _ _ _ (by omega) (by omega)
  · intro j hj
    rw [o7 _ _ _ (by omega), g5 _ _ _ (by omega), h4 j hj, g3 _ _ _ (by omega)]
    exact g2 _ _ _ (by omega) (by omega)
  · intro j hj
    rw [o7 _ _ _ (by omega), h5 j hj, g4 _ _ _ (by omega), g3 _ _ _ (by omega)]
    exact g2 _ _ _ (by omega) (by omega)
  · intro j hj
    show s6.2 14 t j = _
    rw [h6 j hj, f52]
  · intro k n j q
    unfold DC at q
    by_cases z : k = 0 ∧ n = t
    · obtain ⟨rfl, rfl⟩ := z
      show (wI _ 0 n 12 _).1 0 n j = _
      rw [wI_ne _ _ (by omega), wI_ne _ _ (by omega), wI_ne _ _ (by omega), wI_ne _ _ (by omega), wI_ne _ _ (by omega), wI_ne _ _ (by omega), wI_ne _ _ (by omega), wI_ne _ _ (by omega), f6, g5 _ _ _ (by omega), g4 _ _ _ (by omega), g3 _ _ _ (by omega), g2 _ _ _ (by omega) (by omega)]
    · rw [o7 _ _ _ z, g5 _ _ _ (by omega), g4 _ _ _ (by omega), g3 _ _ _ (by omega), g2 _ _ _ (by omega) (by omega)]
  · intro k n j q
    unfold DC at q
    show s6.2 k n j = _
    rw [g6 _ _ _ (by omega), f52]
theorem Took.RS {σ τ : SS} {t f n nk : Nat} {nu : Nat → Nat → Nat} {lo : Nat → Nat} (h : Took σ τ t f) (hs : RS σ f n nk nu lo) : RS τ t n nk nu lo := by
  obtain ⟨h1, h2, h3, h4, h5, h6⟩ := hs
  have h8 := h6.1
  have hk := h6.2.1
  refine ⟨?_, ?_, fun w l hw hl => ?_, fun l hl => ?_, fun k hk => ?_, h6⟩
  · rw [h.1 5 (by omega) (by omega)]; exact h1
  · rw [h.1 7 (by omega) (by omega)]; exact h2
  · rw [h.2.2.2.1 _ (by omega)]; exact h3 w l hw hl
  · rw [h.2.2.2.1 _ (by omega)]; exact h4 l hl
  · rw [h.2.2.2.2.2.1 _ (by omega)]; exact h5 k hk
theorem Took.RV {σ τ : SS} {t f n i c : Nat} {s p o : Int32} {L : List X3} (h : Took σ τ t f) (hv : RV σ f n i c s p o L) : RV τ t n i c s p o L := by
  obtain ⟨h1, h2, ⟨r, h3, h4, h5⟩, h6, h7, h8, h9, h10, h11⟩ := hv
  have h24 := h11.1
  refine ⟨?_, ?_, ⟨r, h3, ?_, h5⟩, ?_, ?_, ?_, fun k x hx => ?_, h10, h11⟩
  · rw [h.1 6 (by omega) (by omega)]; exact h1
  · rw [h.1 8 (by omega) (by omega)]; exact h2
  · rw [h.1 9 (by omega) (by omega)]; exact h4
  · rw [h.1 10 (by omega) (by omega)]; exact h6
  · rw [h.1 11 (by omega) (by omega)]; exact h7
  · rw [h.1 12 (by omega) (by omega)]; exact h8
  · have := h9 k x hx
    have hk := (List.getElem?_eq_some_iff.mp hx).1
    simp only at this ⊢
    rw [h.2.2.2.2.1 _ (by omega), h.2.2.2.2.1 _ (by omega), h.2.2.2.2.1 _ (by omega)]
    exact this
