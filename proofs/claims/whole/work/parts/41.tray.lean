/-! ===== trays ===== -/
def cutv (s : Nat) (v : Int64) : Int64 := if s = 0 then Int32.toInt64 (Int8.toInt32 (Int32.toInt8 (Int64.toInt32 v))) else if s = 1 then Int32.toInt64 (Int16.toInt32 (Int32.toInt16 (Int64.toInt32 v))) else if s = 2 then Int32.toInt64 (Int64.toInt32 v) else v
theorem cutv_2 (s : Nat) (v : Int64) : cutv s (cutv s v) = cutv s v := by
  unfold cutv
  split
  · simp
  · split
    · simp
    · split
      · simp
      · rfl
theorem xcut_ok (σ : SS) {s : Nat} (hs : s ≤ 3) (v : Int64) : X12_cut σ (nI s) v = some (cutv s v) := by
  unfold X12_cut X12_cut_j0 cutv
  have : s = 0 ∨ s = 1 ∨ s = 2 ∨ s = 3 := by omega
  rcases this with z | z | z | z <;> subst z
  · rw [if_pos (show nI 0 = 0 from rfl), if_pos rfl]
  · rw [if_neg (show ¬ nI 1 = 0 by decide), if_pos (show nI 1 = 1 from rfl), if_neg (by decide), if_pos rfl]
  · rw [if_neg (show ¬ nI 2 = 0 by decide), if_neg (show ¬ nI 2 = 1 by decide), if_pos (show nI 2 = 2 from rfl), if_neg (by decide), if_neg (by decide), if_pos rfl]
  · rw [if_neg (show ¬ nI 3 = 0 by decide), if_neg (show ¬ nI 3 = 1 by decide), if_neg (show ¬ nI 3 = 2 by decide), if_neg (by decide), if_neg (by decide), if_neg (by decide)]
def TY (σ : SS) (t : Nat) : Prop := (σ.1 13 20 (8 + t) = 0 ∧ σ.1 13 33 t = -1) ∨ (σ.1 13 20 (8 + t) = 1 ∧ ∃ m so, m ≤ 60 ∧ so ≤ 3 ∧ σ.1 13 20 t = nI m ∧ σ.1 13 33 t = nI m ∧ σ.1 13 20 (4 + t) = nI so ∧ σ.1 13 32 t = nI so ∧ ∀ j, j < m → σ.2 14 5 (60 * t + j) = σ.2 14 6 (60 * t + j) ∧ cutv so (σ.2 14 5 (60 * t + j)) = σ.2 14 5 (60 * t + j))
def RT (σ : SS) : Prop := ∀ t, t < 4 → TY σ t
def TC : Nat → Nat → Nat → Prop := fun k n _ => (k = 13 ∧ (n = 20 ∨ n = 32 ∨ n = 33)) ∨ (k = 14 ∧ (n = 5 ∨ n = 6))
theorem RT.keep {σ τ : SS} {P : Nat → Nat → Nat → Prop} (h : RT σ) (hE : Eqo P σ τ) (hP : ∀ k n j, P k n j → ¬ TC k n j) : RT τ := by
  intro t ht
  have e : ∀ k n j, TC k n j → τ.1 k n j = σ.1 k n j := fun k n j q => hE.1 k n j (fun z => hP k n j z q)
  have e2 : ∀ k n j, TC k n j → τ.2 k n j = σ.2 k n j := fun k n j q => hE.2 k n j (fun z => hP k n j z q)
  rcases h t ht with ⟨a, b⟩ | ⟨a, m, so, h1, h2, h3, h4, h5, h6, h7⟩
  · left
    rw [e _ _ _ (by unfold TC; omega), e _ _ _ (by unfold TC; omega)]
    exact ⟨a, b⟩
  · right
    refine ⟨?_, m, so, h1, h2, ?_, ?_, ?_, ?_, fun j hj => ?_⟩
    · rw [e _ _ _ (by unfold TC; omega)]; exact a
    · rw [e _ _ _ (by unfold TC; omega)]; exact h3
    · rw [e _ _ _ (by unfold TC; omega)]; exact h4
    · rw [e _ _ _ (by unfold TC; omega)]; exact h5
    · rw [e _ _ _ (by unfold TC; omega)]; exact h6
    · rw [e2 _ _ _ (by unfold TC; omega), e2 _ _ _ (by unfold TC; omega)]; exact h7 j hj
theorem fa_at (σ : SS) (r : Nat) (hr : r < 3) {t : Nat} (ht : t < 4) : X4_at σ 20 (nI r) (nI t) = some (σ.1 13 20 (r * 4 + t)) := by
  have h1 : TR 20 = 3 ∧ TW 20 = 4 := by decide
  rw [at_ok σ (by decide) (by rw [h1.1]; exact hr) (by rw [h1.2]; exact ht), h1.2]
theorem ck33 {t : Nat} (ht : t < 4) : ck (LN 13 33) (nI t) = some t := by
  rw [lens.2.2.1]
  exact ck_nI ht (by decide)
theorem ck32 {t : Nat} (ht : t < 4) : ck (LN 13 32) (nI t) = some t := by
  rw [lens.2.1]
  exact ck_nI ht (by decide)
theorem lenp : LN 14 5 = 240 ∧ LN 14 6 = 240 := by decide +kernel
/-- a place: what both say of it -/
theorem place_or {σ : SS} (h : RT σ) (a b : Int32) : (∃ t j m, t < 4 ∧ j < m ∧ m ≤ 60 ∧ a = nI t ∧ b = nI j ∧ σ.1 13 20 (8 + t) = 1 ∧ σ.1 13 20 t = nI m ∧ σ.1 13 33 t = nI m ∧ X11_placeStatus σ a b = some 0 ∧ X12_placed σ a b = some 0) ∨ ∃ w : Int32, ¬ w = 0 ∧ ¬ w ≤ 0 ∧ X11_placeStatus σ a b = some w ∧ X12_placed σ a b = some w := by
  rcases lt_or a 4 (by decide) with ⟨t, ht, rfl⟩ | ⟨ha, hn⟩
  · have f2 := fa_at σ 2 (by decide) ht
    have f0 := fa_at σ 0 (by decide) ht
    have f2' : X4_at σ 20 2 (nI t) = some (σ.1 13 20 (8 + t)) := f2
    have f0' : X4_at σ 20 0 (nI t) = some (σ.1 13 20 t) := by
      rw [Nat.zero_mul, Nat.zero_add] at f0
      exact f0
    have n1 : ¬ (4 : Int32) ≤ nI t := nI_ge (b := 4) ht (by decide)
    have n2 : nI t < 4 := nI_lt (b := 4) ht (by decide)
    rcases h t ht with ⟨g1, g2⟩ | ⟨g1, m, so, h1, h2, h3, h4, h5, h6, h7⟩
    · right
      refine ⟨3, by decide, by decide, ?_, ?_⟩
      · unfold X11_placeStatus X11_placeStatus_j0 X6_isNumber X6_isNumber_j0 X6_isThere X6_isThere_j0
        rw [if_neg (nI_pos (by omega)), if_neg n1, Option.bind_some, if_neg neg1_0, f2', g1, Option.bind_some, if_neg (by decide), Option.bind_some, if_pos rfl]
      · unfold X12_placed X12_placed_j0 X12_trayed X12_trayed_j0
        rw [if_neg (nI_pos (by omega)), if_pos n2, ck33 ht, Option.bind_some, g2, if_neg (by decide), Option.bind_some, if_neg (by decide)]
    · have cls : X11_placeStatus σ (nI t) b = (X6_holds σ (nI t) b 1).bind fun v37 => if v37 = 0 then some 4 else some 0 := by
        unfold X11_placeStatus X11_placeStatus_j0 X6_isNumber X6_isNumber_j0 X6_isThere X6_isThere_j0
        rw [if_neg (nI_pos (by omega)), if_neg n1, Option.bind_some, if_neg neg1_0, f2', g1, Option.bind_some, if_pos rfl, Option.bind_some, if_neg neg1_0]
      have ref : X12_placed σ (nI t) b = if b < 0 then some 4 else if b < nI m then some 0 else some 4 := by
        unfold X12_placed X12_placed_j0 X12_trayed X12_trayed_j0 X12_placed_j28
        rw [if_neg (nI_pos (by omega)), if_pos n2, ck33 ht, Option.bind_some, h4, if_pos (nI_pos' (by omega)), Option.bind_some, if_pos (by decide), Option.bind_some]
        rw [h4]
      have hold : X6_holds σ (nI t) b 1 = if b < 0 then some 0 else if b < nI m then some 1 else some 0 := by
        unfold X6_holds X6_holds_j0
        by_cases q : b < 0
        · rw [if_pos q, if_pos q]
        · obtain ⟨j, hj, rfl⟩ := nI_of q
          rw [if_neg q, if_neg q, if_neg (by decide), f0', h3, Option.bind_some]
          by_cases z : j < m
          · rw [if_pos (nI_lt z (by omega)), nI_sub1 (by omega), if_neg (nI_nlt (by omega) (by omega))]
          · rw [if_neg (nI_nlt (by omega) hj)]
            by_cases y : m = 0
            · subst y
              rw [if_pos]
              have h0 : (nI 0 - 1) < 0 := by decide
              exact Int32.lt_of_lt_of_le h0 (nI_pos' hj)
            · rw [nI_sub1 (by omega), if_pos (nI_lt (by omega) hj)]
      by_cases q : b < 0
      · right
        refine ⟨4, by decide, by decide, ?_, ?_⟩
        · rw [cls, hold, if_pos q, Option.bind_some, if_pos rfl]
        · rw [ref, if_pos q]
      · obtain ⟨j, hj, rfl⟩ := nI_of q
        by_cases z : j < m
        · left
          refine ⟨t, j, m, ht, z, h1, rfl, rfl, g1, h3, h4, ?_, ?_⟩
          · rw [cls, hold, if_neg q, if_pos (nI_lt z (by omega)), Option.bind_some, if_neg neg1_0]
          · rw [ref, if_neg q, if_pos (nI_lt z (by omega))]
        · right
          refine ⟨4, by decide, by decide, ?_, ?_⟩
          · rw [cls, hold, if_neg q, if_neg (nI_nlt (by omega) hj), Option.bind_some, if_pos rfl]
          · rw [ref, if_neg q, if_neg (nI_nlt (by omega) hj)]
  · right
    refine ⟨1, by decide, by decide, ?_, ?_⟩
    · have e1 : X6_isNumber σ a = some 0 := by
        unfold X6_isNumber X6_isNumber_j0
        rcases ha with q | q
        · rw [if_pos q]
        · rw [if_pos (show (4 : Int32) ≤ a from q), ite_self]
      unfold X11_placeStatus X11_placeStatus_j0
      rw [e1, Option.bind_some, if_pos rfl]
    · have e1 : X12_trayed σ a = some 1 := by
        unfold X12_trayed X12_trayed_j0 X12_trayed_j9
        by_cases q : a < 0
        · rw [if_pos q]
        · rw [if_neg q, if_neg (show ¬ a < 4 from fun z => hn ⟨q, z⟩)]
      unfold X12_placed X12_placed_j0
      rw [e1, Option.bind_some, if_neg (by decide)]
