/-! ===== TEXTS: numbers ===== -/
theorem nI_le_nat {a b : Nat} (h : nI a ≤ nI b) (ha : a < 2147483648) (hb : b < 2147483648) : a ≤ b := by
  by_cases q : a ≤ b
  · exact q
  · exact absurd h (nI_ge (by omega) ha)
section NB
variable {σ υ : SS} {B : Nat → Nat} {S a : Nat}
theorem num_le (h : tkK B S a = 2) : a < S ∧ tkZ B S a - a ≤ 4 ∧ a < tkZ B S a ∧ tkZ B S a ≤ S ∧ ∀ i, i < tkZ B S a - a → 48 ≤ B (a + i) ∧ B (a + i) ≤ 57 := by
  unfold tkK at h
  split at h
  · cases h
  · rename_i q
    split at h
    · cases h
    · rename_i q1
      split at h
      · rename_i q2
        have hz : tkZ B S a = rnn isDi B S a := by
          unfold tkZ
          rw [if_neg q, if_neg q1, if_pos q2]
        have hr := rnn_ok isDi B S a
        have hy := rnn_yes (P := isDi) (B := B) (S := S) (a := a) ⟨by omega, q2⟩
        split at h
        · rename_i q3
          refine ⟨by omega, by rw [hz]; exact q3, by rw [hz]; exact hy, by rw [hz]; exact hr.2.1 (by omega), fun i hi => ?_⟩
          rw [hz] at hi
          have := (hr.2.2.1 (a + i) (by omega) (by omega)).2
          unfold isDi at this
          simpa using this
        · cases h
      · split at h <;> cases h
theorem nvF_dig {n : Nat} (hn : n ≤ 4) (hB : ∀ i, i < n → 48 ≤ B (a + i) ∧ B (a + i) ≤ 57) : nvF B a n ≤ 9999 := by
  have main : ∀ k, k ≤ n → nvF B a k ≤ (if k = 0 then 0 else if k = 1 then 9 else if k = 2 then 99 else if k = 3 then 999 else 9999) := by
    intro k
    induction k with
    | zero => intro _; exact Nat.le_refl _
    | succ k ih =>
      intro hk
      have ih := ih (by omega)
      have hv := hB k (by omega)
      unfold nvF
      generalize B (a + k) = v at *
      rw [if_neg (by omega)]
      have : k = 0 ∨ k = 1 ∨ k = 2 ∨ k = 3 := by omega
      rcases this with z | z | z | z <;> subst z <;> simp at ih ⊢ <;> omega
  have := main n (Nat.le_refl _)
  split at this
  · omega
  · split at this
    · omega
    · split at this
      · omega
      · split at this <;> omega
theorem numloop (h : TxC B S σ) {z : Nat} (h5 : σ.1 4 0 5 = nI z) (hz : z ≤ S) (haz : a ≤ z) (h4 : z - a ≤ 4) (hB : ∀ i, i < z - a → 48 ≤ B (a + i) ∧ B (a + i) ≤ 57) (x1 x2 : Int32) : iter (X5_passNumber_l24b σ x1 x2) NF (0, nI a) = some (nI (nvF B a (z - a))) := by
  have hS := h.1
  obtain ⟨-, -, e, g⟩ := loopI (f := X5_passNumber_l24b σ x1 x2) (s := (0, nI a)) (z - a) (fun k (_ : Unit) (_ : SS) => ((nI (nvF B a k), nI (a + k)) : Int32 × Int32)) (fun _ _ => nI (nvF B a (z - a))) (fun _ _ _ => True) () σ rfl trivial (by omega) (fun k u w hk _ => by
    refine ⟨(), w, ?_, trivial⟩
    have hb := hB k hk
    show X5_passNumber_l24c σ x1 x2 (nI (nvF B a k)) (nI (a + k)) = _
    unfold X5_passNumber_l24c
    rw [h5, if_neg (nI_ge (by omega) (by omega)), h.at (by omega), Option.bind_some]
    have ev : ((nI (nvF B a k) * 10) + nI (B (a + k))) - 48 = nI (nvF B a (k + 1)) := by
      rw [show nvF B a (k + 1) = if 4 ≤ k then nvF B a k else 10 * nvF B a k + B (a + k) - 48 from rfl, if_neg (by omega)]
      show ((nI (nvF B a k) * nI 10) + nI (B (a + k))) - nI 48 = _
      rw [pk_mul, nI_add, nI_subN (by omega), Nat.mul_comm]
    rw [ev, Option.bind_some, nI_1, Option.bind_some, Nat.add_assoc]) (fun u w _ => by
    show X5_passNumber_l24c σ x1 x2 (nI (nvF B a (z - a))) (nI (a + (z - a))) = _
    unfold X5_passNumber_l24c
    rw [h5, if_pos (nI_le (by omega) (by omega))])
  exact e
/-- a number must stand here -/
theorem must_number (h : TK B S a σ υ) (h12 : υ.1 11 0 12 = 0) {lo hi : Nat} (hlo : lo < 1000) (hhi : hi < 1000) : ∃ w x σ' υ', X5_passNumber σ (nI lo) (nI hi) = some (w, σ') ∧ X12_count υ (nI lo) (nI hi) = some (x, υ') ∧ ((∃ m, lo ≤ m ∧ m ≤ hi ∧ w = nI m ∧ x = nI m ∧ Gon B S σ' υ') ∨ (w = -1 ∧ x = 0 ∧ Flt σ' υ')) ∧ Eqo NCf σ σ' ∧ Eqo NXf υ υ' := by
  have hh := h
  obtain ⟨h1, h2, h3, h4, h5, h6, h7, h8, h9, h10, h11, hw12, h13, h14⟩ := h
  have hc := clK_bad _ (tkK_le B S a)
  have hkl := tkK_le B S a
  by_cases q : tkK B S a = 2
  · obtain ⟨n1, n2, n3, n4, n5⟩ := num_le q
    have hv := nvF_dig n2 n5
    have h17 := h13 q
    have hl := numloop h1 h5 n4 (by omega) n2 n5 (nI lo) (nI hi)
    generalize hm : nvF B a (tkZ B S a - a) = m at *
    have eC : X5_passNumber σ (nI lo) (nI hi) = if nI m < nI lo then X5_passNumber_j64 σ else (if nI m ≤ nI hi then ((X5_next σ).bind fun σ73 => some (nI m, σ73)) else X5_passNumber_j64 σ) := by
      unfold X5_passNumber X5_passNumber_j0 X5_passNumber_l24
      rw [h6, q, if_pos (show nI (clK 2) = 3 by decide), h4, Option.bind_some, hl, Option.bind_some]
    have eX : X12_count υ (nI lo) (nI hi) = if (if nI lo ≤ nI m ∧ nI m ≤ nI hi then (1 : Int32) else 0) = 0 then ((X12_fail υ 4 (υ.1 11 0 15)).bind fun σ47 => X12_count_j50 σ47) else X12_count_j50 υ := by
      unfold X12_count X12_count_j0 X12_count_j19
      rw [h12, if_pos rfl, h11, q, if_pos (show nI 2 = 2 from rfl), if_pos rfl, h17, xisIn, Option.bind_some]
    by_cases y : lo ≤ m ∧ m ≤ hi
    · rw [if_neg (nI_nlt y.1 (by omega)), if_pos (nI_le y.2 (by omega))] at eC
      rw [if_pos (show nI lo ≤ nI m ∧ nI m ≤ nI hi from ⟨nI_le y.1 (by omega), nI_le y.2 (by omega)⟩), if_neg neg1_0] at eX
      obtain ⟨σ', υ', f1, f2, f3, f4, f5⟩ := next_gon hh h12
      rw [f1, Option.bind_some] at eC
      unfold X12_count_j50 at eX
      rw [h12, if_pos (by decide), h17, Option.bind_some, f2, Option.bind_some] at eX
      exact ⟨_, _, σ', υ', eC, eX, .inl ⟨m, y.1, y.2, rfl, rfl, f3⟩, NC_NCf f4, NX_NXf f5⟩
    · obtain ⟨σ', υ', f1, f2, f3, f4, f5⟩ := hh.fail h12 (x := 4) (by decide) (by rw [q]; decide)
      have f1' : X5_fail σ 4 = some (0, σ') := f1
      have f2' : X12_fail υ 4 (υ.1 11 0 15) = some υ' := f2
      have e64 : X5_passNumber_j64 σ = some (-1, σ') := by
        unfold X5_passNumber_j64
        rw [f1', Option.bind_some]
      rw [e64] at eC
      have eC' : X5_passNumber σ (nI lo) (nI hi) = some (-1, σ') := by
        rw [eC]
        by_cases y1 : lo ≤ m
        · rw [if_neg (nI_nlt y1 (by omega)), if_neg (nI_ge (by omega) (by omega))]
        · rw [if_pos (nI_lt (by omega) (by omega))]
      rw [if_neg (show ¬ (nI lo ≤ nI m ∧ nI m ≤ nI hi) from fun z => y ⟨nI_le_nat z.1 (by omega) (by omega), nI_le_nat z.2 (by omega) (by omega)⟩), if_pos rfl, f2', Option.bind_some] at eX
      unfold X12_count_j50 at eX
      rw [if_neg f3.pos.2.1] at eX
      exact ⟨_, _, σ', υ', eC', eX, .inr ⟨rfl, rfl, f3⟩, f4, f5⟩
  · obtain ⟨σ', υ', f1, f2, f3, f4, f5⟩ := hh.wrong h12
    refine ⟨-1, 0, σ', υ', ?_, ?_, .inr ⟨rfl, rfl, f3⟩, f4, f5⟩
    · unfold X5_passNumber X5_passNumber_j0
      rw [h6, if_neg (show ¬ nI (clK (tkK B S a)) = 3 from wne (fun z => q (hc.2.2.2.1.mp z)) (by omega) (by decide)), f1, Option.bind_some]
    · unfold X12_count X12_count_j0 X12_count_j19 X12_count_j50
      rw [h12, if_pos rfl, h11, if_neg (show ¬ nI (tkK B S a) = 2 from wne q (by omega) (by decide)), f2, Option.bind_some, if_neg f3.pos.2.2, if_neg f3.pos.2.1]
end NB
