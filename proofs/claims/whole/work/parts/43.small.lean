/-! ===== status, top, bottom: no change of the class's state ===== -/
def Fr (σ : SS) : Prop := σ.2 10 0 12 = σ.2 11 0 2 ∧ σ.2 10 0 13 = σ.2 11 0 3
theorem op_status {σ : SS} (h : St σ) : ∃ r σ2, X11_status σ = some r ∧ X12_status σ = some (r, σ2) ∧ St σ2 ∧ Eqo PS σ σ2 := by
  refine ⟨σ.1 10 0 11, wI σ 11 0 1 0, rfl, ?_, ?_, ps3 _ _⟩
  · unfold X12_status X12_status_j0
    rw [Option.bind_some, wI_ne _ _ (by omega)]
    rw [show σ.1 11 0 0 = σ.1 10 0 11 from Eq.symm h]
  · unfold St
    rw [wI_ne _ _ (by omega), wI_ne _ _ (by omega)]
    exact h
theorem op_top {σ : SS} (h : Fr σ) : ∃ r σ2, X11_top σ = some r ∧ X12_top σ = some (r, σ2) ∧ Eqo PS σ σ2 := by
  refine ⟨σ.2 10 0 12, wI σ 11 0 1 0, rfl, ?_, ps3 _ _⟩
  unfold X12_top X12_top_j0
  rw [Option.bind_some, wI_2, h.1]
theorem op_bottom {σ : SS} (h : Fr σ) : ∃ r σ2, X11_bottom σ = some r ∧ X12_bottom σ = some (r, σ2) ∧ Eqo PS σ σ2 := by
  refine ⟨σ.2 10 0 13, wI σ 11 0 1 0, rfl, ?_, ps3 _ _⟩
  unfold X12_bottom X12_bottom_j0
  rw [Option.bind_some, wI_2, h.2]
def FtR (σ : SS) : Prop := σ.1 4 0 7 = σ.1 11 0 10 ∧ σ.1 4 0 8 = σ.1 11 0 11
theorem op_fault (a : Int32) {σ : SS} (h : FtR σ) : ∃ r σ2, X11_fault σ a = some r ∧ X12_fault σ a = some (r, σ2) ∧ Eqo PS σ σ2 := by
  unfold X11_fault X11_fault_j0 X5_faultKind X5_faultKind_j0 X5_faultPlace X5_faultPlace_j0 X12_fault X12_fault_j0
  rw [Option.bind_some, Option.bind_some, Option.bind_some, wI_ne _ _ (by omega), wI_ne _ _ (by omega), h.1, h.2]
  by_cases h0 : a = 0
  · rw [if_pos h0, if_pos h0]
    exact ⟨_, _, rfl, rfl, ps3 _ _⟩
  · rw [if_neg h0, if_neg h0]
    by_cases h1 : a = 1
    · rw [if_pos h1, if_pos h1]
      exact ⟨_, _, rfl, rfl, ps3 _ _⟩
    · rw [if_neg h1, if_neg h1]
      exact ⟨_, _, rfl, rfl, ps3 _ _⟩
