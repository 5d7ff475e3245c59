/-! ===== status, top, bottom: no change of the class's state ===== -/
def Fr (σ : SS) : Prop := σ.2 10 0 12 = σ.2 11 0 2 ∧ σ.2 10 0 13 = σ.2 11 0 3
theorem op_status {σ : SS} (h : St σ) : ∃ r σ2, X11_status σ = some r ∧ X12_status σ = some (r, σ2) ∧ St σ2 ∧ Eqo PS σ σ2 := by
  refine ⟨σ.1 10 0 11, wI σ 11 0 1 0, rfl, ?_, ?_, ps3 _ _⟩
  · unfold X12_status X12_status_j0
    rw [Option.bind_some, wI_ne _ _ (by omega)]
    rw [show σ.1 11 0 0 = σ.1 10 0 11 from Eq.symm h]
  · unfold St
    rw [wI_ne _ _ (by omega), wI_ne _ _ (by omega)]
    exact h
theorem op_top {σ : SS} (h : Fr σ) : ∃ r σ2, X11_top σ = some r ∧ X12_top σ = some (r, σ2) ∧ Eqo PS σ σ2 := by
  refine ⟨σ.2 10 0 12, wI σ 11 0 1 0, rfl, ?_, ps3 _ _⟩
  unfold X12_top X12_top_j0
  rw [Option.bind_some, wI_2, h.1]
theorem op_bottom {σ : SS} (h : Fr σ) : ∃ r σ2, X11_bottom σ = some r ∧ X12_bottom σ = some (r, σ2) ∧ Eqo PS σ σ2 := by
  refine ⟨σ.2 10 0 13, wI σ 11 0 1 0, rfl, ?_, ps3 _ _⟩
  unfold X12_bottom X12_bottom_j0
  rw [Option.bind_some, wI_2, h.2]
