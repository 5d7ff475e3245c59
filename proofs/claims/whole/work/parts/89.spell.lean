/-! ===== TEXTS: the reference's words ===== -/
theorem sp_lead (σ : SS) : X12_spelled σ 108 101 97 100 0 0 = some (lN (cdL [108, 101, 97, 100])) := by
  unfold X12_spelled X12_spelled_j0 X12_spelled_j41 X12_spelled_j65 X12_spelled_j91
  rw [Option.bind_some]
  decide +kernel
theorem sp_long (σ : SS) : X12_spelled σ 108 111 110 103 0 0 = some (lN (cdL [108, 111, 110, 103])) := by
  unfold X12_spelled X12_spelled_j0 X12_spelled_j41 X12_spelled_j65 X12_spelled_j91
  rw [Option.bind_some]
  decide +kernel
theorem sp_stiff (σ : SS) : X12_spelled σ 115 116 105 102 102 0 = some (lN (cdL [115, 116, 105, 102, 102])) := by
  unfold X12_spelled X12_spelled_j0 X12_spelled_j41 X12_spelled_j65 X12_spelled_j91
  rw [Option.bind_some]
  decide +kernel
theorem sp_ends (σ : SS) : X12_spelled σ 101 110 100 115 0 0 = some (lN (cdL [101, 110, 100, 115])) := by
  unfold X12_spelled X12_spelled_j0 X12_spelled_j41 X12_spelled_j65 X12_spelled_j91
  rw [Option.bind_some]
  decide +kernel
theorem sp_costs (σ : SS) : X12_spelled σ 99 111 115 116 115 0 = some (lN (cdL [99, 111, 115, 116, 115])) := by
  unfold X12_spelled X12_spelled_j0 X12_spelled_j41 X12_spelled_j65 X12_spelled_j91
  rw [Option.bind_some]
  decide +kernel
theorem sp_used (σ : SS) : X12_spelled σ 117 115 101 100 0 0 = some (lN (cdL [117, 115, 101, 100])) := by
  unfold X12_spelled X12_spelled_j0 X12_spelled_j41 X12_spelled_j65 X12_spelled_j91
  rw [Option.bind_some]
  decide +kernel
theorem sp_clip (σ : SS) : X12_spelled σ 99 108 105 112 0 0 = some (lN (cdL [99, 108, 105, 112])) := by
  unfold X12_spelled X12_spelled_j0 X12_spelled_j41 X12_spelled_j65 X12_spelled_j91
  rw [Option.bind_some]
  decide +kernel
theorem sp_cross (σ : SS) : X12_spelled σ 99 114 111 115 115 0 = some (lN (cdL [99, 114, 111, 115, 115])) := by
  unfold X12_spelled X12_spelled_j0 X12_spelled_j41 X12_spelled_j65 X12_spelled_j91
  rw [Option.bind_some]
  decide +kernel
theorem sp_tight (σ : SS) : X12_spelled σ 116 105 103 104 116 0 = some (lN (cdL [116, 105, 103, 104, 116])) := by
  unfold X12_spelled X12_spelled_j0 X12_spelled_j41 X12_spelled_j65 X12_spelled_j91
  rw [Option.bind_some]
  decide +kernel
theorem sp_knot (σ : SS) : X12_spelled σ 107 110 111 116 0 0 = some (lN (cdL [107, 110, 111, 116])) := by
  unfold X12_spelled X12_spelled_j0 X12_spelled_j41 X12_spelled_j65 X12_spelled_j91
  rw [Option.bind_some]
  decide +kernel
theorem sp_look (σ : SS) : X12_spelled σ 108 111 111 107 0 0 = some (lN (cdL [108, 111, 111, 107])) := by
  unfold X12_spelled X12_spelled_j0 X12_spelled_j41 X12_spelled_j65 X12_spelled_j91
  rw [Option.bind_some]
  decide +kernel
theorem sp_open (σ : SS) : X12_spelled σ 111 112 101 110 0 0 = some (lN (cdL [111, 112, 101, 110])) := by
  unfold X12_spelled X12_spelled_j0 X12_spelled_j41 X12_spelled_j65 X12_spelled_j91
  rw [Option.bind_some]
  decide +kernel
theorem sp_take (σ : SS) : X12_spelled σ 116 97 107 101 0 0 = some (lN (cdL [116, 97, 107, 101])) := by
  unfold X12_spelled X12_spelled_j0 X12_spelled_j41 X12_spelled_j65 X12_spelled_j91
  rw [Option.bind_some]
  decide +kernel
theorem sp_loosen (σ : SS) : X12_spelled σ 108 111 111 115 101 110 = some (lN (cdL [108, 111, 111, 115, 101, 110])) := by
  unfold X12_spelled X12_spelled_j0 X12_spelled_j41 X12_spelled_j65 X12_spelled_j91
  rw [Option.bind_some]
  decide +kernel
theorem sp_pull (σ : SS) : X12_spelled σ 112 117 108 108 0 0 = some (lN (cdL [112, 117, 108, 108])) := by
  unfold X12_spelled X12_spelled_j0 X12_spelled_j41 X12_spelled_j65 X12_spelled_j91
  rw [Option.bind_some]
  decide +kernel
theorem sp_from (σ : SS) : X12_spelled σ 102 114 111 109 0 0 = some (lN (cdL [102, 114, 111, 109])) := by
  unfold X12_spelled X12_spelled_j0 X12_spelled_j41 X12_spelled_j65 X12_spelled_j91
  rw [Option.bind_some]
  decide +kernel
theorem sp_cut (σ : SS) : X12_spelled σ 99 117 116 0 0 0 = some (lN (cdL [99, 117, 116])) := by
  unfold X12_spelled X12_spelled_j0 X12_spelled_j41 X12_spelled_j65 X12_spelled_j91
  rw [Option.bind_some]
  decide +kernel
theorem sp_when (σ : SS) : X12_spelled σ 119 104 101 110 0 0 = some (lN (cdL [119, 104, 101, 110])) := by
  unfold X12_spelled X12_spelled_j0 X12_spelled_j41 X12_spelled_j65 X12_spelled_j91
  rw [Option.bind_some]
  decide +kernel
theorem sp_lump (σ : SS) : X12_spelled σ 108 117 109 112 0 0 = some (lN (cdL [108, 117, 109, 112])) := by
  unfold X12_spelled X12_spelled_j0 X12_spelled_j41 X12_spelled_j65 X12_spelled_j91
  rw [Option.bind_some]
  decide +kernel
theorem sp_free (σ : SS) : X12_spelled σ 102 114 101 101 0 0 = some (lN (cdL [102, 114, 101, 101])) := by
  unfold X12_spelled X12_spelled_j0 X12_spelled_j41 X12_spelled_j65 X12_spelled_j91
  rw [Option.bind_some]
  decide +kernel
theorem sp_loop (σ : SS) : X12_spelled σ 108 111 111 112 0 0 = some (lN (cdL [108, 111, 111, 112])) := by
  unfold X12_spelled X12_spelled_j0 X12_spelled_j41 X12_spelled_j65 X12_spelled_j91
  rw [Option.bind_some]
  decide +kernel
theorem sp_end (σ : SS) : X12_spelled σ 101 110 100 0 0 0 = some (lN (cdL [101, 110, 100])) := by
  unfold X12_spelled X12_spelled_j0 X12_spelled_j41 X12_spelled_j65 X12_spelled_j91
  rw [Option.bind_some]
  decide +kernel
theorem sp_stop (σ : SS) : X12_spelled σ 115 116 111 112 0 0 = some (lN (cdL [115, 116, 111, 112])) := by
  unfold X12_spelled X12_spelled_j0 X12_spelled_j41 X12_spelled_j65 X12_spelled_j91
  rw [Option.bind_some]
  decide +kernel
theorem sp_thread (σ : SS) : X12_spelled σ 116 104 114 101 97 100 = some (lN (cdL [116, 104, 114, 101, 97, 100])) := by
  unfold X12_spelled X12_spelled_j0 X12_spelled_j41 X12_spelled_j65 X12_spelled_j91
  rw [Option.bind_some]
  decide +kernel
