def PT : Nat → Nat → Nat → Prop := fun k n j => PS k n j ∨ TC k n j
def TRs {R : Type} (σ : SS) (f g : SS → Option (R × SS)) : Prop := ∃ r σ1 σ2, f σ = some (r, σ1) ∧ g σ1 = some (r, σ2) ∧ RT σ2 ∧ St σ2 ∧ Eqo PT σ σ2
theorem PS_PT {σ τ : SS} (h : Eqo PS σ τ) : Eqo PT σ τ := h.mono (fun _ _ _ q => .inl q)
theorem RT.ps {σ τ : SS} (h : RT σ) (hE : Eqo PS σ τ) : RT τ := h.keep hE (fun k n j q => by unfold PS at q; unfold TC; omega)
theorem placed_ps {σ τ : SS} (hE : Eqo PS σ τ) (a b : Int32) : X12_placed τ a b = X12_placed σ a b := by
  have e : ∀ j, τ.1 13 33 j = σ.1 13 33 j := fun j => hE.1 _ _ _ (by unfold PS; omega)
  unfold X12_placed X12_placed_j0 X12_placed_j28 X12_trayed X12_trayed_j0 X12_trayed_j9
  simp only [e]
theorem idx_in {σ : SS} {t j m : Nat} (ht : t < 4) (hj : j < m) (hm : m ≤ 60) (h3 : σ.1 13 20 t = nI m) : X6_indexOf σ (nI t) (nI j) = some (nI (60 * t + j)) := by
  have f0 := fa_at σ 0 (by decide) ht
  have f0' : X4_at σ 20 0 (nI t) = some (nI m) := by
    rw [Nat.zero_mul, Nat.zero_add, h3] at f0
    exact f0
  have n1 : ¬ (4 : Int32) ≤ nI t := nI_ge (b := 4) ht (by decide)
  unfold X6_indexOf X6_indexOf_j0 X6_isNumber X6_isNumber_j0 X6_holds X6_holds_j0
  rw [if_neg (nI_pos (by omega)), if_neg n1, Option.bind_some, if_neg neg1_0, if_neg (nI_pos (by omega)), if_neg (by decide), f0', Option.bind_some, nI_sub1 (by omega), if_neg (nI_nlt (by omega) (by omega)), Option.bind_some, if_neg neg1_0]
  show some (nI t * nI 60 + nI j) = _
  rw [pk_mul, nI_add, Nat.mul_comm]
theorem op_read (a b : Int32) {σ : SS} (h : RT σ) : TRs σ (fun σ => X11_read σ a b) (fun σ => X12_read σ a b) := by
  rcases place_or h a b with ⟨t, j, m, ht, hj, hm, rfl, rfl, g1, g2, g3, e1, e2⟩ | ⟨w, hw0, hw1, e1, e2⟩
  · have hE : Eqo PS σ (wI (wI (wI σ 10 0 11 0) 11 0 1 0) 11 0 0 0) := s0_ps σ 0
    have hp := placed_ps ((ps1 σ 0).tr (ps3 _ 0)) (nI t) (nI j)
    have hv : σ.2 14 5 (60 * t + j) = σ.2 14 6 (60 * t + j) := by
      rcases h t ht with ⟨g, _⟩ | ⟨_, m', so, h1, h2, h3, h4, h5, h6, h7⟩
      · rw [g1] at g
        exact absurd g (by decide)
      · rw [g2] at h3
        have : m = m' := (nI_eq (by omega) (by omega)).mp h3
        exact (h7 j (by omega)).1
    refine ⟨σ.2 14 5 (60 * t + j), wI σ 10 0 11 0, wI (wI (wI σ 10 0 11 0) 11 0 1 0) 11 0 0 0, ?_, ?_, h.ps hE, rfl, PS_PT hE⟩
    · show X11_read σ (nI t) (nI j) = _
      have h3' : (wI σ 10 0 11 0).1 13 20 t = nI m := by rw [wI_ne _ _ (by omega)]; exact g2
      unfold X11_read X11_read_j0 X6_at X6_at_j0
      rw [e1, Option.bind_some, answers0, Option.bind_some, if_neg neg1_0, idx_in ht hj hm h3', Option.bind_some, if_neg (nI_pos (by omega)), lenp.1, if_neg (nI_ge (by omega) (by decide)), ck_nI (by omega) (by decide), Option.bind_some, Option.bind_some, wI_2]
    · show X12_read (wI σ 10 0 11 0) (nI t) (nI j) = _
      have hix : ck (LN 14 6) (60 * nI t + nI j) = some (60 * t + j) := by
        show ck (LN 14 6) (nI 60 * nI t + nI j) = _
        rw [lenp.2, pk_mul, nI_add]
        exact ck_nI (by omega) (by decide)
      unfold X12_read X12_read_j0
      rw [Option.bind_some, hp, e2, Option.bind_some, Option.bind_some, wI_eq, if_pos (by decide), hix, Option.bind_some, wI_2, wI_2, wI_2, hv]
  · have hE : Eqo PS σ (wI (wI (wI σ 10 0 11 w) 11 0 1 0) 11 0 0 w) := ((ps1 σ w).tr (ps3 _ _)).tr (ps2 _ _)
    have hp := placed_ps ((ps1 σ w).tr (ps3 _ 0)) a b
    refine ⟨-1, wI σ 10 0 11 w, wI (wI (wI σ 10 0 11 w) 11 0 1 0) 11 0 0 w, ?_, ?_, h.ps hE, ?_, PS_PT hE⟩
    · show X11_read σ a b = _
      unfold X11_read X11_read_j0
      rw [e1, Option.bind_some, answersN _ hw0, Option.bind_some, if_pos rfl]
    · show X12_read (wI σ 10 0 11 w) a b = _
      unfold X12_read X12_read_j0
      rw [Option.bind_some, hp, e2, Option.bind_some, Option.bind_some, wI_eq, if_neg hw1]
    · unfold St
      rw [wI_ne _ _ (by omega), wI_ne _ _ (by omega), wI_eq, wI_eq]
theorem cut_eq (σ τ : SS) (s : Int32) (v : Int64) : X6_cutTo σ s v = X12_cut τ s v := rfl
theorem cut_some (σ : SS) (s : Int32) (v : Int64) : ∃ u, X12_cut σ s v = some u := by
  unfold X12_cut X12_cut_j0
  by_cases h0 : s = 0
  · exact ⟨_, if_pos h0⟩
  · rw [if_neg h0]
    by_cases h1 : s = 1
    · exact ⟨_, if_pos h1⟩
    · rw [if_neg h1]
      by_cases h2 : s = 2
      · exact ⟨_, if_pos h2⟩
      · exact ⟨_, if_neg h2⟩
theorem op_write (a b : Int32) (v : Int64) {σ : SS} (h : RT σ) : TRs σ (fun σ => X11_write σ a b v) (fun σ => X12_write σ a b v) := by
  rcases place_or h a b with ⟨t, j, m, ht, hj, hm, rfl, rfl, g1, g2, g3, e1, e2⟩ | ⟨w, hw0, hw1, e1, e2⟩
  · rcases h t ht with ⟨g, _⟩ | ⟨_, m', so, h1, h2, h3, h4, h5, h6, h7⟩
    · rw [g1] at g
      exact absurd g (by decide)
    · have hmm : m = m' := by
        rw [g2] at h3
        exact (nI_eq (by omega) (by omega)).mp h3
      subst hmm
      obtain ⟨u, hu⟩ := cut_some σ (nI so) v
      have hcu0 : cutv so u = u := by
        have e := xcut_ok σ h2 v
        rw [hu] at e
        rw [Option.some.inj e]
        exact cutv_2 so v
      let υ := wJ (wI σ 10 0 11 0) 14 5 (60 * t + j) u
      let τ := wJ (wI (wI υ 11 0 1 0) 11 0 0 0) 14 6 (60 * t + j) u
      have hE1 : Eqo PT σ υ := (PS_PT (ps1 σ 0)).tr (Eqo.wJ (.inr (.inr ⟨rfl, .inl rfl⟩)))
      have hE2 : Eqo PT υ τ := ((PS_PT (ps3 _ _)).tr (PS_PT (ps2 _ _))).tr (Eqo.wJ (.inr (.inr ⟨rfl, .inr rfl⟩)))
      have o1 : ∀ k n j, ¬ PS k n j → τ.1 k n j = σ.1 k n j := fun k n j q => by
        show (wI (wI (wI σ 10 0 11 0) 11 0 1 0) 11 0 0 0).1 k n j = _
        unfold PS at q
        rw [wI_ne _ _ (by omega), wI_ne _ _ (by omega), wI_ne _ _ (by omega)]
      have o5 : ∀ j', τ.2 14 5 j' = if j' = 60 * t + j then u else σ.2 14 5 j' := fun j' => by
        show (wJ (wI (wI υ 11 0 1 0) 11 0 0 0) 14 6 (60 * t + j) u).2 14 5 j' = _
        rw [wJ_ne _ _ (by omega)]
        show (wJ (wI σ 10 0 11 0) 14 5 (60 * t + j) u).2 14 5 j' = _
        by_cases z : j' = 60 * t + j
        · rw [if_pos z, z, wJ_eq]
        · rw [if_neg z, wJ_ne _ _ (by omega)]
          rfl
      have o6 : ∀ j', τ.2 14 6 j' = if j' = 60 * t + j then u else σ.2 14 6 j' := fun j' => by
        show (wJ (wI (wI υ 11 0 1 0) 11 0 0 0) 14 6 (60 * t + j) u).2 14 6 j' = _
        by_cases z : j' = 60 * t + j
        · rw [if_pos z, z, wJ_eq]
        · rw [if_neg z, wJ_ne _ _ (by omega)]
          show (wJ (wI σ 10 0 11 0) 14 5 (60 * t + j) u).2 14 6 j' = _
          rw [wJ_ne _ _ (by omega)]
          rfl
      refine ⟨1, υ, τ, ?_, ?_, ?_, ?_, hE1.tr hE2⟩
      · show X11_write σ (nI t) (nI j) v = _
        have h3' : (wI σ 10 0 11 0).1 13 20 t = nI m := by rw [wI_ne _ _ (by omega)]; exact g2
        have f1 := fa_at (wI σ 10 0 11 0) 1 (by decide) ht
        have f1' : X4_at (wI σ 10 0 11 0) 20 1 (nI t) = some (nI so) := by
          rw [Nat.one_mul, wI_ne _ _ (by omega), h5] at f1
          exact f1
        have hcu : X6_cutTo (wI σ 10 0 11 0) (nI so) v = some u := hu
        unfold X11_write X11_write_j0 X6_put X6_put_j0
        rw [e1, Option.bind_some, answers0, Option.bind_some, if_neg neg1_0, idx_in ht hj hm h3', Option.bind_some, if_neg (nI_pos (by omega)), lenp.1, if_neg (nI_ge (by omega) (by decide)), f1', Option.bind_some, hcu, Option.bind_some, ck_nI (by omega) (by decide), Option.bind_some, Option.bind_some, Option.bind_some, if_neg neg1_0]
      · show X12_write υ (nI t) (nI j) v = _
        have hix : ck (LN 14 6) (60 * nI t + nI j) = some (60 * t + j) := by
          show ck (LN 14 6) (nI 60 * nI t + nI j) = _
          rw [lenp.2, pk_mul, nI_add]
          exact ck_nI (by omega) (by decide)
        have hp : X12_placed (wI υ 11 0 1 0) (nI t) (nI j) = some 0 := by
          rw [← e2]
          exact placed_ps ((ps1 σ 0).tr (ps3 _ 0)) (nI t) (nI j)
        have hso : (wI (wI υ 11 0 1 0) 11 0 0 0).1 13 32 t = nI so := by
          rw [wI_ne _ _ (by omega), wI_ne _ _ (by omega)]
          show (wI σ 10 0 11 0).1 13 32 t = _
          rw [wI_ne _ _ (by omega)]
          exact h6
        have hcu : X12_cut (wI (wI υ 11 0 1 0) 11 0 0 0) (nI so) v = some u := hu
        unfold X12_write X12_write_j0
        rw [Option.bind_some, hp, Option.bind_some, Option.bind_some, wI_eq, if_pos (by decide), ck32 ht, Option.bind_some, hso, hcu, Option.bind_some, hix, Option.bind_some, Option.bind_some]
      · intro t' ht'
        rcases h t' ht' with ⟨a1, a2⟩ | ⟨a1, m', so', k1, k2, k3, k4, k5, k6, k7⟩
        · left
          rw [o1 _ _ _ (by unfold PS; omega), o1 _ _ _ (by unfold PS; omega)]
          exact ⟨a1, a2⟩
        · right
          refine ⟨?_, m', so', k1, k2, ?_, ?_, ?_, ?_, fun j' hj' => ?_⟩
          · rw [o1 _ _ _ (by unfold PS; omega)]; exact a1
          · rw [o1 _ _ _ (by unfold PS; omega)]; exact k3
          · rw [o1 _ _ _ (by unfold PS; omega)]; exact k4
          · rw [o1 _ _ _ (by unfold PS; omega)]; exact k5
          · rw [o1 _ _ _ (by unfold PS; omega)]; exact k6
          · rw [o5, o6]
            split
            · rename_i z
              have hmt : m' ≤ 60 := k1
              have e1 : t' = t := by omega
              subst e1
              have e2 : so' = so := by
                rw [h5] at k5
                exact ((nI_eq (by omega) (by omega)).mp k5).symm
              rw [e2]
              exact ⟨rfl, hcu0⟩
            · exact k7 j' hj'
      · rfl
  · have hE : Eqo PS σ (wI (wI (wI σ 10 0 11 w) 11 0 1 0) 11 0 0 w) := ((ps1 σ w).tr (ps3 _ _)).tr (ps2 _ _)
    have hp := placed_ps ((ps1 σ w).tr (ps3 _ 0)) a b
    refine ⟨0, wI σ 10 0 11 w, wI (wI (wI σ 10 0 11 w) 11 0 1 0) 11 0 0 w, ?_, ?_, h.ps hE, ?_, PS_PT hE⟩
    · show X11_write σ a b v = _
      unfold X11_write X11_write_j0
      rw [e1, Option.bind_some, answersN _ hw0, Option.bind_some, if_pos rfl]
    · show X12_write (wI σ 10 0 11 w) a b v = _
      unfold X12_write X12_write_j0
      rw [Option.bind_some, hp, e2, Option.bind_some, Option.bind_some, wI_eq, if_neg hw1]
    · unfold St
      rw [wI_ne _ _ (by omega), wI_ne _ _ (by omega), wI_eq, wI_eq]
