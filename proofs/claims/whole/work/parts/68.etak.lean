/-! ===== LIFE: taking a lead, both sides ===== -/
theorem twl_zero : ∀ (A : RW) (k : Nat), k ≤ twl A → ∀ y ∈ A.take k, y.2 = 0 := by
  intro A
  induction A with
  | nil =>
    intro k hk y hy
    rw [List.take_nil] at hy
    cases hy
  | cons z t ih =>
    intro k hk y hy
    unfold twl at hk
    cases k with
    | zero =>
      rw [List.take_zero] at hy
      cases hy
    | succ k =>
      split at hk
      · rename_i q
        rw [List.take_succ_cons] at hy
        rcases List.mem_cons.mp hy with e | e
        · rw [e]; exact q
        · exact ih k (by omega) y e
      · omega
theorem few_mid {R : RW} (h : RWb R) : ∀ y ∈ (R.drop (few R).2.1).take (R.length - (few R).2.1 - (few R).2.2), y.2 = 0 := by
  obtain ⟨h1, h2⟩ := few_in h
  refine twl_zero _ _ ?_
  unfold tied at h1
  omega
theorem fwP_c (R : RW) : fwP R = 0 ∨ fwP R = 1 := by
  unfold fwP
  split
  · exact .inr rfl
  · exact .inl rfl
section ET
variable {σ υ : SS} {d n nk i c q : Nat} {s p o : Int32} {nu : Nat → Nat → Nat} {lo : Nat → Nat} {L : List X3}
/-- the lone lead is pulled, by both -/
theorem both_pull (hd : d < 5) (hs : RS σ d n nk nu lo) (h : RV σ d n i c s p o L) (hxs : RXS υ n nk nu lo) (hx : RXV υ n i c s p o L) {l : Nat} (hl : l < n) (hil : i.testBit l = true) (h0 : ∀ x ∈ L, qO l x = true → x.2.2 = 0) : ∃ σ' υ' s' L', X0_pullAt σ d (nI l) 1 = some σ' ∧ X12_pulls υ (nI l) = some υ' ∧ Eqo (VC d) σ σ' ∧ Eqo XC υ υ' ∧ RV σ' d n i c s' p o L' ∧ RXV υ' n i c s' p o L' := by
  have h8 := hs.n8
  have hp1 := lump_lone (i := i) (L := L) (l := l) (by omega) hil h0
  obtain ⟨σ', e1, E1, R1⟩ := pullAt_ok hd h8 h (l := l) (by omega) true
  obtain ⟨υ', e2, E2, R2⟩ := xpulls hxs hx hl hil
  have hb : (popc (lumpF i L l) == 1) = true := by rw [hp1]; rfl
  rw [hb] at R2
  exact ⟨σ', υ', _, _, e1, e2, E1, E2, R1, R2⟩
theorem eff_take (hd : d < 5) (h : JJ d σ υ n nk nu lo i c s p o L q) {l : Nat} (hl : l < n) (hil : i.testBit l = true) : ∃ σ' υ', X2_takeOut σ d (nI l) = some σ' ∧ X12_takes υ (nI l) = some υ' ∧ JE d n nk nu lo σ' υ' ∧ Eqo (LC d) σ σ' ∧ Eqo LX υ υ' := by
  have h8 := h.rs.n8
  obtain ⟨k, hk, eA⟩ := alF_spec (nu := nu) h.rs.wf (l := l) h.rv.wl
  have hRb := rowL_b h.rs.wf (l := l) (dn := 0) (k := k) h.rv.wl
  have hmid := few_mid hRb.1
  have hsum := (few_lt hRb.1).2
  have hPw := fwP_c (rowL nu l 0 k L)
  -- the class: the count, and the way
  have hE3 : Eqo (fun a b j => a = 13 ∧ b = 28 ∧ j = 3) σ (wI σ 13 28 3 (σ.1 13 28 3 + 1)) := Eqo.wI ⟨rfl, rfl, rfl⟩
  have hs3 : RS (wI σ 13 28 3 (σ.1 13 28 3 + 1)) d n nk nu lo := h.rs.keep hE3 (fun k m j q => by omega)
  have h3 : RV (wI σ 13 28 3 (σ.1 13 28 3 + 1)) d n i c s p o L := h.rv.keep hE3 (fun k m j q => by omega)
  have e3 : X2_add σ 3 1 = some (wI σ 13 28 3 (σ.1 13 28 3 + 1)) := add_ok σ (k := 3) (by decide) 1
  have c3 : (wI σ 13 28 3 (σ.1 13 28 3 + 1)).1 13 28 3 = σ.1 13 28 3 + 1 := wI_eq _ _ _ _ _
  generalize wI σ 13 28 3 (σ.1 13 28 3 + 1) = σ3 at *
  obtain ⟨σ4, e4, E4, W4⟩ := find_ok hd hs3 h3 hl
  have hs4 : RS σ4 d n nk nu lo := hs3.keep E4 (fun k m j q => by unfold WF WR at q; omega)
  have h4 : RV σ4 d n i c s p o L := h3.keep E4 (fun k m j q => by unfold WF WR at q; omega)
  obtain ⟨υ4, f4, hc4, F4, X4⟩ := xaloneOf h.xs h.xv hl
  have hxs4 : RXS υ4 n nk nu lo := h.xs.of hc4
  have hx4 : RXV υ4 n i c s p o L := h.xv.of hc4
  unfold WayIs at W4 X4
  rw [eA] at W4 X4
  simp only at W4 X4
  generalize hR : rowL nu l 0 k L = R at *
  generalize hP : (few R).2.1 = P at *
  generalize hS : (few R).2.2 = S at *
  generalize hw : fwP R = w at *
  have way : ∀ τ, Eqo (VC d) σ4 τ → X7_wayAt τ 0 = some (nI k) ∧ X7_wayAt τ 1 = some (nI P) ∧ X7_wayAt τ 2 = some (nI S) ∧ X7_wayAt τ 3 = some (nI w) := fun τ hτ => by
    have g : ∀ j, j < 4 → X7_wayAt τ (nI j) = some (σ4.1 13 23 j) := fun j hj => by
      unfold X7_wayAt X7_wayAt_j0
      rw [way_at τ hj, Option.bind_some, hτ.at1 (by unfold VC; omega)]
    exact ⟨(g 0 (by decide)).trans (congrArg some W4.1), (g 1 (by decide)).trans (congrArg some W4.2.1), (g 2 (by decide)).trans (congrArg some W4.2.2.1), (g 3 (by decide)).trans (congrArg some W4.2.2.2)⟩
  have wax : ∀ τ, Eqo XC υ4 τ → τ.1 13 38 0 = nI k ∧ τ.1 13 38 1 = nI P ∧ τ.1 13 38 2 = nI S ∧ τ.1 13 38 3 = nI w := fun τ hτ => by
    have g : ∀ j, τ.1 13 38 j = υ4.1 13 38 j := fun j => hτ.at1 (by unfold XC; omega)
    exact ⟨(g 0).trans X4.1, (g 1).trans X4.2.1, (g 2).trans X4.2.2.1, (g 3).trans X4.2.2.2⟩
  -- loosening
  obtain ⟨σ5, υ5, e5, f5, ⟨s5, R5, Y5⟩, E5, F5⟩ := jloop (f := X2_takeOut_l18b d (nI l)) (g := X12_takes_l8b (nI l)) k (fun m w v => (∃ s', RV w d n i c s' p o (lsn m L) ∧ RXV v n i c s' p o (lsn m L)) ∧ Eqo (VC d) σ4 w ∧ Eqo XC υ4 v) id id (σ := σ4) (υ := υ4) ⟨⟨s, by rw [lsn_0 h.xv.st3]; exact ⟨h4, hx4⟩⟩, Eqo.rf _ _, Eqo.rf _ _⟩ (by omega) (fun m w v hm hI => by
    obtain ⟨⟨s', hR', hX'⟩, hE1, hE2⟩ := hI
    obtain ⟨w', a1, A1, B1⟩ := loosenOnce_ok hd hR'
    obtain ⟨v', a2, A2, B2⟩ := xloosensOnce hX'
    rw [lsn_s h.xv.st3] at B1 B2
    refine ⟨w', v', ?_, ?_, ⟨_, B1, B2⟩, hE1.tr A1, hE2.tr A2⟩
    · show X2_takeOut_l18c w d (nI l) (nI m) = _
      unfold X2_takeOut_l18c
      rw [(way w hE1).1, Option.bind_some, if_neg (nI_ge hm (by omega)), a1, Option.bind_some, nI_1, Option.bind_some]
    · show X12_takes_l8c v (nI l) (nI m) = _
      unfold X12_takes_l8c
      rw [show ck (LN 13 38) 0 = some 0 from ck38 (t := 0) (by decide), Option.bind_some, (wax v hE2).1, if_neg (nI_ge hm (by omega)), a2, Option.bind_some, nI_1, Option.bind_some]) (fun w v hI => by
    obtain ⟨-, hE1, hE2⟩ := hI
    constructor
    · show X2_takeOut_l18c w d (nI l) (nI k) = _
      unfold X2_takeOut_l18c
      rw [(way w hE1).1, Option.bind_some, if_pos (nI_le (Nat.le_refl _) (by omega))]
      rfl
    · show X12_takes_l8c v (nI l) (nI k) = _
      unfold X12_takes_l8c
      rw [show ck (LN 13 38) 0 = some 0 from ck38 (t := 0) (by decide), Option.bind_some, (wax v hE2).1, if_pos (nI_le (Nat.le_refl _) (by omega))]
      rfl)
  have hs5 := hs4.keepV E5
  have hxs5 := hxs4.keepV F5
  have hrow5 : rowL nu l 0 0 (lsn k L) = R := by rw [rowL_lsn nu l 0 k L h.xv.st3, hR]
  have hc5 : cnt (lsn k L) l = R.length := by rw [← rowL_cnt nu, hrow5]
  have hR24 := hRb.1.1
  -- undoing from the front
  obtain ⟨σ6, υ6, s6, L6, e6, f6, E6, F6, R6, Y6, row6⟩ := undo_n hd false hl (X2_takeOut_l43b d (nI l)) (X12_takes_l31b (nI l)) (VC d) XC P (fun _ _ _ q => q) (fun _ _ _ q => q) (fun x w hw => by
      show X2_takeOut_l43c w d (nI l) x = _
      unfold X2_takeOut_l43c
      rw [(way w (E5.tr hw)).2.1, Option.bind_some]
      rfl) (fun x v hv => by
      show X12_takes_l31c v (nI l) x = _
      unfold X12_takes_l31c
      rw [show ck (LN 13 38) 1 = some 1 from ck38 (t := 1) (by decide), Option.bind_some, (wax v (F5.tr hv)).2.1]
      rfl) hs5 R5 hxs5 Y5 (by omega) (by omega)
  rw [if_neg (by decide), hrow5] at row6
  have hs6 := hs5.keepV E6
  have hxs6 := hxs5.keepV F6
  have hc6 : cnt L6 l = R.length - P := by rw [← rowL_cnt nu, row6, List.length_drop]
  -- undoing from the end
  obtain ⟨σ7, υ7, s7, L7, e7, f7, E7, F7, R7, Y7, row7⟩ := undo_n hd true hl (X2_takeOut_l70b d (nI l)) (X12_takes_l56b (nI l)) (VC d) XC S (fun _ _ _ q => q) (fun _ _ _ q => q) (fun x w hw => by
      show X2_takeOut_l70c w d (nI l) x = _
      unfold X2_takeOut_l70c
      rw [(way w ((E5.tr E6).tr hw)).2.2.1, Option.bind_some]
      rfl) (fun x v hv => by
      show X12_takes_l56c v (nI l) x = _
      unfold X12_takes_l56c
      rw [show ck (LN 13 38) 2 = some 2 from ck38 (t := 2) (by decide), Option.bind_some, (wax v ((F5.tr F6).tr hv)).2.2.1]
      rfl) hs6 R6 hxs6 Y6 (by omega) (by omega)
  rw [if_pos rfl, row6, hc6] at row7
  have hs7 := hs6.keepV E7
  have hxs7 := hxs6.keepV F7
  have h0 : ∀ x ∈ L7, qO l x = true → x.2.2 = 0 := fun x hx hq => by
    have := rowL_mem (nu := nu) hx hq
    rw [row7] at this
    exact hmid (sUndo x.2.2 + nu 1 (oth l x), x.2.2) this
  have E47 := (E5.tr E6).tr E7
  have F47 := (F5.tr F6).tr F7
  -- the whole
  have last : ∃ σ8 υ8 s8 L8, (X7_wayAt σ7 3).bind (fun v100 => if v100 = 1 then ((X0_pullAt σ7 d (nI l) 1).bind fun σ110 => some σ110) else some σ7) = some σ8 ∧ (ck (LN 13 38) 3).bind (fun j84 => if (υ7.1 13 38 j84) = 1 then ((X12_pulls υ7 (nI l)).bind fun σ91 => X12_takes_j94 σ91) else (X12_takes_j94 υ7)) = some (wI υ8 11 0 48 (υ8.1 11 0 48 + 1)) ∧ Eqo (VC d) σ7 σ8 ∧ Eqo XC υ7 υ8 ∧ RV σ8 d n i c s8 p o L8 ∧ RXV υ8 n i c s8 p o L8 := by
    rw [(way σ7 E47).2.2.2, Option.bind_some, show ck (LN 13 38) 3 = some 3 from ck38 (t := 3) (by decide), Option.bind_some, (wax υ7 F47).2.2.2]
    rcases hPw with z | z
    · rw [z, if_neg (by decide), if_neg (by decide)]
      exact ⟨σ7, υ7, s7, L7, rfl, rfl, Eqo.rf _ _, Eqo.rf _ _, R7, Y7⟩
    · obtain ⟨σ8, υ8, s8, L8, e8, f8, E8, F8, R8, Y8⟩ := both_pull hd hs7 R7 hxs7 Y7 hl hil h0
      rw [z, if_pos (show nI 1 = 1 from rfl), if_pos (show nI 1 = 1 from rfl), e8, f8, Option.bind_some, Option.bind_some]
      exact ⟨σ8, υ8, s8, L8, rfl, rfl, E8, F8, R8, Y8⟩
  obtain ⟨σ8, υ8, s8, L8, e8, f8, E8, F8, R8, Y8⟩ := last
  have E48 := E47.tr E8
  have F48 := F47.tr F8
  have hs8 := hs7.keepV E8
  have hxs8 := hxs7.keepV F8
  refine ⟨σ8, wI υ8 11 0 48 (υ8.1 11 0 48 + 1), ?_, ?_, ⟨i, c, s8, p, o, L8, q, hs8, R8, ?_, ?_, ?_, ?_, ?_⟩, ?_, ?_⟩
  · unfold X2_takeOut X2_takeOut_j0 X2_takeOut_l18
    rw [e3, Option.bind_some, e4, Option.bind_some]
    simp only
    rw [e5, Option.bind_some]
    unfold X2_takeOut_l43
    show ((iter (X2_takeOut_l43b d (nI l)) NF (0, σ5)).bind fun t43 => X2_takeOut_l70 t43 d (nI l) 0) = _
    rw [e6, Option.bind_some]
    unfold X2_takeOut_l70
    rw [e7, Option.bind_some]
    exact e8
  · unfold X12_takes X12_takes_j0 X12_takes_l8
    rw [f4, Option.bind_some]
    simp only
    rw [f5, Option.bind_some]
    unfold X12_takes_l31
    show ((iter (X12_takes_l31b (nI l)) NF (0, υ5)).bind fun t31 => X12_takes_l56 t31 (nI l) 0) = _
    rw [f6, Option.bind_some]
    unfold X12_takes_l56
    rw [f7, Option.bind_some]
    exact f8
  · exact ((h.dr.keep hE3 (by omega)).keep E4 (by unfold WF WR; omega)).keep E48 (by unfold VC; omega)
  · exact hxs8.keep (P := fun a b j => a = 11 ∧ b = 0 ∧ j = 48) (Eqo.wI ⟨rfl, rfl, rfl⟩) (fun j q => by omega)
  · exact Y8.keep (P := fun a b j => a = 11 ∧ b = 0 ∧ j = 48) (Eqo.wI ⟨rfl, rfl, rfl⟩) (fun j q => by omega)
  · exact ((h.dx.keep F4 (by unfold AX XC FX; omega)).keep F48 (by unfold XC; omega)).keep (P := fun a b j => a = 11 ∧ b = 0 ∧ j = 48) (Eqo.wI ⟨rfl, rfl, rfl⟩) (by omega)
  · intro m hm
    have a1 : σ8.1 13 28 m = σ3.1 13 28 m := by rw [E48.at1 (by unfold VC; omega), E4.at1 (by unfold WF WR; omega)]
    have a2 : ∀ j, 45 ≤ j → j ≤ 48 → υ8.1 11 0 j = υ.1 11 0 j := fun j h1 h2 => by rw [F48.at1 (by unfold XC; omega), F4.at1 (by unfold AX XC FX; omega)]
    rw [a1]
    by_cases z : m = 3
    · subst z
      rw [wI_eq, c3, a2 48 (by decide) (by decide), h.2.2.2.2.2.2 3 (by decide)]
    · rw [wI_ne _ _ (by omega), a2 _ (by omega) (by omega), hE3.at1 (by omega)]
      exact h.2.2.2.2.2.2 m hm
  · exact ((Eqo.mono hE3 (fun a b j q => by unfold LC; omega)).tr (WF_LC E4)).tr (VC_LC E48)
  · exact ((AX_LX F4).tr (XC_LX F48)).tr (Eqo.wI (by unfold LX; omega))
end ET
