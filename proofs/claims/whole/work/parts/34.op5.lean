theorem op_lead (a b : Int32) : DOp (fun σ => X11_lead σ a b) (fun σ => X12_lead σ a b) := by
  intro σ n nk nu lo i c s p o L h
  have h1 := h.ps (ps1 σ 0)
  have h8 := h.1.n8
  have h9 := h.ps (s0_ps σ 0)
  rcases lead_or h.1 a with ⟨l, hl, rfl⟩ | ⟨ha, hn⟩
  · rcases in_or b 7 (by decide) with ⟨w, hw, rfl⟩ | ⟨hb, hbn⟩
    · by_cases w6 : w = 6
      · subst w6
        refine told h (nI (cnt L l)) ?_ ?_
        · show X11_lead σ (nI l) (nI 6) = _
          unfold X11_lead X11_lead_j0 X11_lead_j31
          rw [has_in h.1 hl, Option.bind_some, if_neg neg1_0, if_neg (nI_pos (by omega)), if_pos (show nI 6 ≤ 7 by decide), answers0, Option.bind_some, if_neg neg1_0, if_pos (show nI 6 = 6 from rfl), countOn_ok (by decide) h8 h1.2.1 (by omega), Option.bind_some]
        · show X12_lead (wI σ 10 0 11 0) (nI l) (nI 6) = _
          unfold X12_lead X12_lead_j0
          rw [Option.bind_some, Option.bind_some, s0e, s0b h 0 hl, Option.bind_some, if_neg neg1_0, xisIn_in _ hw (by decide) 7 (by decide), Option.bind_some, if_neg neg1_0, if_pos (show nI 6 = 6 from rfl), xcrossings h8 h9.2.2.2 (by omega), Option.bind_some]
      · have n6 : ¬ nI w = 6 := fun z => w6 ((nI_eq (b := 6) (by omega) (by decide)).mp z)
        by_cases w7 : w = 7
        · subst w7
          have ea : X4_at (wI σ 10 0 11 0) (4 * 0 + 1) 6 (nI l) = some (nI (risk nu l)) := by
            have := nu_at (σ := wI σ 10 0 11 0) (d := 0) (by decide) 6 (by decide) (k := l) (by omega)
            rw [h1.1.2.2.2.1 l hl] at this
            exact this
          refine told h (nI (risk nu l)) ?_ ?_
          · show X11_lead σ (nI l) (nI 7) = _
            unfold X11_lead X11_lead_j0 X11_lead_j31 X11_lead_j72 X0_number X0_number_j0
            rw [has_in h.1 hl, Option.bind_some, if_neg neg1_0, if_neg (nI_pos (by omega)), if_pos (show nI 7 ≤ 7 by decide), answers0, Option.bind_some, if_neg neg1_0, if_neg n6, if_pos (show nI 7 = 7 from rfl), ea, Option.bind_some, Option.bind_some]
          · show X12_lead (wI σ 10 0 11 0) (nI l) (nI 7) = _
            unfold X12_lead X12_lead_j0
            rw [Option.bind_some, Option.bind_some, s0e, s0b h 0 hl, Option.bind_some, if_neg neg1_0, xisIn_in _ hw (by decide) 7 (by decide), Option.bind_some, if_neg neg1_0, if_neg n6, if_pos (show nI 7 = 7 from rfl), xriskOf h9.2.2.1 hl, Option.bind_some]
        · have n7 : ¬ nI w = 7 := fun z => w7 ((nI_eq (b := 7) (by omega) (by decide)).mp z)
          have ea : X4_at (wI σ 10 0 11 0) (4 * 0 + 1) (nI w) (nI l) = some (nI (nu w l)) := by
            have := nu_at (σ := wI σ 10 0 11 0) (d := 0) (by decide) w (by omega) (k := l) (by omega)
            rw [h1.1.2.2.1 w l (by omega) hl] at this
            exact this
          have cw : ck (LN 13 34) (8 + 8 * nI w + nI l) = some (8 + 8 * w + l) := by
            show ck (LN 13 34) (nI 8 + nI 8 * nI w + nI l) = _
            rw [pk_mul, nI_add, nI_add]
            exact ckc (by omega)
          refine told h (nI (nu w l)) ?_ ?_
          · show X11_lead σ (nI l) (nI w) = _
            unfold X11_lead X11_lead_j0 X11_lead_j31 X11_lead_j72 X0_number X0_number_j0
            rw [has_in h.1 hl, Option.bind_some, if_neg neg1_0, if_neg (nI_pos (by omega)), if_pos (show nI w ≤ 7 from nI_le (b := 7) hw (by decide)), answers0, Option.bind_some, if_neg neg1_0, if_neg n6, if_neg n7, ea, Option.bind_some, Option.bind_some]
          · show X12_lead (wI σ 10 0 11 0) (nI l) (nI w) = _
            unfold X12_lead X12_lead_j0
            rw [Option.bind_some, Option.bind_some, s0e, s0b h 0 hl, Option.bind_some, if_neg neg1_0, xisIn_in _ hw (by decide) 7 (by decide), Option.bind_some, if_neg neg1_0, if_neg n6, if_neg n7, cw, Option.bind_some, h9.2.2.1.gn (by omega) hl]
    · refine refused h 5 (-1) ?_ ?_
      · show X11_lead σ (nI l) b = _
        unfold X11_lead X11_lead_j0 X11_lead_j26 X11_lead_j31
        rw [has_in h.1 hl, Option.bind_some, if_neg neg1_0, answersN _ (by decide), Option.bind_some, if_pos rfl]
        rcases hb with q | ⟨q1, q2⟩
        · rw [if_pos q]
        · rw [if_neg q1, if_neg (show ¬ b ≤ 7 from q2)]
      · show X12_lead (wI σ 10 0 11 5) (nI l) b = _
        unfold X12_lead X12_lead_j0
        rw [Option.bind_some, Option.bind_some, s0e, s0b h 5 hl, Option.bind_some, if_neg neg1_0, xisIn_out _ hbn 7 (by decide), Option.bind_some, if_pos rfl]
        rfl
  · refine refused h 2 (-1) ?_ ?_
    · show X11_lead σ a b = _
      unfold X11_lead X11_lead_j0 X11_lead_j31
      rw [hn, Option.bind_some, if_pos rfl, answersN _ (by decide), Option.bind_some, if_pos rfl]
    · show X12_lead (wI σ 10 0 11 2) a b = _
      unfold X12_lead X12_lead_j0
      rw [Option.bind_some, Option.bind_some, s0e, s0a h 2 ha, Option.bind_some, if_pos rfl]
      rfl
theorem op_crossing (a b : Int32) : DOp (fun σ => X11_crossing σ a b) (fun σ => X12_crossing σ a b) := by
  intro σ n nk nu lo i c s p o L h
  have h1 := h.ps (ps1 σ 0)
  have h8 := h.1.n8
  have h24 := h.2.1.l24
  rcases in_or b 2 (by decide) with ⟨w, hw, rfl⟩ | ⟨hb, hbn⟩
  · rcases lt_or a L.length (by omega) with ⟨k, hk, rfl⟩ | ⟨ha, hn⟩
    · have h9 := h.ps (s0_ps σ 0)
      obtain ⟨x, hx⟩ : ∃ x, L[k]? = some x := ⟨L[k], List.getElem?_eq_getElem hk⟩
      obtain ⟨c0, c1, c2⟩ := crossingAt_ok (by decide) h1.2.1 hx
      obtain ⟨-, -, -, -, -, -, d0, d1, d2⟩ := h9.2.2.2.x hx
      have hv : ∃ v, X0_crossingAt (wI σ 10 0 11 0) 0 (nI w) (nI k) = some v ∧ (s0 σ 0).1 13 34 (60 + 24 * w + k) = v := by
        have : w = 0 ∨ w = 1 ∨ w = 2 := by omega
        rcases this with z | z | z <;> subst z
        · exact ⟨_, c0, d0⟩
        · exact ⟨_, c1, d1⟩
        · exact ⟨_, c2, d2⟩
      obtain ⟨v, e1, e2⟩ := hv
      have cw : ck (LN 13 34) (60 + 24 * nI w + nI k) = some (60 + 24 * w + k) := by
        show ck (LN 13 34) (nI 60 + nI 24 * nI w + nI k) = _
        rw [pk_mul, nI_add, nI_add]
        exact ckc (by omega)
      refine told h v ?_ ?_
      · show X11_crossing σ (nI k) (nI w) = _
        unfold X11_crossing X11_crossing_j0 X11_crossing_j35 X0_crossingCount X0_crossingCount_j0
        rw [if_neg (nI_pos (by omega)), if_pos (show nI w ≤ 2 from nI_le (b := 2) hw (by decide)), if_neg (nI_pos (by omega)), h.2.1.len, Option.bind_some, if_pos (nI_lt hk (by omega)), answers0, Option.bind_some, if_neg neg1_0, e1, Option.bind_some]
      · show X12_crossing (wI σ 10 0 11 0) (nI k) (nI w) = _
        unfold X12_crossing X12_crossing_j0
        rw [Option.bind_some, Option.bind_some, s0e, xisIn_in _ hw (by decide) 2 (by decide), Option.bind_some, if_neg neg1_0, ck1, Option.bind_some, h9.2.2.2.len, xin1_in _ hk (by omega), Option.bind_some, if_neg neg1_0, cw, Option.bind_some, e2]
    · have h9 := h.ps (s0_ps σ 8)
      refine refused h 8 (-1) ?_ ?_
      · show X11_crossing σ a (nI w) = _
        unfold X11_crossing X11_crossing_j0 X11_crossing_j29 X11_crossing_j35 X0_crossingCount X0_crossingCount_j0
        rw [if_neg (nI_pos (by omega)), if_pos (show nI w ≤ 2 from nI_le (b := 2) hw (by decide)), h.2.1.len, Option.bind_some, answersN _ (by decide), Option.bind_some, if_pos rfl]
        by_cases q : a < 0
        · rw [if_pos q]
        · rw [if_neg q, if_neg (fun z => hn ⟨q, z⟩)]
      · show X12_crossing (wI σ 10 0 11 8) a (nI w) = _
        unfold X12_crossing X12_crossing_j0
        rw [Option.bind_some, Option.bind_some, s0e, xisIn_in _ hw (by decide) 2 (by decide), Option.bind_some, if_neg neg1_0, ck1, Option.bind_some, h9.2.2.2.len, xin1_out _ (by omega) ha, Option.bind_some, if_pos rfl]
        rfl
  · refine refused h 5 (-1) ?_ ?_
    · show X11_crossing σ a b = _
      unfold X11_crossing X11_crossing_j0 X11_crossing_j10 X11_crossing_j35
      rw [answersN _ (by decide), Option.bind_some, if_pos rfl]
      rcases hb with q | ⟨q1, q2⟩
      · rw [if_pos q]
      · rw [if_neg q1, if_neg (show ¬ b ≤ 2 from q2)]
    · show X12_crossing (wI σ 10 0 11 5) a b = _
      unfold X12_crossing X12_crossing_j0
      rw [Option.bind_some, Option.bind_some, s0e, xisIn_out _ hbn 2 (by decide), Option.bind_some, if_pos rfl]
      rfl
theorem op_easy : DOp X11_easy X12_easy := by
  intro σ n nk nu lo i c s p o L h
  have h1 := h.ps (ps1 σ 0)
  have h8 := h.1.n8
  have h9 := h.ps (s0_ps σ 0)
  have hi := p256 h8 h.2.1.ilt
  obtain ⟨e, hlt⟩ := lone_ok (by decide) h1.1 h1.2.1
  refine told h (nI (loneF n i L)) ?_ ?_
  · unfold X11_easy X11_easy_j0
    rw [answers0, Option.bind_some, e, Option.bind_some]
  · unfold X12_easy X12_easy_j0 X12_easy_l14
    rw [Option.bind_some, Option.bind_some, s0e]
    have key := iter_range (f := X12_easy_l14b (s0 σ 0)) (s := (0, 0)) n (fun _ a => a < 256) (fun a l => a ||| (if popc (lumpF i L l) = 1 then 2 ^ l else 0)) (fun a => nI a) (fun a k => (nI a, nI k)) 0 rfl (by decide) (by omega) (fun k a hk hI => by
      have hI' : a < 256 := hI
      clear hI
      have hsh : 1 <<< (nI k &&& 31) = nI (2 ^ k) := hsh (by omega)
      have h00 : nI a ||| 0 = nI a := by
        show nI a ||| nI 0 = _
        rw [nI_or, Nat.or_zero]
      have hpl := popc_le (lumpF i L k)
      show X12_easy_l14c (s0 σ 0) (nI a) (nI k) = _
      unfold X12_easy_l14c X12_easy_j51 X12_easy_j52
      rw [ck0, Option.bind_some, h9.2.2.1.ln, if_neg (nI_ge hk (by omega)), s0c h 0 hk, Option.bind_some, v01]
      by_cases q : i.testBit k = true
      · obtain ⟨e3, hq3⟩ := xlumpOf h9.2.2.1 h9.2.2.2 hk q
        rw [if_pos q, e3, Option.bind_some, xsizeOf hq3.1, Option.bind_some]
        by_cases z : popc (lumpF i L k) = 1
        · rw [if_pos (by rw [z]; rfl), hsh, nI_or, Option.bind_some, nI_1, Option.bind_some, if_pos z]
        · rw [if_neg (show ¬ nI (popc (lumpF i L k)) = 1 from fun w => z ((nI_eq (b := 1) (by omega) (by decide)).mp w)), h00, Option.bind_some, nI_1, Option.bind_some, if_neg z, Nat.or_zero]
      · obtain ⟨-, hq3⟩ := around_eq (by decide) h1.1 h1.2.1 hi hk
        have h0 := lump_out hq3 (Bool.eq_false_iff.mpr q)
        rw [if_neg q, h00, Option.bind_some, nI_1, Option.bind_some, h0, popc_0, if_neg (by decide), Nat.or_zero]) (fun k a hk hI => by
      have hI' : a < 256 := hI
      refine or_lt hI' ?_
      split
      · exact pow_lt8 (by omega)
      · decide) (fun a hI => by
      clear hI
      show X12_easy_l14c (s0 σ 0) (nI a) (nI n) = _
      unfold X12_easy_l14c
      rw [ck0, Option.bind_some, h9.2.2.1.ln, if_pos (nI_le (Nat.le_refl _) (by omega))])
    rw [key.1]
    rfl
