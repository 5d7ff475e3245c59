theorem tb_u {n i c l : Nat} (hl : l < 8) : (i &&& (255 ^^^ c)).testBit l = true ↔ i.testBit l = true ∧ c.testBit l = false := by
  rw [Nat.testBit_and, xor_tb hl, Bool.and_eq_true]
  cases c.testBit l <;> simp
theorem op_cross (a b w : Int32) : DOp (fun σ => X11_cross σ a b w) (fun σ => X12_cross σ a b w) := by
  intro σ n nk nu lo i c s p o L h
  have h1 := h.ps (ps1 σ 0)
  have h8 := h.1.n8
  have h24 := h.2.1.l24
  have hi := p256 h8 h.2.1.ilt
  rcases lead_or h.1 a with ⟨l, hl, rfl⟩ | ⟨ha, hn⟩
  · rcases lead_or h.1 b with ⟨m, hm, rfl⟩ | ⟨hb, hbn⟩
    · by_cases hlm : l = m
      · refine refused h 5 (-1) ?_ ?_
        · show X11_cross σ (nI l) (nI m) w = _
          unfold X11_cross X11_cross_j0 X11_cross_j41 X11_cross_j88
          rw [has_in h.1 hl, Option.bind_some, if_neg neg1_0, has_in h.1 hm, Option.bind_some, if_neg neg1_0, if_pos (by rw [hlm]), answersN _ (by decide), Option.bind_some, if_pos rfl]
        · show X12_cross (wI σ 10 0 11 5) (nI l) (nI m) w = _
          unfold X12_cross X12_cross_j0 X12_cross_j49
          rw [Option.bind_some, Option.bind_some, s0e, s0b h 5 hl, Option.bind_some, if_neg neg1_0, s0b h 5 hm, Option.bind_some, if_neg neg1_0, if_pos (by rw [hlm])]
          rfl
      · have hne : ¬ nI l = nI m := fun z => hlm ((nI_eq (by omega) (by omega)).mp z)
        rcases in_or w 3 (by decide) with ⟨v, hv, rfl⟩ | ⟨hw, hwn⟩
        · by_cases hf : L.length < 24
          · have hfull : ∀ τ, RV τ 0 n i c s p o L → X0_isFull τ 0 = some 0 := fun τ hh => by
              unfold X0_isFull X0_isFull_j0
              rw [hh.len, if_pos (show nI L.length < 24 from nI_lt (b := 24) hf (by decide))]
            by_cases ql : i.testBit l = true ∧ c.testBit l = false
            · by_cases qm : i.testBit m = true ∧ c.testBit m = false
              · obtain ⟨υ, e, hE, hR⟩ := addCrossing_ok (by decide) h1.2.1 hf hl hm hlm hv
                obtain ⟨g1, g2, -⟩ := h.cl hE
                obtain ⟨τ, e2, hE2, hR2⟩ := xcrosses h8 g2 hf hl hm hlm hv ql.1 qm.1
                refine changed h (nI (L ++ [(l, m, v)]).length) ?_ hE hR ?_ (XD_XO hE2) hR2
                · show X11_cross σ (nI l) (nI m) (nI v) = _
                  unfold X11_cross X11_cross_j0 X11_cross_j88 X0_crossingCount X0_crossingCount_j0
                  rw [has_in h.1 hl, Option.bind_some, if_neg neg1_0, has_in h.1 hm, Option.bind_some, if_neg neg1_0, if_neg hne, if_neg (nI_pos (by omega)), if_pos (show nI v ≤ 3 from nI_le (b := 3) hv (by decide)), hfull _ h.2.1, Option.bind_some, if_pos rfl, canBeCrossed_in h.1 h.2.1 hl, Option.bind_some, if_pos ql, if_neg neg1_0, canBeCrossed_in h.1 h.2.1 hm, Option.bind_some, if_pos qm, if_neg neg1_0, answers0, Option.bind_some, if_neg neg1_0, e, Option.bind_some, hR.len, Option.bind_some]
                · show X12_cross υ (nI l) (nI m) (nI v) = _
                  unfold X12_cross X12_cross_j0
                  rw [Option.bind_some, Option.bind_some, xisLeadAt_in g1 hl, Option.bind_some, if_neg neg1_0, xisLeadAt_in g1 hm, Option.bind_some, if_neg neg1_0, if_neg hne, xisIn_in _ hv (by decide) 3 (by decide), Option.bind_some, if_neg neg1_0, ck1, Option.bind_some, g2.len, if_neg (show ¬ nI L.length = 24 from fun z => by have := (nI_eq (b := 24) (by omega) (by decide)).mp z; omega), xcrossable h8 g2, Option.bind_some, xhas (and_lt hi) (by omega), Option.bind_some, if_pos ((tb_u (n := n) (by omega)).mpr ql), if_neg neg1_0, Option.bind_some, xhas (and_lt hi) (by omega), Option.bind_some, if_pos ((tb_u (n := n) (by omega)).mpr qm), if_neg neg1_0, e2, Option.bind_some, Option.bind_some, hR2.len]
              · have h9 := h.ps (s0_ps σ 9)
                refine refused h 9 (-1) ?_ ?_
                · show X11_cross σ (nI l) (nI m) (nI v) = _
                  unfold X11_cross X11_cross_j0 X11_cross_j86 X11_cross_j88
                  rw [has_in h.1 hl, Option.bind_some, if_neg neg1_0, has_in h.1 hm, Option.bind_some, if_neg neg1_0, if_neg hne, if_neg (nI_pos (by omega)), if_pos (show nI v ≤ 3 from nI_le (b := 3) hv (by decide)), hfull _ h.2.1, Option.bind_some, if_pos rfl, canBeCrossed_in h.1 h.2.1 hl, Option.bind_some, if_pos ql, if_neg neg1_0, canBeCrossed_in h.1 h.2.1 hm, Option.bind_some, if_neg qm, if_pos rfl, answersN _ (by decide), Option.bind_some, if_pos rfl]
                · show X12_cross (wI σ 10 0 11 9) (nI l) (nI m) (nI v) = _
                  unfold X12_cross X12_cross_j0 X12_cross_j95
                  rw [Option.bind_some, Option.bind_some, s0e, s0b h 9 hl, Option.bind_some, if_neg neg1_0, s0b h 9 hm, Option.bind_some, if_neg neg1_0, if_neg hne, xisIn_in _ hv (by decide) 3 (by decide), Option.bind_some, if_neg neg1_0, ck1, Option.bind_some, h9.2.2.2.len, if_neg (show ¬ nI L.length = 24 from fun z => by have := (nI_eq (b := 24) (by omega) (by decide)).mp z; omega), xcrossable h8 h9.2.2.2, Option.bind_some, xhas (and_lt hi) (by omega), Option.bind_some, if_pos ((tb_u (n := n) (by omega)).mpr ql), if_neg neg1_0, Option.bind_some, xhas (and_lt hi) (by omega), Option.bind_some, if_neg (fun z => qm ((tb_u (n := n) (by omega)).mp z)), if_pos rfl]
                  rfl
            · have h9 := h.ps (s0_ps σ 9)
              refine refused h 9 (-1) ?_ ?_
              · show X11_cross σ (nI l) (nI m) (nI v) = _
                unfold X11_cross X11_cross_j0 X11_cross_j86 X11_cross_j88
                rw [has_in h.1 hl, Option.bind_some, if_neg neg1_0, has_in h.1 hm, Option.bind_some, if_neg neg1_0, if_neg hne, if_neg (nI_pos (by omega)), if_pos (show nI v ≤ 3 from nI_le (b := 3) hv (by decide)), hfull _ h.2.1, Option.bind_some, if_pos rfl, canBeCrossed_in h.1 h.2.1 hl, Option.bind_some, if_neg ql, if_pos rfl, answersN _ (by decide), Option.bind_some, if_pos rfl]
              · show X12_cross (wI σ 10 0 11 9) (nI l) (nI m) (nI v) = _
                unfold X12_cross X12_cross_j0 X12_cross_j95
                rw [Option.bind_some, Option.bind_some, s0e, s0b h 9 hl, Option.bind_some, if_neg neg1_0, s0b h 9 hm, Option.bind_some, if_neg neg1_0, if_neg hne, xisIn_in _ hv (by decide) 3 (by decide), Option.bind_some, if_neg neg1_0, ck1, Option.bind_some, h9.2.2.2.len, if_neg (show ¬ nI L.length = 24 from fun z => by have := (nI_eq (b := 24) (by omega) (by decide)).mp z; omega), xcrossable h8 h9.2.2.2, Option.bind_some, xhas (and_lt hi) (by omega), Option.bind_some, if_neg (fun z => ql ((tb_u (n := n) (by omega)).mp z)), if_pos rfl]
                rfl
          · have h9 := h.ps (s0_ps σ 7)
            have hfull : X0_isFull σ 0 = some 1 := by
              unfold X0_isFull X0_isFull_j0
              rw [h.2.1.len, if_neg (show ¬ nI L.length < 24 from nI_nlt (b := 24) (by omega) (by omega))]
            refine refused h 7 (-1) ?_ ?_
            · show X11_cross σ (nI l) (nI m) (nI v) = _
              unfold X11_cross X11_cross_j0 X11_cross_j88
              rw [has_in h.1 hl, Option.bind_some, if_neg neg1_0, has_in h.1 hm, Option.bind_some, if_neg neg1_0, if_neg hne, if_neg (nI_pos (by omega)), if_pos (show nI v ≤ 3 from nI_le (b := 3) hv (by decide)), hfull, Option.bind_some, if_neg neg1_0, answersN _ (by decide), Option.bind_some, if_pos rfl]
            · show X12_cross (wI σ 10 0 11 7) (nI l) (nI m) (nI v) = _
              unfold X12_cross X12_cross_j0
              rw [Option.bind_some, Option.bind_some, s0e, s0b h 7 hl, Option.bind_some, if_neg neg1_0, s0b h 7 hm, Option.bind_some, if_neg neg1_0, if_neg hne, xisIn_in _ hv (by decide) 3 (by decide), Option.bind_some, if_neg neg1_0, ck1, Option.bind_some, h9.2.2.2.len, if_pos (show nI L.length = 24 by rw [show L.length = 24 by omega]; rfl)]
              rfl
        · refine refused h 5 (-1) ?_ ?_
          · show X11_cross σ (nI l) (nI m) w = _
            unfold X11_cross X11_cross_j0 X11_cross_j41 X11_cross_j88
            rw [has_in h.1 hl, Option.bind_some, if_neg neg1_0, has_in h.1 hm, Option.bind_some, if_neg neg1_0, if_neg hne, answersN _ (by decide), Option.bind_some, if_pos rfl]
            rcases hw with q | ⟨q1, q2⟩
            · rw [if_pos q]
            · rw [if_neg q1, if_neg (show ¬ w ≤ 3 from q2)]
          · show X12_cross (wI σ 10 0 11 5) (nI l) (nI m) w = _
            unfold X12_cross X12_cross_j0 X12_cross_j49
            rw [Option.bind_some, Option.bind_some, s0e, s0b h 5 hl, Option.bind_some, if_neg neg1_0, s0b h 5 hm, Option.bind_some, if_neg neg1_0, if_neg hne, xisIn_out _ hwn 3 (by decide), Option.bind_some, if_pos rfl]
            rfl
    · refine refused h 2 (-1) ?_ ?_
      · show X11_cross σ (nI l) b w = _
        unfold X11_cross X11_cross_j0 X11_cross_j23 X11_cross_j88
        rw [has_in h.1 hl, Option.bind_some, if_neg neg1_0, hbn, Option.bind_some, if_pos rfl, answersN _ (by decide), Option.bind_some, if_pos rfl]
      · show X12_cross (wI σ 10 0 11 2) (nI l) b w = _
        unfold X12_cross X12_cross_j0 X12_cross_j26
        rw [Option.bind_some, Option.bind_some, s0e, s0b h 2 hl, Option.bind_some, if_neg neg1_0, s0a h 2 hb, Option.bind_some, if_pos rfl]
        rfl
  · refine refused h 2 (-1) ?_ ?_
    · show X11_cross σ a b w = _
      unfold X11_cross X11_cross_j0 X11_cross_j23 X11_cross_j88
      rw [hn, Option.bind_some, if_pos rfl, answersN _ (by decide), Option.bind_some, if_pos rfl]
    · show X12_cross (wI σ 10 0 11 2) a b w = _
      unfold X12_cross X12_cross_j0 X12_cross_j26
      rw [Option.bind_some, Option.bind_some, s0e, s0a h 2 ha, Option.bind_some, if_pos rfl]
      rfl
theorem op_between (a b : Int32) : DOp (fun σ => X11_between σ a b) (fun σ => X12_between σ a b) := by
  intro σ n nk nu lo i c s p o L h
  have h1 := h.ps (ps1 σ 0)
  have h8 := h.1.n8
  have h24 := h.2.1.l24
  rcases lead_or h.1 a with ⟨l, hl, rfl⟩ | ⟨ha, hn⟩
  · rcases lead_or h.1 b with ⟨m, hm, rfl⟩ | ⟨hb, hbn⟩
    · by_cases hlm : l = m
      · refine refused h 5 (-1) ?_ ?_
        · show X11_between σ (nI l) (nI m) = _
          unfold X11_between X11_between_j0 X11_between_j37
          rw [has_in h.1 hl, Option.bind_some, if_neg neg1_0, has_in h.1 hm, Option.bind_some, if_neg neg1_0, if_pos (by rw [hlm]), answersN _ (by decide), Option.bind_some, if_pos rfl]
        · show X12_between (wI σ 10 0 11 5) (nI l) (nI m) = _
          unfold X12_between X12_between_j0
          rw [Option.bind_some, Option.bind_some, s0e, s0b h 5 hl, Option.bind_some, if_neg neg1_0, s0b h 5 hm, Option.bind_some, if_neg neg1_0, if_pos (by rw [hlm])]
          rfl
      · have hne : ¬ nI l = nI m := fun z => hlm ((nI_eq (by omega) (by omega)).mp z)
        have h9 := h.ps (s0_ps σ 0)
        have hcnt : L.countP (fun x => qO l x && oth l x == m) = L.countP (fun x => qO l x && qO m x) := by
          apply List.countP_congr
          intro x hx
          have hx3 := (h.2.1.wl.2 x hx).2.2.1
          unfold qO oth
          by_cases z1 : x.1 = l
          · subst z1
            have : ¬ x.1 = m := hlm
            by_cases z2 : x.2.1 = m <;> simp [z2, this]
          · by_cases z2 : x.2.1 = l
            · subst z2
              have : ¬ x.2.1 = m := hlm
              have this2 : ¬ m = x.2.1 := fun z => hlm z.symm
              by_cases z3 : x.1 = m <;> simp [z1, z3, this, this2]
            · simp [z1, z2]
        refine told h (nI (L.countP (fun x => qO l x && qO m x))) ?_ ?_
        · show X11_between σ (nI l) (nI m) = _
          unfold X11_between X11_between_j0 X11_between_j37
          rw [has_in h.1 hl, Option.bind_some, if_neg neg1_0, has_in h.1 hm, Option.bind_some, if_neg neg1_0, if_neg hne, answers0, Option.bind_some, if_neg neg1_0, countBetween_ok (by decide) h8 h1.2.1 (by omega) (by omega), Option.bind_some, hcnt]
        · show X12_between (wI σ 10 0 11 0) (nI l) (nI m) = _
          unfold X12_between X12_between_j0 X12_between_l48
          rw [Option.bind_some, Option.bind_some, s0e, s0b h 0 hl, Option.bind_some, if_neg neg1_0, s0b h 0 hm, Option.bind_some, if_neg neg1_0, if_neg hne]
          rw [iter_scan (s := (0, 0)) L (fun a _ x => Sum.inl (a + (if (qO l x && qO m x) = true then 1 else 0))) (fun a => a) (fun a k => (a, nI k)) 0 rfl (by omega) (fun k x acc hk => ?_) (fun acc => ?_), scan_fold, foldl_cnt0 (fun x => qO l x && qO m x)]
          · rfl
          · obtain ⟨g1, g2, -⟩ := h9.2.2.2.x hk
            show X12_between_l48c (s0 σ 0) (nI l) (nI m) acc (nI k) = _
            unfold X12_between_l48c X12_between_j84 X12_between_j85
            rw [ck1, Option.bind_some, h9.2.2.2.len, if_neg (nI_ge g2 (by omega)), xisOf h8 h9.2.2.2 hk (by omega), Option.bind_some, v01, xisOf h8 h9.2.2.2 hk (by omega), Option.bind_some, v01]
            simp only [Option.bind_some, nI_1]
            by_cases z1 : qO l x = true
            · by_cases z2 : qO m x = true
              · simp [z1, z2]
              · simp [z1, z2]
            · simp [z1]
          · show X12_between_l48c (s0 σ 0) (nI l) (nI m) acc (nI L.length) = _
            unfold X12_between_l48c
            rw [ck1, Option.bind_some, h9.2.2.2.len, if_pos (nI_le (Nat.le_refl _) (by omega))]
    · refine refused h 2 (-1) ?_ ?_
      · show X11_between σ (nI l) b = _
        unfold X11_between X11_between_j0 X11_between_j23 X11_between_j37
        rw [has_in h.1 hl, Option.bind_some, if_neg neg1_0, hbn, Option.bind_some, if_pos rfl, answersN _ (by decide), Option.bind_some, if_pos rfl]
      · show X12_between (wI σ 10 0 11 2) (nI l) b = _
        unfold X12_between X12_between_j0 X12_between_j26
        rw [Option.bind_some, Option.bind_some, s0e, s0b h 2 hl, Option.bind_some, if_neg neg1_0, s0a h 2 hb, Option.bind_some, if_pos rfl]
        rfl
  · refine refused h 2 (-1) ?_ ?_
    · show X11_between σ a b = _
      unfold X11_between X11_between_j0 X11_between_j23 X11_between_j37
      rw [hn, Option.bind_some, if_pos rfl, answersN _ (by decide), Option.bind_some, if_pos rfl]
    · show X12_between (wI σ 10 0 11 2) a b = _
      unfold X12_between X12_between_j0 X12_between_j26
      rw [Option.bind_some, Option.bind_some, s0e, s0a h 2 ha, Option.bind_some, if_pos rfl]
      rfl
