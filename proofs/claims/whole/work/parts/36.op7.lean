section F1
variable {σ : SS} {n nk i c : Nat} {s p o : Int32} {nu : Nat → Nat → Nat} {lo : Nat → Nat} {L : List X3}
theorem lumpF_out {m l : Nat} {L : List X3} (hl : m.testBit l = false) (hw : ∀ x ∈ L, x.1 < 8 ∧ x.2.1 < 8) : lumpF m L l = 0 := by
  have hz : ∀ k, (0 : Nat).testBit k = true → False := fun k hk => by
    rw [Nat.zero_testBit] at hk
    cases hk
  have h0 : IsLump m L l 0 := by
    refine ⟨by decide, fun z => ?_, fun x _ _ z => ?_, fun T _ _ k hk => (hz k hk).elim⟩
    · rw [hl] at z
      cases z
    · exact (z.elim (hz _) (hz _)).elim
  exact (lumpF_is h0).symm
theorem xlargest (hs : RXS σ n nk nu lo) (h : RXV σ n i c s p o L) : X12_largest σ (-1) = some (nI (largestF n i L)) ∧ largestF n i L ≤ 8 := by
  have h8 := hs.n8
  have hw := xwf8 h8 h
  have key := iter_range (f := X12_largest_l4b σ (-1)) (s := (0, 0)) n (fun _ a => a ≤ 8) (fun a l => max a (popc (lumpF i L l))) (fun a => nI a) (fun a k => (nI a, nI k)) 0 rfl (Nat.zero_le _) (by omega) (fun k a hk hI => by
    have hI' : a ≤ 8 := hI
    clear hI
    have hp := popc_le (lumpF i L k)
    show X12_largest_l4c σ (-1) (nI a) (nI k) = some (Sum.inl (nI (max a (popc (lumpF i L k))), nI (k + 1)))
    unfold X12_largest_l4c X12_largest_j40
    rw [ck0, Option.bind_some, hs.ln, if_neg (nI_ge hk (by omega)), xisInside hs h hk, Option.bind_some, v01]
    by_cases q : i.testBit k = true
    · obtain ⟨e3, hq3⟩ := xlumpOf hs h hk q
      have e4 : imax (nI a) (nI (popc (lumpF i L k))) = nI (max a (popc (lumpF i L k))) := imax_nI (by omega) (by omega)
      have hm1 : ¬ nI k = -1 := ne_m1 (by omega)
      rw [if_pos q, if_neg hm1, e3, Option.bind_some, xsizeOf hq3.1, Option.bind_some, e4, Option.bind_some, nI_1, Option.bind_some]
    · rw [if_neg q, nI_1, Option.bind_some, lumpF_out (Bool.eq_false_iff.mpr q) hw, popc_0, Nat.max_zero]) (fun k a hk hI => by
    have hI' : a ≤ 8 := hI
    have hp := popc_le (lumpF i L k)
    show max a (popc (lumpF i L k)) ≤ 8
    omega) (fun a hI => by
    clear hI
    show X12_largest_l4c σ (-1) (nI a) (nI n) = _
    unfold X12_largest_l4c
    rw [ck0, Option.bind_some, hs.ln, if_pos (nI_le (Nat.le_refl _) (by omega))])
  refine ⟨?_, key.2⟩
  unfold X12_largest X12_largest_j0 X12_largest_l4
  rw [key.1]
  rfl
theorem xhowMany (hs : RXS σ n nk nu lo) (h : RXV σ n i c s p o L) : X12_lumps_l44 σ 0 0 0 = some (nI (hmF n i L).2, σ) := by
  have h8 := hs.n8
  have hw := xwf8 h8 h
  have key := iter_range (f := X12_lumps_l44b σ) (s := (0, 0, 0)) n (fun k a => a.1 < 256 ∧ a.2 ≤ k) (fun a l => if i.testBit l = false ∨ a.1.testBit l = true then a else (a.1 ||| lumpF i L l, a.2 + (if 1 < popc (lumpF i L l) then 1 else 0))) (fun a => nI a.2) (fun a k => (nI a.2, nI a.1, nI k)) (0, 0) rfl ⟨by decide, Nat.le_refl _⟩ (by omega) (fun k a hk hI => by
    obtain ⟨sn, ct⟩ := a
    obtain ⟨g1, g2⟩ : sn < 256 ∧ ct ≤ k := hI
    have hpl := popc_le (lumpF i L k)
    show X12_lumps_l44c σ (nI ct) (nI sn) (nI k) = _
    unfold X12_lumps_l44c X12_lumps_j104 X12_lumps_j106
    rw [ck0, Option.bind_some, hs.ln, if_neg (nI_ge hk (by omega)), xisInside hs h hk, Option.bind_some, v01, xhas g1 (by omega), Option.bind_some, v01]
    by_cases q : i.testBit k = true
    · rw [if_pos q]
      by_cases y : sn.testBit k = true
      · rw [if_pos y, nI_1, Option.bind_some]
        simp only [q, y, or_true, if_true]
      · obtain ⟨e3, hq3⟩ := xlumpOf hs h hk q
        have y' := Bool.eq_false_iff.mpr y
        rw [if_neg y, e3, Option.bind_some, Option.bind_some, Option.bind_some, xsizeOf hq3.1, Option.bind_some, nI_or]
        simp only [q, y', Bool.true_eq_false, Bool.false_eq_true, or_self, if_false]
        by_cases z : 1 < popc (lumpF i L k)
        · rw [if_neg (show ¬ nI (popc (lumpF i L k)) ≤ 1 from nI_ge (a := 1) z (by omega)), Option.bind_some, nI_1, nI_1, Option.bind_some]
          simp only [z, if_true]
        · have h00 : nI ct + 0 = nI ct := by
            show nI ct + nI 0 = _
            rw [nI_add]
            rfl
          rw [if_pos (show nI (popc (lumpF i L k)) ≤ 1 from nI_le (b := 1) (by omega) (by decide)), Option.bind_some, h00, nI_1, Option.bind_some]
          simp only [z, if_false, Nat.add_zero]
    · have q' := Bool.eq_false_iff.mpr q
      rw [if_neg q, nI_1, Option.bind_some]
      simp only [q', true_or, if_true]) (fun k a hk hI => by
    obtain ⟨sn, ct⟩ := a
    obtain ⟨g1, g2⟩ : sn < 256 ∧ ct ≤ k := hI
    show _ ∧ _
    by_cases q : i.testBit k = false ∨ sn.testBit k = true
    · simp only [q, if_true]
      exact ⟨g1, by omega⟩
    · simp only [q, if_false]
      have q1 : i.testBit k = true := by
        cases hh : i.testBit k
        · exact (q (.inl hh)).elim
        · rfl
      obtain ⟨e3, hq3⟩ := xlumpOf hs h hk q1
      refine ⟨or_lt g1 hq3.1, ?_⟩
      split <;> omega) (fun a hI => by
    clear hI
    show X12_lumps_l44c σ (nI a.2) (nI a.1) (nI n) = _
    unfold X12_lumps_l44c
    rw [ck0, Option.bind_some, hs.ln, if_pos (nI_le (Nat.le_refl _) (by omega))])
  unfold X12_lumps_l44
  rw [key.1]
  rfl
end F1
theorem op_lumps (a : Int32) : DOp (fun σ => X11_lumps σ a) (fun σ => X12_lumps σ a) := by
  intro σ n nk nu lo i c s p o L h
  have h1 := h.ps (ps1 σ 0)
  have h8 := h.1.n8
  have hi := p256 h8 h.2.1.ilt
  have h9 := h.ps (s0_ps σ 0)
  rcases in_or a 1 (by decide) with ⟨w, hw, rfl⟩ | ⟨ha, hn⟩
  · by_cases z : w = 0
    · subst z
      refine told h (nI (hmF n i L).2) ?_ ?_
      · show X11_lumps σ (nI 0) = _
        unfold X11_lumps X11_lumps_j0 X11_lumps_j15
        rw [if_neg (by decide), if_pos (by decide), answers0, Option.bind_some, if_neg neg1_0, if_pos (show nI 0 = 0 from rfl), (howMany_ok (by decide) h1.1 h1.2.1).1, Option.bind_some]
      · show X12_lumps (wI σ 10 0 11 0) (nI 0) = _
        unfold X12_lumps X12_lumps_j0
        rw [Option.bind_some, Option.bind_some, s0e, xisIn_in _ hw (by decide) 1 (by decide), Option.bind_some, if_neg neg1_0, if_neg (show ¬ nI 0 = 1 by decide), xhowMany h9.2.2.1 h9.2.2.2]
    · have z1 : w = 1 := by omega
      subst z1
      have e4 : X0_insideSet (wI σ 10 0 11 0) 0 = some (nI i) := by
        unfold X0_insideSet X0_insideSet_j0
        rw [h1.2.1.ins]
      refine told h (nI (largestF n i L)) ?_ ?_
      · show X11_lumps σ (nI 1) = _
        unfold X11_lumps X11_lumps_j0 X11_lumps_j15
        rw [if_neg (by decide), if_pos (by decide), answers0, Option.bind_some, if_neg neg1_0, if_neg (show ¬ nI 1 = 0 by decide), e4, Option.bind_some, (largest_ok (by decide) h1.1 h1.2.1 hi).1, Option.bind_some]
      · show X12_lumps (wI σ 10 0 11 0) (nI 1) = _
        unfold X12_lumps X12_lumps_j0
        rw [Option.bind_some, Option.bind_some, s0e, xisIn_in _ hw (by decide) 1 (by decide), Option.bind_some, if_neg neg1_0, if_pos (show nI 1 = 1 from rfl), (xlargest h9.2.2.1 h9.2.2.2).1, Option.bind_some]
  · refine refused h 5 (-1) ?_ ?_
    · show X11_lumps σ a = _
      unfold X11_lumps X11_lumps_j0 X11_lumps_j10 X11_lumps_j15
      rw [answersN _ (by decide), Option.bind_some, if_pos rfl]
      rcases ha with q | ⟨q1, q2⟩
      · rw [if_pos q]
      · rw [if_neg q1, if_neg (show ¬ a ≤ 1 from q2)]
    · show X12_lumps (wI σ 10 0 11 5) a = _
      unfold X12_lumps X12_lumps_j0
      rw [Option.bind_some, Option.bind_some, s0e, xisIn_out _ hn 1 (by decide), Option.bind_some, if_pos rfl]
      rfl
theorem op_along (a b : Int32) : DOp (fun σ => X11_along σ a b) (fun σ => X12_along σ a b) := by
  intro σ n nk nu lo i c s p o L h
  have h1 := h.ps (ps1 σ 0)
  have h8 := h.1.n8
  have h24 := h.2.1.l24
  rcases lead_or h.1 a with ⟨l, hl, rfl⟩ | ⟨ha, hn⟩
  · have hcl : cnt L l ≤ L.length := List.countP_le_length
    have xal : ∀ w m, m < 2147483648 → iter (X12_along_l29b (s0 σ w) (nI l) (nI m)) NF (nI m, 0) = some (match nth l L m 0 with
        | some k => Sum.inl (nI k)
        | none => Sum.inr ()) := by
      intro w m hm
      have h9 := h.ps (s0_ps σ w)
      refine Eq.trans ?_ (congrArg some (nth_scan l L m 0))
      refine iter_scanI (s := (nI m, 0)) L (fun _ a => a < 2147483648) _ _ (fun a k => (nI a, nI k)) m rfl hm (by omega) (fun k x acc hk hI => ?_) (fun k x acc a hk hI hg => ?_) (fun acc hI => ?_)
      · have hI' : acc < 2147483648 := hI
        clear hI
        obtain ⟨g1, g2, -⟩ := h9.2.2.2.x hk
        show X12_along_l29c (s0 σ w) (nI l) (nI m) (nI acc) (nI k) = _
        unfold X12_along_l29c X12_along_j67
        rw [ck1, Option.bind_some, h9.2.2.2.len, if_neg (nI_ge g2 (by omega)), if_neg (nI_pos hm), xisOf h8 h9.2.2.2 hk (by omega), Option.bind_some, v01]
        simp only [Option.bind_some, nI_1]
        by_cases q : qO l x = true
        · rw [if_pos q, if_pos q]
          by_cases z : acc = 0
          · rw [ez_t z, if_pos z]
          · rw [ez_f (Nat.pos_of_ne_zero z) hI', if_neg z]
            show some (Sum.inl (nI acc + -nI 1, nI (k + 1))) = _
            rw [nI_addm (Nat.pos_of_ne_zero z)]
        · rw [if_neg q, if_neg q]
      · have hI' : acc < 2147483648 := hI
        by_cases q : qO l x = true
        · rw [if_pos q] at hg
          by_cases z : acc = 0
          · rw [if_pos z] at hg
            cases hg
          · rw [if_neg z] at hg
            injection hg with hg
            subst hg
            exact Nat.lt_of_le_of_lt (Nat.sub_le _ _) hI'
        · rw [if_neg q] at hg
          injection hg with hg
          subst hg
          exact hI'
      · show X12_along_l29c (s0 σ w) (nI l) (nI m) (nI acc) (nI L.length) = _
        unfold X12_along_l29c
        rw [ck1, Option.bind_some, h9.2.2.2.len, if_pos (nI_le (Nat.le_refl _) (by omega))]
    by_cases hb : b < 0
    · have h9 := h.ps (s0_ps σ 8)
      have hit : iter (X12_along_l29b (s0 σ 8) (nI l) b) NF (b, 0) = some (Sum.inr ()) := by
        refine iter_for (fun _ => (b, 0)) 0 rfl (by decide) (fun k hk => absurd hk (Nat.not_lt_zero _)) ?_
        show X12_along_l29c (s0 σ 8) (nI l) b b 0 = _
        unfold X12_along_l29c
        rw [ck1, Option.bind_some, if_pos hb, ite_self]
      refine refused h 8 (-1) ?_ ?_
      · show X11_along σ (nI l) b = _
        unfold X11_along X11_along_j0 X11_along_j32 X11_along_j38
        rw [has_in h.1 hl, Option.bind_some, if_neg neg1_0, if_pos hb, answersN _ (by decide), Option.bind_some, if_pos rfl]
      · show X12_along (wI σ 10 0 11 8) (nI l) b = _
        unfold X12_along X12_along_j0 X12_along_l29 X12_along_j73
        rw [Option.bind_some, Option.bind_some, s0e, s0b h 8 hl, Option.bind_some, if_neg neg1_0, hit, Option.bind_some]
        rfl
    · obtain ⟨m, hm, rfl⟩ := nI_of hb
      by_cases hmc : m < cnt L l
      · obtain ⟨k, x, e1, e2, e3⟩ := nth_some (l := l) L m 0 hmc
        rw [Nat.zero_add] at e1
        refine told h (nI k) ?_ ?_
        · show X11_along σ (nI l) (nI m) = _
          have hco := crossingOn_ok (by decide) h8 h1.2.1 (l := l) (m := m) (by omega) (by omega)
          rw [e1] at hco
          unfold X11_along X11_along_j0 X11_along_j38
          rw [has_in h.1 hl, Option.bind_some, if_neg neg1_0, if_neg hb, countOn_ok (by decide) h8 h.2.1 (by omega), Option.bind_some, if_pos (nI_lt hmc (by omega)), answers0, Option.bind_some, if_neg neg1_0, hco, Option.bind_some]
        · show X12_along (wI σ 10 0 11 0) (nI l) (nI m) = _
          have hx := xal 0 m hm
          rw [e1] at hx
          unfold X12_along X12_along_j0 X12_along_l29
          rw [Option.bind_some, Option.bind_some, s0e, s0b h 0 hl, Option.bind_some, if_neg neg1_0, hx, Option.bind_some]
      · have e1 := nth_none (l := l) L m 0 (by omega)
        refine refused h 8 (-1) ?_ ?_
        · show X11_along σ (nI l) (nI m) = _
          unfold X11_along X11_along_j0 X11_along_j32 X11_along_j38
          rw [has_in h.1 hl, Option.bind_some, if_neg neg1_0, if_neg hb, countOn_ok (by decide) h8 h.2.1 (by omega), Option.bind_some, if_neg (nI_nlt (by omega) hm), answersN _ (by decide), Option.bind_some, if_pos rfl]
        · show X12_along (wI σ 10 0 11 8) (nI l) (nI m) = _
          have hx := xal 8 m hm
          rw [e1] at hx
          unfold X12_along X12_along_j0 X12_along_l29 X12_along_j73
          rw [Option.bind_some, Option.bind_some, s0e, s0b h 8 hl, Option.bind_some, if_neg neg1_0, hx, Option.bind_some]
          rfl
  · refine refused h 2 (-1) ?_ ?_
    · show X11_along σ a b = _
      unfold X11_along X11_along_j0 X11_along_j38
      rw [hn, Option.bind_some, if_pos rfl, answersN _ (by decide), Option.bind_some, if_pos rfl]
    · show X12_along (wI σ 10 0 11 2) a b = _
      unfold X12_along X12_along_j0
      rw [Option.bind_some, Option.bind_some, s0e, s0a h 2 ha, Option.bind_some, if_pos rfl]
      rfl
