theorem op_many (a : Int32) : DOp (fun σ => X11_many σ a) (fun σ => X12_many σ a) := by
  intro σ n nk nu lo i c s p o L h
  have h1 := h.ps (ps1 σ 0)
  have h9 := h.ps (s0_ps σ 0)
  rcases in_or a 7 (by decide) with ⟨w, hw, rfl⟩ | ⟨ha, hn⟩
  · have hv : ∃ v, X0_total (wI σ 10 0 11 0) 0 (nI w) = some v ∧ (s0 σ 0).1 13 34 w = v := by
      obtain ⟨r, hr, er, hrc⟩ := h1.2.1.raw
      have hcr : nI r &&& nI i = nI c := by rw [nI_and, hrc]
      unfold X0_total X0_total_j0
      have : w = 0 ∨ w = 1 ∨ w = 2 ∨ w = 3 ∨ w = 4 ∨ w = 5 ∨ w = 6 ∨ w = 7 := by omega
      rcases this with z | z | z | z | z | z | z | z <;> subst z
      · exact ⟨nI n, by rw [if_pos (by decide), h1.1.ln], h9.2.2.1.ln⟩
      · exact ⟨nI L.length, by rw [if_neg (by decide), if_pos (by decide), h1.2.1.len], h9.2.2.2.len⟩
      · exact ⟨nI nk, by rw [if_neg (by decide), if_neg (by decide), if_pos (by decide), h1.1.lk], h9.2.2.1.lk⟩
      · exact ⟨nI i, by rw [if_neg (by decide), if_neg (by decide), if_neg (by decide), if_pos (by decide), h1.2.1.ins], h9.2.2.2.ins⟩
      · exact ⟨nI c, by rw [if_neg (by decide), if_neg (by decide), if_neg (by decide), if_neg (by decide), if_pos (by decide), h1.2.1.ins, er, hcr], h9.2.2.2.clp⟩
      · exact ⟨s, by rw [if_neg (by decide), if_neg (by decide), if_neg (by decide), if_neg (by decide), if_neg (by decide), if_pos (by decide), h1.2.1.sec], h9.2.2.2.sec⟩
      · exact ⟨p, by rw [if_neg (by decide), if_neg (by decide), if_neg (by decide), if_neg (by decide), if_neg (by decide), if_neg (by decide), if_pos (by decide), h1.2.1.pen], h9.2.2.2.pen⟩
      · exact ⟨o, by rw [if_neg (by decide), if_neg (by decide), if_neg (by decide), if_neg (by decide), if_neg (by decide), if_neg (by decide), if_neg (by decide), h1.2.1.opn], h9.2.2.2.opn⟩
    obtain ⟨v, e1, e2⟩ := hv
    refine told h v ?_ ?_
    · show X11_many σ (nI w) = _
      unfold X11_many X11_many_j0 X11_many_j16
      rw [if_neg (nI_pos (by omega)), if_pos (show nI w ≤ 7 from nI_le (b := 7) hw (by decide)), answers0, Option.bind_some, if_neg neg1_0, e1, Option.bind_some]
    · show X12_many (wI σ 10 0 11 0) (nI w) = _
      unfold X12_many X12_many_j0
      rw [Option.bind_some, Option.bind_some, s0e, xisIn_in _ hw (by decide) 7 (by decide), Option.bind_some, if_neg neg1_0, ckc (by omega), Option.bind_some, e2]
  · refine refused h 5 (-1) ?_ ?_
    · show X11_many σ a = _
      unfold X11_many X11_many_j0 X11_many_j11 X11_many_j16
      rcases ha with q | ⟨q1, q2⟩
      · rw [if_pos q, answersN _ (by decide), Option.bind_some, if_pos rfl]
      · rw [if_neg q1, if_neg (show ¬ a ≤ 7 from q2), answersN _ (by decide), Option.bind_some, if_pos rfl]
    · show X12_many (wI σ 10 0 11 5) a = _
      unfold X12_many X12_many_j0
      rw [Option.bind_some, Option.bind_some, s0e, xisIn_out _ hn 7 (by decide), Option.bind_some, if_pos rfl]
      rfl
theorem op_inState (a : Int32) : DOp (fun σ => X11_inState σ a) (fun σ => X12_inState σ a) := by
  intro σ n nk nu lo i c s p o L h
  have h1 := h.ps (ps1 σ 0)
  have h9 := h.ps (s0_ps σ 0)
  rcases in_or a 3 (by decide) with ⟨w, hw, rfl⟩ | ⟨ha, hn⟩
  · refine told h (nI (L.countP (fun x => x.2.2 == w))) ?_ ?_
    · show X11_inState σ (nI w) = _
      unfold X11_inState X11_inState_j0 X11_inState_j15
      rw [if_neg (nI_pos (by omega)), if_pos (show nI w ≤ 3 from nI_le (b := 3) hw (by decide)), answers0, Option.bind_some, if_neg neg1_0, countInState_ok (by decide) h1.2.1 (by omega), Option.bind_some]
    · show X12_inState (wI σ 10 0 11 0) (nI w) = _
      unfold X12_inState X12_inState_j0
      rw [Option.bind_some, Option.bind_some, s0e, xisIn_in _ hw (by decide) 3 (by decide), Option.bind_some, if_neg neg1_0, xstateMany h9.2.2.2 (by omega), Option.bind_some]
  · refine refused h 5 (-1) ?_ ?_
    · show X11_inState σ a = _
      unfold X11_inState X11_inState_j0 X11_inState_j10 X11_inState_j15
      rcases ha with q | ⟨q1, q2⟩
      · rw [if_pos q, answersN _ (by decide), Option.bind_some, if_pos rfl]
      · rw [if_neg q1, if_neg (show ¬ a ≤ 3 from q2), answersN _ (by decide), Option.bind_some, if_pos rfl]
    · show X12_inState (wI σ 10 0 11 5) a = _
      unfold X12_inState X12_inState_j0
      rw [Option.bind_some, Option.bind_some, s0e, xisIn_out _ hn 3 (by decide), Option.bind_some, if_pos rfl]
      rfl
theorem xisFree {σ : SS} {n nk i c : Nat} {s p o : Int32} {nu : Nat → Nat → Nat} {lo : Nat → Nat} {L : List X3} (hs : RXS σ n nk nu lo) (h : RXV σ n i c s p o L) {l : Nat} (hl : l < n) : X12_isFree σ (nI l) = some (if i.testBit l = true ∧ cnt L l = 0 then 1 else 0) := by
  have h8 := hs.n8
  have h24 := h.l24
  have hc : cnt L l ≤ L.length := List.countP_le_length
  unfold X12_isFree X12_isFree_j0
  rw [xisInside hs h hl, Option.bind_some, v01, xcrossings h8 h (by omega), Option.bind_some]
  by_cases q : i.testBit l = true
  · rw [if_pos q]
    by_cases z : cnt L l = 0
    · rw [ez_t z, if_pos ⟨q, z⟩]
    · rw [ez_f (Nat.pos_of_ne_zero z) (by omega), if_neg (fun w => z w.2)]
  · rw [if_neg q, if_neg (fun w => q w.1)]
theorem op_free (a : Int32) : DOp (fun σ => X11_free σ a) (fun σ => X12_free σ a) := by
  intro σ n nk nu lo i c s p o L h
  have h1 := h.ps (ps1 σ 0)
  have h9 := h.ps (s0_ps σ 0)
  rcases lead_or h.1 a with ⟨l, hl, rfl⟩ | ⟨ha, hn⟩
  · refine told h (if i.testBit l = true ∧ cnt L l = 0 then 1 else 0) ?_ ?_
    · show X11_free σ (nI l) = _
      unfold X11_free X11_free_j0 X11_free_j17
      rw [has_in h.1 hl, Option.bind_some, if_neg neg1_0, answers0, Option.bind_some, if_neg neg1_0, isFree_in (by decide) h1.1 h1.2.1 hl, Option.bind_some, v01]
      split <;> rfl
    · show X12_free (wI σ 10 0 11 0) (nI l) = _
      unfold X12_free X12_free_j0
      rw [Option.bind_some, Option.bind_some, s0e, s0b h 0 hl, Option.bind_some, if_neg neg1_0, xisFree h9.2.2.1 h9.2.2.2 hl, Option.bind_some, v01]
      split <;> rfl
  · refine refused h 2 (-1) ?_ ?_
    · show X11_free σ a = _
      unfold X11_free X11_free_j0 X11_free_j17
      rw [hn, Option.bind_some, if_pos rfl, answersN _ (by decide), Option.bind_some, if_pos rfl]
    · show X12_free (wI σ 10 0 11 2) a = _
      unfold X12_free X12_free_j0
      rw [Option.bind_some, Option.bind_some, s0e, s0a h 2 ha, Option.bind_some, if_pos rfl]
      rfl
theorem op_clip (a : Int32) : DOp (fun σ => X11_clip σ a) (fun σ => X12_clip σ a) := by
  intro σ n nk nu lo i c s p o L h
  have h1 := h.ps (ps1 σ 0)
  have h8 := h.1.n8
  have h24 := h.2.1.l24
  rcases lead_or h.1 a with ⟨l, hl, rfl⟩ | ⟨ha, hn⟩
  · have hcl : cnt L l ≤ L.length := List.countP_le_length
    have xc2 : ∀ τ, RXS τ n nk nu lo → RXV τ n i c s p o L → X12_clips2 τ (nI l) = if (i.testBit l = true ∧ cnt L l = 0) ∧ c.testBit l = false then some (1, wI (wI τ 13 34 4 (nI (c ||| 2 ^ l))) 13 34 5 (s + 12)) else some (0, τ) := by
      intro τ g1 g2
      have hc8 := clt h8 g2
      have hsh : nI 1 <<< (nI l &&& nI 31) = nI (2 ^ l) := hsh (by omega)
      have hor : nI c ||| (1 <<< (nI l &&& 31)) = nI (c ||| 2 ^ l) := by
        rw [← nI_or, ← hsh]
        rfl
      unfold X12_clips2 X12_clips2_j0
      rw [xisInside g1 g2 hl, Option.bind_some, v01, ck4, Option.bind_some, g2.clp, xhas hc8 (by omega), Option.bind_some, v01, xcrossings h8 g2 (by omega), Option.bind_some, Option.bind_some, Option.bind_some, g2.clp, hor, Option.bind_some, ck5, Option.bind_some, Option.bind_some, wI_ne _ _ (by omega), g2.sec, Option.bind_some]
      by_cases q : i.testBit l = true
      · rw [if_pos q]
        by_cases y : c.testBit l = true
        · rw [if_pos y, if_neg (fun z => by rw [y] at z; cases z.2)]
        · rw [if_neg y]
          by_cases z : cnt L l = 0
          · rw [if_pos (by rw [z]; decide), if_pos ⟨⟨q, z⟩, Bool.eq_false_iff.mpr y⟩]
          · rw [if_neg (nI_nle (Nat.pos_of_ne_zero z) (by omega)), if_neg (fun w => z w.1.2)]
      · rw [if_neg q, if_neg (fun w => q w.1.1)]
    by_cases q : (i.testBit l = true ∧ cnt L l = 0) ∧ c.testBit l = false
    · obtain ⟨υ, e, hE, hR⟩ := putClip_ok h1.1 h1.2.1 hl q.1.1
      obtain ⟨g1, g2, -⟩ := h.cl hE
      have hsub : Sub (c ||| 2 ^ l) i := fun k hk => by
        rw [Nat.testBit_or, Bool.or_eq_true] at hk
        rcases hk with z | z
        · exact g2.sub k z
        · rw [Nat.testBit_two_pow, decide_eq_true_eq] at z
          rw [← z]; exact q.1.1
      refine changed h 1 ?_ hE hR ?_ (XC_XO (Eqo.tr (Eqo.wI (by unfold XC; omega)) (Eqo.wI (by unfold XC; omega)))) ((g2.setC hsub).setS (s + 12))
      · show X11_clip σ (nI l) = _
        unfold X11_clip X11_clip_j0 X11_clip_j33
        rw [has_in h.1 hl, Option.bind_some, if_neg neg1_0, canGetClip_in (by decide) h.1 h.2.1 hl, Option.bind_some, if_pos q, if_neg neg1_0, answers0, Option.bind_some, if_neg neg1_0, e, Option.bind_some, if_neg neg1_0]
      · show X12_clip υ (nI l) = _
        unfold X12_clip X12_clip_j0 X12_clip_j41
        rw [Option.bind_some, Option.bind_some, xisLeadAt_in g1 hl, Option.bind_some, if_neg neg1_0, xc2 _ g1 g2, if_pos q, Option.bind_some, if_neg neg1_0]
    · have h9 := h.ps (s0_ps σ 9)
      refine refused h 9 0 ?_ ?_
      · show X11_clip σ (nI l) = _
        unfold X11_clip X11_clip_j0 X11_clip_j33
        rw [has_in h.1 hl, Option.bind_some, if_neg neg1_0, canGetClip_in (by decide) h.1 h.2.1 hl, Option.bind_some, if_neg q, if_pos rfl, answersN _ (by decide), Option.bind_some, if_pos rfl]
      · show X12_clip (wI σ 10 0 11 9) (nI l) = _
        unfold X12_clip X12_clip_j0
        rw [Option.bind_some, Option.bind_some, s0e, s0b h 9 hl, Option.bind_some, if_neg neg1_0, xc2 _ h9.2.2.1 h9.2.2.2, if_neg q, Option.bind_some, if_pos rfl, no_eq, Option.bind_some, if_pos rfl]
  · refine refused h 2 0 ?_ ?_
    · show X11_clip σ a = _
      unfold X11_clip X11_clip_j0 X11_clip_j33
      rw [hn, Option.bind_some, if_pos rfl, answersN _ (by decide), Option.bind_some, if_pos rfl]
    · show X12_clip (wI σ 10 0 11 2) a = _
      unfold X12_clip X12_clip_j0
      rw [Option.bind_some, Option.bind_some, s0e, s0a h 2 ha, Option.bind_some, if_pos rfl, no_eq, Option.bind_some, zb_0, Option.bind_some]
theorem op_unclip (a : Int32) : DOp (fun σ => X11_unclip σ a) (fun σ => X12_unclip σ a) := by
  intro σ n nk nu lo i c s p o L h
  have h1 := h.ps (ps1 σ 0)
  have h8 := h.1.n8
  rcases lead_or h.1 a with ⟨l, hl, rfl⟩ | ⟨ha, hn⟩
  · by_cases q : i.testBit l = true
    · by_cases y : c.testBit l = true
      · obtain ⟨υ, e, hE, hR⟩ := takeClip_ok h1.1 h1.2.1 hl
        obtain ⟨g1, g2, -⟩ := h.cl hE
        have hc8 := clt h8 g2
        refine changed h 1 ?_ hE hR ?_ (XC_XO (Eqo.wI (by unfold XC; omega))) (g2.setC (c' := c &&& (255 ^^^ 2 ^ l)) (fun k hk => g2.sub k (by
          rw [Nat.testBit_and, Bool.and_eq_true] at hk
          exact hk.1)))
        · show X11_unclip σ (nI l) = _
          unfold X11_unclip X11_unclip_j0 X11_unclip_j44
          rw [has_in h.1 hl, Option.bind_some, if_neg neg1_0, isIn_in h.1 h.2.1 hl, Option.bind_some, if_pos q, if_neg neg1_0, hasClip_in h.1 h.2.1 hl q, Option.bind_some, if_pos y, if_neg neg1_0, answers0, Option.bind_some, if_neg neg1_0, e, Option.bind_some, if_neg neg1_0]
        · show X12_unclip υ (nI l) = _
          unfold X12_unclip X12_unclip_j0
          rw [Option.bind_some, Option.bind_some, xisLeadAt_in g1 hl, Option.bind_some, if_neg neg1_0, xisInside g1 g2 hl, Option.bind_some, if_pos q, if_neg neg1_0, ck4, Option.bind_some, g2.clp, xhas hc8 (by omega), Option.bind_some, if_pos y, if_neg neg1_0, Option.bind_some, Option.bind_some, g2.clp, xand c hc8 (by omega), Option.bind_some]
      · have h9 := h.ps (s0_ps σ 9)
        refine refused h 9 0 ?_ ?_
        · show X11_unclip σ (nI l) = _
          unfold X11_unclip X11_unclip_j0 X11_unclip_j42 X11_unclip_j44
          rw [has_in h.1 hl, Option.bind_some, if_neg neg1_0, isIn_in h.1 h.2.1 hl, Option.bind_some, if_pos q, if_neg neg1_0, hasClip_in h.1 h.2.1 hl q, Option.bind_some, if_neg y, if_pos rfl, answersN _ (by decide), Option.bind_some, if_pos rfl]
        · show X12_unclip (wI σ 10 0 11 9) (nI l) = _
          unfold X12_unclip X12_unclip_j0 X12_unclip_j45
          rw [Option.bind_some, Option.bind_some, s0e, s0b h 9 hl, Option.bind_some, if_neg neg1_0, s0c h 9 hl, Option.bind_some, if_pos q, if_neg neg1_0, ck4, Option.bind_some, h9.2.2.2.clp, xhas (clt h8 h9.2.2.2) (by omega), Option.bind_some, if_neg y, if_pos rfl, no_eq, Option.bind_some, zb_0, Option.bind_some]
    · refine refused h 9 0 ?_ ?_
      · show X11_unclip σ (nI l) = _
        unfold X11_unclip X11_unclip_j0 X11_unclip_j42 X11_unclip_j44
        rw [has_in h.1 hl, Option.bind_some, if_neg neg1_0, isIn_in h.1 h.2.1 hl, Option.bind_some, if_neg q, if_pos rfl, answersN _ (by decide), Option.bind_some, if_pos rfl]
      · show X12_unclip (wI σ 10 0 11 9) (nI l) = _
        unfold X12_unclip X12_unclip_j0 X12_unclip_j45
        rw [Option.bind_some, Option.bind_some, s0e, s0b h 9 hl, Option.bind_some, if_neg neg1_0, s0c h 9 hl, Option.bind_some, if_neg q, if_pos rfl, no_eq, Option.bind_some, zb_0, Option.bind_some]
  · refine refused h 2 0 ?_ ?_
    · show X11_unclip σ a = _
      unfold X11_unclip X11_unclip_j0 X11_unclip_j44
      rw [hn, Option.bind_some, if_pos rfl, answersN _ (by decide), Option.bind_some, if_pos rfl]
    · show X12_unclip (wI σ 10 0 11 2) a = _
      unfold X12_unclip X12_unclip_j0
      rw [Option.bind_some, Option.bind_some, s0e, s0a h 2 ha, Option.bind_some, if_pos rfl, no_eq, Option.bind_some, zb_0, Option.bind_some]
