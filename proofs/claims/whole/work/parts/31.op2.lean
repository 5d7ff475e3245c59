section E1
variable {σ : SS} {n nk i c : Nat} {s p o : Int32} {nu : Nat → Nat → Nat} {lo : Nat → Nat} {L : List X3}
theorem inSt0 (h : RelD σ n nk nu lo i c s p o L) {l : Nat} (hl : l < n) (q : i.testBit l = true) : X11_inStatus σ (nI l) = some 0 := by
  unfold X11_inStatus X11_inStatus_j0
  rw [has_in h.1 hl, Option.bind_some, if_neg neg1_0, isIn_in h.1 h.2.1 hl, Option.bind_some, if_pos q, if_neg neg1_0]
theorem inSt9 (h : RelD σ n nk nu lo i c s p o L) {l : Nat} (hl : l < n) (q : ¬ i.testBit l = true) : X11_inStatus σ (nI l) = some 9 := by
  unfold X11_inStatus X11_inStatus_j0
  rw [has_in h.1 hl, Option.bind_some, if_neg neg1_0, isIn_in h.1 h.2.1 hl, Option.bind_some, if_neg q, if_pos rfl]
theorem inSt2 {a : Int32} (ha : X0_has σ 0 a = some 0) : X11_inStatus σ a = some 2 := by
  unfold X11_inStatus X11_inStatus_j0
  rw [ha, Option.bind_some, if_pos rfl]
theorem s0a (h : RelD σ n nk nu lo i c s p o L) (w : Int32) {a : Int32} (ha : a < 0 ∨ nI n ≤ a) : X12_isLeadAt (s0 σ w) a = some 0 := xisLeadAt_out (h.ps (s0_ps σ w)).2.2.1 ha
theorem s0b (h : RelD σ n nk nu lo i c s p o L) (w : Int32) {l : Nat} (hl : l < n) : X12_isLeadAt (s0 σ w) (nI l) = some 1 := xisLeadAt_in (h.ps (s0_ps σ w)).2.2.1 hl
theorem s0c (h : RelD σ n nk nu lo i c s p o L) (w : Int32) {l : Nat} (hl : l < n) : X12_isInside (s0 σ w) (nI l) = some (if i.testBit l = true then 1 else 0) := xisInside (h.ps (s0_ps σ w)).2.2.1 (h.ps (s0_ps σ w)).2.2.2 hl
theorem s0e (σ : SS) (w : Int32) : wI (wI (wI σ 10 0 11 w) 11 0 1 0) 11 0 0 0 = s0 σ w := rfl
end E1
theorem op_pull (a : Int32) : DOp (fun σ => X11_pull σ a) (fun σ => X12_pull σ a) := by
  intro σ n nk nu lo i c s p o L h
  have h1 := h.ps (ps1 σ 0)
  have h8 := h.1.n8
  have hi := p256 h8 h.2.1.ilt
  rcases lead_or h.1 a with ⟨l, hl, rfl⟩ | ⟨ha, hn⟩
  · by_cases q : i.testBit l = true
    · obtain ⟨ea, hq⟩ := around_eq (by decide) h1.1 h1.2.1 hi hl
      obtain ⟨υ, e, hE, hR⟩ := pullAt_ok (by decide) h8 h1.2.1 (l := l) (by omega) (popc (lumpF i L l) == 1)
      obtain ⟨g1, g2, -⟩ := h.cl hE
      obtain ⟨τ, e2, hE2, hR2⟩ := xpulls g1 g2 hl q
      obtain ⟨e3, hq3⟩ := xlumpOf g1 g2 hl q
      have hpl := popc_le (lumpF i L l)
      refine changed h (nI (popc (lumpF i L l))) ?_ hE hR ?_ (XC_XO hE2) hR2
      · show X11_pull σ (nI l) = _
        have eb : ∀ τ, J6_bitCount_0f7a4 τ (nI (lumpF i L l)) = some (nI (popc (lumpF i L l))) := fun τ => bc_ok τ _ hq.1
        have e4 : X0_insideSet (wI σ 10 0 11 0) 0 = some (nI i) := by
          unfold X0_insideSet X0_insideSet_j0
          rw [h1.2.1.ins]
        have e5 : (if nI (popc (lumpF i L l)) = 1 then (1 : Int32) else 0) = (if (popc (lumpF i L l) == 1) = true then 1 else 0) := by
          by_cases z : popc (lumpF i L l) = 1
          · rw [if_pos (by rw [z]; rfl), if_pos (by rw [z]; rfl)]
          · rw [if_neg (show ¬ nI (popc (lumpF i L l)) = 1 from fun w => z ((nI_eq (b := 1) (by omega) (by decide)).mp w)), if_neg (by simp [z])]
        unfold X11_pull X11_pull_j0 X11_pull_j48
        rw [inSt0 h hl q, Option.bind_some, answers0, Option.bind_some, if_neg neg1_0, e4, Option.bind_some, ea, Option.bind_some, eb, Option.bind_some, e5, e, Option.bind_some, eb, Option.bind_some]
      · show X12_pull υ (nI l) = _
        unfold X12_pull X12_pull_j0
        rw [Option.bind_some, Option.bind_some, xisLeadAt_in g1 hl, Option.bind_some, if_neg neg1_0, xisInside g1 g2 hl, Option.bind_some, if_pos q, if_neg neg1_0, e3, Option.bind_some, xsizeOf hq3.1, Option.bind_some, e2, Option.bind_some]
    · refine refused h 9 (-1) ?_ ?_
      · show X11_pull σ (nI l) = _
        unfold X11_pull X11_pull_j0
        rw [inSt9 h hl q, Option.bind_some, answersN _ (by decide), Option.bind_some, if_pos rfl]
      · show X12_pull (wI σ 10 0 11 9) (nI l) = _
        unfold X12_pull X12_pull_j0
        rw [Option.bind_some, Option.bind_some, s0e, s0b h 9 hl, Option.bind_some, if_neg neg1_0, s0c h 9 hl, Option.bind_some, if_neg q, if_pos rfl]
        rfl
  · refine refused h 2 (-1) ?_ ?_
    · show X11_pull σ a = _
      unfold X11_pull X11_pull_j0
      rw [inSt2 hn, Option.bind_some, answersN _ (by decide), Option.bind_some, if_pos rfl]
    · show X12_pull (wI σ 10 0 11 2) a = _
      unfold X12_pull X12_pull_j0
      rw [Option.bind_some, Option.bind_some, s0e, s0a h 2 ha, Option.bind_some, if_pos rfl]
      rfl
theorem op_lump (a : Int32) : DOp (fun σ => X11_lump σ a) (fun σ => X12_lump σ a) := by
  intro σ n nk nu lo i c s p o L h
  have h1 := h.ps (ps1 σ 0)
  have h8 := h.1.n8
  have hi := p256 h8 h.2.1.ilt
  rcases lead_or h.1 a with ⟨l, hl, rfl⟩ | ⟨ha, hn⟩
  · by_cases q : i.testBit l = true
    · obtain ⟨ea, hq⟩ := around_eq (by decide) h1.1 h1.2.1 hi hl
      have h9 := h.ps (s0_ps σ 0)
      obtain ⟨e3, hq3⟩ := xlumpOf h9.2.2.1 h9.2.2.2 hl q
      refine told h (nI (lumpF i L l)) ?_ ?_
      · show X11_lump σ (nI l) = _
        have e4 : X0_insideSet (wI σ 10 0 11 0) 0 = some (nI i) := by
          unfold X0_insideSet X0_insideSet_j0
          rw [h1.2.1.ins]
        unfold X11_lump X11_lump_j0
        rw [inSt0 h hl q, Option.bind_some, answers0, Option.bind_some, if_neg neg1_0, e4, Option.bind_some, ea, Option.bind_some]
      · show X12_lump (wI σ 10 0 11 0) (nI l) = _
        unfold X12_lump X12_lump_j0
        rw [Option.bind_some, Option.bind_some, s0e, s0b h 0 hl, Option.bind_some, if_neg neg1_0, s0c h 0 hl, Option.bind_some, if_pos q, if_neg neg1_0, e3, Option.bind_some]
    · refine refused h 9 (-1) ?_ ?_
      · show X11_lump σ (nI l) = _
        unfold X11_lump X11_lump_j0
        rw [inSt9 h hl q, Option.bind_some, answersN _ (by decide), Option.bind_some, if_pos rfl]
      · show X12_lump (wI σ 10 0 11 9) (nI l) = _
        unfold X12_lump X12_lump_j0
        rw [Option.bind_some, Option.bind_some, s0e, s0b h 9 hl, Option.bind_some, if_neg neg1_0, s0c h 9 hl, Option.bind_some, if_neg q, if_pos rfl]
        rfl
  · refine refused h 2 (-1) ?_ ?_
    · show X11_lump σ a = _
      unfold X11_lump X11_lump_j0
      rw [inSt2 hn, Option.bind_some, answersN _ (by decide), Option.bind_some, if_pos rfl]
    · show X12_lump (wI σ 10 0 11 2) a = _
      unfold X12_lump X12_lump_j0
      rw [Option.bind_some, Option.bind_some, s0e, s0a h 2 ha, Option.bind_some, if_pos rfl]
      rfl
theorem op_comes (a : Int32) : DOp (fun σ => X11_comes σ a) (fun σ => X12_comes σ a) := by
  intro σ n nk nu lo i c s p o L h
  have h1 := h.ps (ps1 σ 0)
  have h8 := h.1.n8
  have hi := p256 h8 h.2.1.ilt
  rcases lead_or h.1 a with ⟨l, hl, rfl⟩ | ⟨ha, hn⟩
  · by_cases q : i.testBit l = true
    · have h9 := h.ps (s0_ps σ 0)
      obtain ⟨e3, hq3⟩ := xlumpOf h9.2.2.1 h9.2.2.2 hl q
      have hpl := popc_le (lumpF i L l)
      refine told h (if popc (lumpF i L l) = 1 then 1 else 0) ?_ ?_
      · show X11_comes σ (nI l) = _
        unfold X11_comes X11_comes_j0
        rw [inSt0 h hl q, Option.bind_some, answers0, Option.bind_some, if_neg neg1_0, isLone_ok (by decide) h1.1 h1.2.1 hl, Option.bind_some, v01]
        split <;> rfl
      · show X12_comes (wI σ 10 0 11 0) (nI l) = _
        unfold X12_comes X12_comes_j0
        rw [Option.bind_some, Option.bind_some, s0e, s0b h 0 hl, Option.bind_some, if_neg neg1_0, s0c h 0 hl, Option.bind_some, if_pos q, if_neg neg1_0, e3, Option.bind_some, xsizeOf hq3.1, Option.bind_some]
        by_cases z : popc (lumpF i L l) = 1
        · rw [if_pos (by rw [z]; rfl), if_pos z]
        · rw [if_neg (show ¬ nI (popc (lumpF i L l)) = 1 from fun w => z ((nI_eq (b := 1) (by omega) (by decide)).mp w)), if_neg z]
    · refine refused h 9 (-1) ?_ ?_
      · show X11_comes σ (nI l) = _
        unfold X11_comes X11_comes_j0
        rw [inSt9 h hl q, Option.bind_some, answersN _ (by decide), Option.bind_some, if_pos rfl]
      · show X12_comes (wI σ 10 0 11 9) (nI l) = _
        unfold X12_comes X12_comes_j0
        rw [Option.bind_some, Option.bind_some, s0e, s0b h 9 hl, Option.bind_some, if_neg neg1_0, s0c h 9 hl, Option.bind_some, if_neg q, if_pos rfl]
        rfl
  · refine refused h 2 (-1) ?_ ?_
    · show X11_comes σ a = _
      unfold X11_comes X11_comes_j0
      rw [inSt2 hn, Option.bind_some, answersN _ (by decide), Option.bind_some, if_pos rfl]
    · show X12_comes (wI σ 10 0 11 2) a = _
      unfold X12_comes X12_comes_j0
      rw [Option.bind_some, Option.bind_some, s0e, s0a h 2 ha, Option.bind_some, if_pos rfl]
      rfl
/-- an int in a range -/
theorem in_or (a : Int32) (m : Nat) (hm : m < 2147483648) : (∃ w, w ≤ m ∧ a = nI w) ∨ ((a < 0 ∨ (¬ a < 0 ∧ ¬ a ≤ nI m)) ∧ ¬ (0 ≤ a ∧ a ≤ nI m)) := by
  by_cases h0 : a < 0
  · right
    exact ⟨.inl h0, fun z => Int32.not_lt.mpr z.1 h0⟩
  · by_cases h1 : a ≤ nI m
    · left
      obtain ⟨j, hj, rfl⟩ := nI_of h0
      exact ⟨j, (nI_leI hj hm).mp h1, rfl⟩
    · right
      exact ⟨.inr ⟨h0, h1⟩, fun z => h1 z.2⟩
theorem xisIn_in (σ : SS) {w m : Nat} (hw : w ≤ m) (hm : m < 2147483648) (b : Int64) (hb : b = (nI m).toInt64) : X12_isIn σ (nI w).toInt64 0 b = some 1 := by
  have := xisIn σ (nI w) 0 (nI m)
  rw [if_pos ⟨nI_pos' (by omega), nI_le hw hm⟩] at this
  rw [hb]
  exact this
theorem xisIn_out (σ : SS) {a : Int32} {m : Nat} (h : ¬ (0 ≤ a ∧ a ≤ nI m)) (b : Int64) (hb : b = (nI m).toInt64) : X12_isIn σ a.toInt64 0 b = some 0 := by
  have := xisIn σ a 0 (nI m)
  rw [if_neg h] at this
  rw [hb]
  exact this
theorem op_open (a : Int32) : DOp (fun σ => X11_open σ a) (fun σ => X12_open σ a) := by
  intro σ n nk nu lo i c s p o L h
  have h1 := h.ps (ps1 σ 0)
  have h8 := h.1.n8
  rcases in_or a 9999 (by decide) with ⟨w, hw, rfl⟩ | ⟨ha, hn⟩
  · have hq : Dr (wI (wI σ 10 0 11 0) 0 0 13 (nI w)) 0 w := ⟨wI_eq _ _ _ _ _, by omega⟩
    obtain ⟨υ, e, hE, hR, -⟩ := openOnce_ok (by decide) (h1.1.draw (nI w)) (h1.2.1.draw (nI w)) hq
    have hE' : Eqo (VO 0) (wI σ 10 0 11 0) υ := Eqo.tr (Eqo.wI (by unfold VO VC; omega)) hE
    obtain ⟨g1, g2, -⟩ := h.cl hE'
    have hqx : DrX (wI (wI (wI υ 11 0 1 0) 11 0 0 0) 11 0 25 (nI w)) w := ⟨wI_eq _ _ _ _ _, by omega⟩
    obtain ⟨τ, e2, hE2, hR2, -⟩ := xopens (g1.draw (nI w)) (g2.draw (nI w)) hqx
    refine changed h (nI (opens n nu (i &&& (255 ^^^ c)) w L).2.2) ?_ hE' hR ?_ (Eqo.tr (Eqo.wI (.inr (.inl ⟨rfl, rfl, rfl⟩))) hE2) hR2
    · show X11_open σ (nI w) = _
      unfold X11_open X11_open_j0 X11_open_j13 X11_isSeed X11_isSeed_j0 X0_drawFrom X0_drawFrom_j0
      rw [if_neg (nI_pos (by omega)), if_neg (show ¬ (9999 : Int32) < nI w from nI_nlt (a := 9999) hw (by decide)), Option.bind_some, if_neg neg1_0, answers0, Option.bind_some, if_neg neg1_0, Option.bind_some, Option.bind_some, e, Option.bind_some]
    · show X12_open υ (nI w) = _
      unfold X12_open X12_open_j0
      rw [Option.bind_some, Option.bind_some, xisIn_in _ hw (by decide) 9999 (by decide), Option.bind_some, if_neg neg1_0, Option.bind_some, e2, Option.bind_some]
  · refine refused h 5 (-1) ?_ ?_
    · show X11_open σ a = _
      have e1 : X11_isSeed σ a = some 0 := by
        unfold X11_isSeed X11_isSeed_j0
        rcases ha with q | ⟨q1, q2⟩
        · rw [if_pos q]
        · rw [if_neg q1, if_pos (show (9999 : Int32) < a from Int32.not_le.mp q2)]
      unfold X11_open X11_open_j0 X11_open_j13
      rw [e1, Option.bind_some, if_pos rfl, answersN _ (by decide), Option.bind_some, if_pos rfl]
    · show X12_open (wI σ 10 0 11 5) a = _
      unfold X12_open X12_open_j0
      rw [Option.bind_some, Option.bind_some, s0e, xisIn_out _ hn 9999 (by decide), Option.bind_some, if_pos rfl]
      rfl
