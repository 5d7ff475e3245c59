theorem xin1_in (σ : SS) {k m : Nat} (hk : k < m) (hm : m < 2147483648) : X12_isIn σ (nI k).toInt64 0 (nI m - 1).toInt64 = some 1 := by
  rw [nI_sub1 (by omega)]
  exact xisIn_in σ (by omega) (by omega) _ rfl
theorem xin1_out (σ : SS) {a : Int32} {m : Nat} (hm : m < 2147483648) (ha : a < 0 ∨ nI m ≤ a) : X12_isIn σ a.toInt64 0 (nI m - 1).toInt64 = some 0 := by
  have := xisIn σ a 0 (nI m - 1)
  rw [if_neg] at this
  · exact this
  · rintro ⟨g1, g2⟩
    rcases ha with q | q
    · exact Int32.not_lt.mpr g1 q
    · rw [Int32.le_iff_toInt_le] at g1 g2 q
      rw [nI_toInt (by omega)] at q
      by_cases z : m = 0
      · subst z
        have : (nI 0 - 1).toInt = -1 := by decide
        rw [this] at g2
        have : (0 : Int32).toInt = 0 := by decide
        rw [this] at g1
        omega
      · rw [nI_sub1 (by omega), nI_toInt (by omega)] at g2
        omega
theorem lt_or (a : Int32) (m : Nat) (hm : m < 2147483648) : (∃ w, w < m ∧ a = nI w) ∨ ((a < 0 ∨ nI m ≤ a) ∧ ¬ (¬ a < 0 ∧ a < nI m)) := by
  by_cases h0 : a < 0
  · right
    exact ⟨.inl h0, fun z => z.1 h0⟩
  · by_cases h1 : a < nI m
    · left
      obtain ⟨j, hj, rfl⟩ := nI_of h0
      exact ⟨j, (nI_ltI hj hm).mp h1, rfl⟩
    · right
      exact ⟨.inr (Int32.not_lt.mp h1), fun z => h1 z.2⟩
theorem op_follow (a b : Int32) : DOp (fun σ => X11_follow σ a b) (fun σ => X12_follow σ a b) := by
  intro σ n nk nu lo i c s p o L h
  have h1 := h.ps (ps1 σ 0)
  have h8 := h.1.n8
  have h24 := h.2.1.l24
  rcases lead_or h.1 a with ⟨l, hl, rfl⟩ | ⟨ha, hn⟩
  · rcases in_or b 1 (by decide) with ⟨w, hw, rfl⟩ | ⟨hb, hbn⟩
    · have hcl : cnt L l ≤ L.length := List.countP_le_length
      have hwe : (if (w == 1) = true then (1 : Int32) else 0) = nI w := by
        have : w = 0 ∨ w = 1 := by omega
        rcases this with z | z <;> subst z <;> rfl
      by_cases q : i.testBit l = true
      · by_cases z : cnt L l = 0
        · have h9 := h.ps (s0_ps σ 8)
          refine refused h 8 (-1) ?_ ?_
          · show X11_follow σ (nI l) (nI w) = _
            unfold X11_follow X11_follow_j0 X11_follow_j62
            rw [has_in h.1 hl, Option.bind_some, if_neg neg1_0, if_neg (nI_pos (by omega)), if_pos (show nI w ≤ 1 from nI_le (b := 1) hw (by decide)), isIn_in h.1 h.2.1 hl, Option.bind_some, if_pos q, if_neg neg1_0, countOn_ok (by decide) h8 h.2.1 (by omega), Option.bind_some, ez_t z, answersN _ (by decide), Option.bind_some, if_pos rfl]
          · show X12_follow (wI σ 10 0 11 8) (nI l) (nI w) = _
            have hne := xnearest h8 h9.2.2.2 (l := l) (by omega) (w == 1)
            have hv : (if (w == 1) = true then (if cnt L l = 0 then none else nth l L (cnt L l - 1) 0) else nth l L 0 0) = none := by
              by_cases hh : (w == 1) = true
              · rw [if_pos hh, if_pos z]
              · rw [if_neg hh]
                exact nth_none L 0 0 (by omega)
            rw [hv, hwe] at hne
            unfold X12_follow X12_follow_j0
            rw [Option.bind_some, Option.bind_some, s0e, s0b h 8 hl, Option.bind_some, if_neg neg1_0, xisIn_in _ hw (by decide) 1 (by decide), Option.bind_some, if_neg neg1_0, s0c h 8 hl, Option.bind_some, if_pos q, if_neg neg1_0, hne, Option.bind_some, if_neg (show ¬ (0 : Int32) ≤ oI none by decide)]
            rfl
        · obtain ⟨k, x, υ, t1, t2, t3, e, hE, hR⟩ := undoNearest_ok (by decide) h1.1 h1.2.1 hl (w == 1) rfl (Nat.pos_of_ne_zero z)
          obtain ⟨g1, g2, -⟩ := h.cl hE
          obtain ⟨k', x', τ, t1', t2', t3', e2, hE2, hR2⟩ := xfollowsOne g1 g2 hl (w == 1) rfl (Nat.pos_of_ne_zero z)
          have hk : k' = k := by
            rw [t1] at t1'
            injection t1' with t
            exact t.symm
          subst hk
          have hx : x' = x := by
            rw [t2] at t2'
            injection t2' with t
            exact t.symm
          subst hx
          rw [hwe] at e e2
          refine changed h (nI (costC nu l x')) ?_ hE hR ?_ (XC_XO hE2) hR2
          · show X11_follow σ (nI l) (nI w) = _
            unfold X11_follow X11_follow_j0 X11_follow_j62
            rw [has_in h.1 hl, Option.bind_some, if_neg neg1_0, if_neg (nI_pos (by omega)), if_pos (show nI w ≤ 1 from nI_le (b := 1) hw (by decide)), isIn_in h.1 h.2.1 hl, Option.bind_some, if_pos q, if_neg neg1_0, countOn_ok (by decide) h8 h.2.1 (by omega), Option.bind_some, ez_f (Nat.pos_of_ne_zero z) (by omega), answers0, Option.bind_some, if_neg neg1_0, e, Option.bind_some]
          · show X12_follow υ (nI l) (nI w) = _
            have hne := xnearest h8 g2 (l := l) (by omega) (w == 1)
            have hv : (if (w == 1) = true then (if cnt L l = 0 then none else nth l L (cnt L l - 1) 0) else nth l L 0 0) = some k' := by
              rw [if_neg z]
              split at t1
              · rename_i hh
                rw [if_pos hh]
                exact t1
              · rename_i hh
                rw [if_neg hh]
                exact t1
            rw [hv, hwe] at hne
            have hkl := (List.getElem?_eq_some_iff.mp t2).1
            unfold X12_follow X12_follow_j0
            rw [Option.bind_some, Option.bind_some, xisLeadAt_in g1 hl, Option.bind_some, if_neg neg1_0, xisIn_in _ hw (by decide) 1 (by decide), Option.bind_some, if_neg neg1_0, xisInside g1 g2 hl, Option.bind_some, if_pos q, if_neg neg1_0, hne, Option.bind_some, if_pos (show (0 : Int32) ≤ oI (some k') from nI_pos' (by omega)), e2, Option.bind_some]
      · refine refused h 9 (-1) ?_ ?_
        · show X11_follow σ (nI l) (nI w) = _
          unfold X11_follow X11_follow_j0 X11_follow_j62
          rw [has_in h.1 hl, Option.bind_some, if_neg neg1_0, if_neg (nI_pos (by omega)), if_pos (show nI w ≤ 1 from nI_le (b := 1) hw (by decide)), isIn_in h.1 h.2.1 hl, Option.bind_some, if_neg q, if_pos rfl, answersN _ (by decide), Option.bind_some, if_pos rfl]
        · show X12_follow (wI σ 10 0 11 9) (nI l) (nI w) = _
          unfold X12_follow X12_follow_j0
          rw [Option.bind_some, Option.bind_some, s0e, s0b h 9 hl, Option.bind_some, if_neg neg1_0, xisIn_in _ hw (by decide) 1 (by decide), Option.bind_some, if_neg neg1_0, s0c h 9 hl, Option.bind_some, if_neg q, if_pos rfl]
          rfl
    · refine refused h 5 (-1) ?_ ?_
      · show X11_follow σ (nI l) b = _
        unfold X11_follow X11_follow_j0 X11_follow_j25 X11_follow_j62
        rw [has_in h.1 hl, Option.bind_some, if_neg neg1_0, answersN _ (by decide), Option.bind_some, if_pos rfl]
        rcases hb with q | ⟨q1, q2⟩
        · rw [if_pos q]
        · rw [if_neg q1, if_neg (show ¬ b ≤ 1 from q2)]
      · show X12_follow (wI σ 10 0 11 5) (nI l) b = _
        unfold X12_follow X12_follow_j0
        rw [Option.bind_some, Option.bind_some, s0e, s0b h 5 hl, Option.bind_some, if_neg neg1_0, xisIn_out _ hbn 1 (by decide), Option.bind_some, if_pos rfl]
        rfl
  · refine refused h 2 (-1) ?_ ?_
    · show X11_follow σ a b = _
      unfold X11_follow X11_follow_j0 X11_follow_j62
      rw [hn, Option.bind_some, if_pos rfl, answersN _ (by decide), Option.bind_some, if_pos rfl]
    · show X12_follow (wI σ 10 0 11 2) a b = _
      unfold X12_follow X12_follow_j0
      rw [Option.bind_some, Option.bind_some, s0e, s0a h 2 ha, Option.bind_some, if_pos rfl]
      rfl
theorem op_look (a : Int32) : DOp (fun σ => X11_look σ a) (fun σ => X12_look σ a) := by
  intro σ n nk nu lo i c s p o L h
  have h1 := h.ps (ps1 σ 0)
  have hk3 := h.1.k3
  have hl2 : σ.1 0 0 7 = nI nk := h.1.lk
  have hl21 : (wI σ 10 0 11 0).1 0 0 7 = nI nk := h1.1.lk
  rcases lt_or a nk (by omega) with ⟨k, hk, rfl⟩ | ⟨ha, hn⟩
  · have h9 := h.ps (s0_ps σ 0)
    have ea : X4_at (wI σ 10 0 11 0) (4 * 0 + 3) 0 (nI k) = some (nI (lo k)) := by
      have := lo_at (σ := wI σ 10 0 11 0) (d := 0) (by decide) (k := k) (by omega)
      rw [h1.1.2.2.2.2.1 k hk] at this
      exact this
    have c56 : ck (LN 13 34) (56 + nI k) = some (56 + k) := by
      show ck (LN 13 34) (nI 56 + nI k) = _
      rw [nI_add]
      exact ckc (by omega)
    refine told h (nI (lo k)) ?_ ?_
    · show X11_look σ (nI k) = _
      unfold X11_look X11_look_j0 X11_look_j17 X0_lookSet X0_lookSet_j0 X0_hasLook X0_hasLook_j0
      rw [if_neg (nI_pos (by omega)), hl2, if_neg (nI_ge hk (by omega)), Option.bind_some, if_neg neg1_0, answers0, Option.bind_some, if_neg neg1_0, if_neg (nI_pos (by omega)), hl21, if_neg (nI_ge hk (by omega)), Option.bind_some, if_neg neg1_0, ea, Option.bind_some, Option.bind_some]
    · show X12_look (wI σ 10 0 11 0) (nI k) = _
      unfold X12_look X12_look_j0
      rw [Option.bind_some, Option.bind_some, s0e, ck2, Option.bind_some, h9.2.2.1.lk, xin1_in _ hk (by omega), Option.bind_some, if_neg neg1_0, c56, Option.bind_some, h9.2.2.1.2.2.2.1 k hk]
  · have h9 := h.ps (s0_ps σ 2)
    refine refused h 2 (-1) ?_ ?_
    · show X11_look σ a = _
      have e1 : X0_hasLook σ 0 a = some 0 := by
        unfold X0_hasLook X0_hasLook_j0
        rw [hl2]
        rcases ha with q | q
        · rw [if_pos q]
        · rw [if_pos q, ite_self]
      unfold X11_look X11_look_j0 X11_look_j17
      rw [e1, Option.bind_some, if_pos rfl, answersN _ (by decide), Option.bind_some, if_pos rfl]
    · show X12_look (wI σ 10 0 11 2) a = _
      unfold X12_look X12_look_j0
      rw [Option.bind_some, Option.bind_some, s0e, ck2, Option.bind_some, h9.2.2.1.lk, xin1_out _ (by omega) ha, Option.bind_some, if_pos rfl]
      rfl
