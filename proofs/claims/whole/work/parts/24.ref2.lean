/-! ===== the reference: what changes ===== -/
def XD : Nat → Nat → Nat → Prop := fun k n j => k = 13 ∧ n = 34 ∧ (j = 1 ∨ (60 ≤ j ∧ j < 132))
def xcell (σ : SS) (k : Nat) (x : X3) : Prop := σ.1 13 34 (60 + k) = nI x.1 ∧ σ.1 13 34 (84 + k) = nI x.2.1 ∧ σ.1 13 34 (108 + k) = nI x.2.2
theorem crf_cell {σ : SS} {L : List X3} : CRf (xf σ) L ↔ ∀ k x, L[k]? = some x → xcell σ k x := Iff.rfl
theorem xdrops {σ : SS} {L : List X3} {k : Nat} (h1 : σ.1 13 34 1 = nI L.length) (hc : CRf (xf σ) L) (h24 : L.length ≤ 24) (hk : k < L.length) : ∃ τ, X12_drops σ (nI k) = some τ ∧ Eqo XD σ τ ∧ τ.1 13 34 1 = nI (L.eraseIdx k).length ∧ CRf (xf τ) (L.eraseIdx k) := by
  have hlen : (L.eraseIdx k).length = L.length - 1 := List.length_eraseIdx_of_lt hk
  have hget : ∀ j, (L.eraseIdx k)[j]? = if j < k then L[j]? else L[j + 1]? := fun j => List.getElem?_eraseIdx
  have key : ∃ t, iter X12_drops_l2b NF (nI k, σ) = some t ∧ Eqo XD σ t ∧ t.1 13 34 1 = nI L.length ∧ CRf (xf t) (L.eraseIdx k) := by
    refine iter_upto (fun m (st : Int32 × SS) => st.1 = nI (k + m) ∧ Eqo XD σ st.2 ∧ st.2.1 13 34 1 = nI L.length ∧ (∀ j x, j < k + m → (L.eraseIdx k)[j]? = some x → xcell st.2 j x) ∧ ∀ j x, k + m ≤ j → L[j]? = some x → xcell st.2 j x) (L.length - 1 - k) (fun t => Eqo XD σ t ∧ t.1 13 34 1 = nI L.length ∧ CRf (xf t) (L.eraseIdx k)) (fun m st hm hI => ?_) (fun st hI => ?_) ⟨rfl, Eqo.rf _ _, h1, fun j x hj hx => ?_, fun j x _ hx => hc j x hx⟩ (by omega)
    · left
      obtain ⟨x2, υ⟩ := st
      obtain ⟨g1, hE, g2, g3, g4⟩ := hI
      simp only at g1 hE g2 g3 g4
      subst g1
      obtain ⟨x, hx⟩ : ∃ x, L[k + m + 1]? = some x := ⟨L[k + m + 1]'(by omega), List.getElem?_eq_getElem (by omega)⟩
      obtain ⟨c0, c1, c2⟩ := g4 (k + m + 1) x (by omega) hx
      refine ⟨(nI (k + m + 1), wI (wI (wI υ 13 34 (60 + (k + m)) (nI x.1)) 13 34 (84 + (k + m)) (nI x.2.1)) 13 34 (108 + (k + m)) (nI x.2.2)), ?_, ?_, ?_, ?_, ?_, ?_⟩
      · show X12_drops_l2c υ (nI (k + m)) = _
        have a0 : ck (LN 13 34) (60 + nI (k + m) + 1) = some (60 + (k + m + 1)) := by
          show ck (LN 13 34) (nI 60 + nI (k + m) + 1) = _
          rw [nI_add, nI_1]
          exact ckc (by omega)
        have a1 : ck (LN 13 34) (84 + nI (k + m) + 1) = some (84 + (k + m + 1)) := by
          show ck (LN 13 34) (nI 84 + nI (k + m) + 1) = _
          rw [nI_add, nI_1]
          exact ckc (by omega)
        have a2 : ck (LN 13 34) (108 + nI (k + m) + 1) = some (108 + (k + m + 1)) := by
          show ck (LN 13 34) (nI 108 + nI (k + m) + 1) = _
          rw [nI_add, nI_1]
          exact ckc (by omega)
        unfold X12_drops_l2c
        rw [ck1, Option.bind_some, g2, nI_sub1 (by omega), if_neg (nI_ge (by omega) (by omega)), a0, Option.bind_some, ckO (by omega), Option.bind_some, c0, Option.bind_some, a1, Option.bind_some, ckU (by omega), Option.bind_some, wI_ne _ _ (by omega), c1, Option.bind_some, a2, Option.bind_some, ckS (by omega), Option.bind_some, wI_ne _ _ (by omega), wI_ne _ _ (by omega), c2, Option.bind_some, nI_1, Option.bind_some]
      · rfl
      · exact ((hE.tr (Eqo.wI ⟨rfl, rfl, by omega⟩)).tr (Eqo.wI ⟨rfl, rfl, by omega⟩)).tr (Eqo.wI ⟨rfl, rfl, by omega⟩)
      · simp only
        rw [wI_ne _ _ (by omega), wI_ne _ _ (by omega), wI_ne _ _ (by omega)]
        exact g2
      · intro j y hj hy
        unfold xcell
        by_cases hjm : j = k + m
        · subst hjm
          rw [hget, if_neg (by omega), hx] at hy
          cases hy
          simp (disch := omega) only [wI_ne, wI_eq]
          exact ⟨trivial, trivial, trivial⟩
        · have hjL : j < 24 := by
            have := (List.getElem?_eq_some_iff.mp hy).1
            omega
          have := g3 j y (by omega) hy
          unfold xcell at this
          simp (disch := omega) only [wI_ne]
          exact this
      · intro j y hj hy
        have hjL := (List.getElem?_eq_some_iff.mp hy).1
        have := g4 j y (by omega) hy
        unfold xcell at this ⊢
        simp (disch := omega) only [wI_ne]
        exact this
    · obtain ⟨x2, υ⟩ := st
      obtain ⟨g1, hE, g2, g3, g4⟩ := hI
      simp only at g1 hE g2 g3 g4
      subst g1
      refine ⟨υ, ?_, hE, g2, fun j x hx => ?_⟩
      · show X12_drops_l2c υ _ = _
        unfold X12_drops_l2c
        rw [ck1, Option.bind_some, g2, nI_sub1 (by omega), if_pos (nI_le (by omega) (by omega))]
      · have hj := (List.getElem?_eq_some_iff.mp hx).1
        exact g3 j x (by omega) hx
    · simp only [Nat.add_zero] at hj
      rw [hget, if_pos hj] at hx
      exact hc j x hx
  obtain ⟨t, e, hE, g1, g2⟩ := key
  refine ⟨wI t 13 34 1 (nI (L.length - 1)), ?_, hE.tr (Eqo.wI ⟨rfl, rfl, .inl rfl⟩), ?_, fun j x hx => ?_⟩
  · unfold X12_drops X12_drops_j0 X12_drops_l2
    rw [e, Option.bind_some, ck1, Option.bind_some, Option.bind_some, g1, nI_sub1 (by omega), Option.bind_some]
  · rw [hlen]
    exact wI_eq _ _ _ _ _
  · have := g2 j x hx
    have hj := (List.getElem?_eq_some_iff.mp hx).1
    unfold xf at this ⊢
    simp (disch := omega) only [wI_ne]
    exact this
theorem updL_cons (g : X3 → Nat × Bool) (x : X3) (t : List X3) : updL g (x :: t) = if (g x).2 = true then updL g t else (x.1, x.2.1, (g x).1) :: updL g t := by
  unfold updL res
  rw [List.map_cons, List.filter_cons]
  by_cases q : (g x).2 = true
  · rw [if_pos q, if_neg (by simp [mkg, q])]
  · rw [if_neg q, if_pos (by simp [mkg, q])]
    rfl
theorem updL_len (g : X3 → Nat × Bool) (L : List X3) : (updL g L).length ≤ L.length := by
  unfold updL
  refine Nat.le_trans (res_len _) ?_
  rw [List.length_map]
  exact Nat.le_refl _
theorem xmark_loop {σ : SS} {L : List X3} (g : X3 → Nat × Bool) {S T : Type} {f : S → Option (S ⊕ T)} (mk : Nat → Nat → SS → S) (fin : Nat → SS → T) (h1 : σ.1 13 34 1 = nI L.length) (hc : CRf (xf σ) L) (h24 : L.length ≤ 24) (hs : ∀ k x υ m M, L[k]? = some x → k < L.length → Eqo XD σ υ → xcell υ k x → m ≤ 24 → ((g x).2 = true ∧ f (mk m (k + 1) υ) = ((X12_drops υ (nI k)).bind fun τ => some (Sum.inl (mk (m + 1) k τ)))) ∨ ((g x).2 = false ∧ f (mk m (k + 1) υ) = some (Sum.inl (mk m k (wI υ 13 34 (108 + k) (nI (g x).1))))) ∨ ((g x).2 = false ∧ (g x).1 = x.2.2 ∧ f (mk m (k + 1) υ) = some (Sum.inl (mk m k υ))) ∨ M = 0) (he : ∀ m υ, Eqo XD σ υ → f (mk m 0 υ) = some (Sum.inr (fin m υ))) : ∃ τ, iter f NF (mk 0 L.length σ) = some (fin (L.length - (updL g L).length) τ) ∧ Eqo XD σ τ ∧ τ.1 13 34 1 = nI (updL g L).length ∧ CRf (xf τ) (updL g L) := by
  have key : ∃ t, iter f NF (mk 0 L.length σ) = some t ∧ ∃ τ, t = fin (L.length - (updL g L).length) τ ∧ Eqo XD σ τ ∧ τ.1 13 34 1 = nI (updL g L).length ∧ CRf (xf τ) (updL g L) := by
    refine iter_upto (fun q st => q ≤ L.length ∧ ∃ υ, st = mk ((L.drop (L.length - q)).length - (updL g (L.drop (L.length - q))).length) (L.length - q) υ ∧ Eqo XD σ υ ∧ υ.1 13 34 1 = nI (L.take (L.length - q) ++ updL g (L.drop (L.length - q))).length ∧ CRf (xf υ) (L.take (L.length - q) ++ updL g (L.drop (L.length - q)))) L.length _ (fun q st hq hI => ?_) (fun st hI => ?_) ⟨Nat.zero_le _, σ, ?_, Eqo.rf _ _, ?_, ?_⟩ (by omega)
    · left
      obtain ⟨-, υ, rfl, hE, g1, g2⟩ := hI
      obtain ⟨k, hk⟩ : ∃ k, L.length - q = k + 1 := ⟨L.length - q - 1, by omega⟩
      have hk2 : L.length - (q + 1) = k := by omega
      rw [hk] at g1 g2 ⊢
      rw [hk2]
      have hkL : k < L.length := by omega
      obtain ⟨x, hx⟩ : ∃ x, L[k]? = some x := ⟨L[k], List.getElem?_eq_getElem hkL⟩
      have hta : L.take (k + 1) = L.take k ++ [x] := by
        rw [List.take_add_one, hx]
        rfl
      have hdr : L.drop k = x :: L.drop (k + 1) := by
        have : L[k] = x := by
          have := List.getElem?_eq_getElem hkL
          rw [this] at hx
          injection hx
        rw [List.drop_eq_getElem_cons hkL, this]
      have hup := updL_cons g x (L.drop (k + 1))
      rw [← hdr] at hup
      have htl : (L.take k).length = k := by rw [List.length_take]; omega
      generalize hM : updL g (L.drop (k + 1)) = M at *
      have hMl : M.length ≤ (L.drop (k + 1)).length := by rw [← hM]; exact updL_len _ _
      rw [List.length_drop] at hMl
      have hgk : (L.take (k + 1) ++ M)[k]? = some x := by
        rw [hta, List.append_assoc, List.getElem?_append_right (by omega), htl, Nat.sub_self]
        rfl
      have hcell : xcell υ k x := g2 k x hgk
      have hm24 : (L.drop (k + 1)).length - M.length ≤ 24 := by rw [List.length_drop]; omega
      rcases hs k x υ ((L.drop (k + 1)).length - M.length) 1 hx hkL hE hcell hm24 with ⟨q1, q2⟩ | ⟨q1, q2⟩ | ⟨q1, q0, q2⟩ | q1
      · have hAl : (L.take (k + 1) ++ M).length ≤ 24 := by
          rw [List.length_append, hta, List.length_append, htl]
          simp
          omega
        obtain ⟨τ, e1, e2, e3, e4⟩ := xdrops g1 g2 hAl (k := k) (by
          rw [List.length_append, hta, List.length_append, htl]
          simp
          omega)
        have her : (L.take (k + 1) ++ M).eraseIdx k = L.take k ++ M := by
          rw [hta, List.append_assoc, List.eraseIdx_append_of_length_le (by omega), htl, Nat.sub_self]
          rfl
        rw [her] at e3 e4
        rw [if_pos q1] at hup
        rw [q2, e1, Option.bind_some]
        refine ⟨_, rfl, by omega, τ, ?_, hE.tr e2, ?_, ?_⟩
        · rw [hup]
          congr 1
          rw [List.length_drop, List.length_drop] at *
          omega
        · rw [hup]; exact e3
        · rw [hup]; exact e4
      · have q1' : ¬ (g x).2 = true := by rw [q1]; exact Bool.false_ne_true
        rw [if_neg q1'] at hup
        rw [q2]
        refine ⟨_, rfl, by omega, wI υ 13 34 (108 + k) (nI (g x).1), ?_, hE.tr (Eqo.wI (P := XD) (k := 13) (n := 34) (j := 108 + k) ⟨rfl, rfl, Or.inr ⟨by omega, by omega⟩⟩), ?_, ?_⟩
        · rw [hup]
          congr 1
          rw [List.length_drop, List.length_drop, List.length_cons] at *
          omega
        · rw [wI_ne _ _ (by omega), g1, hup, hta]
          simp
        · rw [hup]
          intro j y hy
          unfold xf
          by_cases hj : j = k
          · subst hj
            rw [List.getElem?_append_right (by omega), htl, Nat.sub_self] at hy
            cases hy
            unfold xcell at hcell
            simp (disch := omega) only [wI_ne, wI_eq, hcell]
            exact ⟨trivial, trivial, trivial⟩
          · have hy2 : (L.take (k + 1) ++ M)[j]? = some y := by
              rw [hta, List.append_assoc]
              by_cases hlt : j < k
              · rw [List.getElem?_append_left (by omega)] at hy ⊢
                exact hy
              · rw [List.getElem?_append_right (by omega), htl] at hy ⊢
                obtain ⟨w, hw⟩ : ∃ w, j - k = w + 1 := ⟨j - k - 1, by omega⟩
                rw [hw] at hy ⊢
                exact hy
            have hjl := (List.getElem?_eq_some_iff.mp hy2).1
            rw [List.length_append, hta, List.length_append, htl] at hjl
            simp at hjl
            have := g2 j y hy2
            unfold xf at this
            simp (disch := omega) only [wI_ne]
            exact this
      · have q1' : ¬ (g x).2 = true := by rw [q1]; exact Bool.false_ne_true
        rw [if_neg q1', q0] at hup
        have hxx : ((x.1, x.2.1, x.2.2) : X3) = x := rfl
        rw [hxx] at hup
        have hap : L.take k ++ x :: M = L.take (k + 1) ++ M := by
          rw [hta, List.append_assoc]
          rfl
        rw [q2]
        refine ⟨_, rfl, by omega, υ, ?_, hE, ?_, ?_⟩
        · rw [hup]
          congr 1
          rw [List.length_drop, List.length_drop, List.length_cons] at *
          omega
        · rw [hup, hap]; exact g1
        · rw [hup, hap]; exact g2
      · exact absurd q1 (by decide)
    · obtain ⟨-, υ, rfl, hE, g1, g2⟩ := hI
      rw [Nat.sub_self] at g1 g2 ⊢
      rw [List.drop_zero, List.take_zero, List.nil_append] at *
      exact ⟨_, he _ υ hE, υ, rfl, hE, g1, g2⟩
    · rw [Nat.sub_zero, List.drop_length]
      rfl
    · rw [Nat.sub_zero, List.drop_length, List.take_length]
      show _ = nI (L ++ []).length
      rw [List.append_nil]
      exact h1
    · rw [Nat.sub_zero, List.drop_length, List.take_length]
      show CRf (xf σ) (L ++ [])
      rw [List.append_nil]
      exact hc
  obtain ⟨t, e, τ, rfl, hr⟩ := key
  exact ⟨τ, e, hr⟩
