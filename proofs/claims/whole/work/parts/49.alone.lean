/-- keep, change, give: what stays -/
theorem tried2 {σ υ ω τ : SS} {P : Nat → Nat → Nat → Prop} (h35 : ∀ j, ¬ P 13 35 j) (hP : ∀ j, j < 132 → (j = 0 ∨ j = 2 ∨ (8 ≤ j ∧ j < 60)) ∨ P 13 34 j) (hk : υ.2 = σ.2 ∧ (∀ k n j, ¬ (k = 13 ∧ n = 35) → υ.1 k n j = σ.1 k n j) ∧ ∀ j, j < 132 → υ.1 13 35 j = σ.1 13 34 j) (hE : Eqo P υ ω) (hg : τ.2 = ω.2 ∧ (∀ k n j, ¬ (k = 13 ∧ n = 34 ∧ j < 132) → τ.1 k n j = ω.1 k n j) ∧ ∀ j, j < 132 → τ.1 13 34 j = ω.1 13 35 j) : (∀ j, j < 132 → τ.1 13 34 j = σ.1 13 34 j) ∧ Eqo (fun k n j => P k n j ∨ (k = 13 ∧ n = 35)) σ τ := by
  have e1 : ∀ j, j < 132 → τ.1 13 34 j = σ.1 13 34 j := fun j hj => by
    rw [hg.2.2 j hj, hE.1 13 35 j (h35 j), hk.2.2 j hj]
  refine ⟨e1, fun k n j q => ?_, fun k n j q => ?_⟩
  · by_cases z : k = 13 ∧ n = 34 ∧ j < 132
    · obtain ⟨rfl, rfl, hj⟩ := z
      exact e1 j hj
    · rw [hg.2.1 k n j z, hE.1 k n j (fun w => q (.inl w)), hk.2.1 k n j (fun w => q (.inr w))]
  · rw [hg.1, hE.2 k n j (fun w => q (.inl w)), hk.1]
def CX : Nat → Nat → Nat → Prop := fun k n j => XC k n j ∨ FX k n j
def AX : Nat → Nat → Nat → Prop := fun k n j => XC k n j ∨ FX k n j ∨ (k = 13 ∧ (n = 35 ∨ n = 38))
theorem ck38 {t : Nat} (ht : t < 4) : ck (LN 13 38) (nI t) = some t := by
  rw [lens.2.2.2.2.2.2.2.1]
  exact ck_nI ht (by decide)
theorem ck39 {t : Nat} (ht : t < 4) : ck (LN 13 39) (nI t) = some t := by
  rw [lens.2.2.2.2.2.2.2.2.1]
  exact ck_nI ht (by decide)
section W5
variable {σ : SS} {n nk i c : Nat} {s p o : Int32} {nu : Nat → Nat → Nat} {lo : Nat → Nat} {L : List X3}
/-- loosening some times, in a loop -/
theorem xlsn {f : Int32 × Int32 × SS → Option ((Int32 × Int32 × SS) ⊕ (Int32 × SS))} {k : Nat} (hf : ∀ a b υ, f (a, b, υ) = if nI k ≤ b then some (Sum.inr (a, υ)) else (X12_loosensOnce υ).bind fun p => (some (a + p.1)).bind fun a' => (some (b + 1)).bind fun b' => some (Sum.inl (a', b', p.2))) (hk : k ≤ 3) (h : RXV σ n i c s p o L) : ∃ τ s', iter f NF (0, 0, σ) = some (nI (sLo k L), τ) ∧ RXV τ n i c s' p o (lsn k L) ∧ Eqo XC σ τ := by
  have h24 := h.l24
  obtain ⟨b, w, e, h1, ⟨s', h2⟩, h3⟩ := loopI (f := f) (s := (0, 0, σ)) k (fun m (b : Int32) (w : SS) => ((b, nI m, w) : Int32 × Int32 × SS)) (fun b w => ((b, w) : Int32 × SS)) (fun m b w => b = nI (sLo m L) ∧ (∃ s', RXV w n i c s' p o (lsn m L)) ∧ Eqo XC σ w) 0 σ rfl ⟨by rw [sLo_0]; rfl, ⟨s, by rw [lsn_0 h.st3]; exact h⟩, Eqo.rf _ _⟩ (by omega) (fun m b w hm hI => by
      obtain ⟨h1, ⟨s', h2⟩, h3⟩ := hI
      subst h1
      obtain ⟨w', e, hE, hR⟩ := xloosensOnce h2
      rw [lsn_s h.st3] at hR
      refine ⟨nI (sLo (m + 1) L), w', ?_, rfl, ⟨_, hR⟩, h3.tr hE⟩
      rw [hf, if_neg (nI_ge hm (by omega)), e, Option.bind_some, nI_add, Option.bind_some, nI_1, Option.bind_some, sLo_s]) (fun b w hI => by
      rw [hf, if_pos (nI_le (Nat.le_refl _) (by omega))])
  subst h1
  exact ⟨w, s', e, h2, h3⟩
theorem xaloneOf (hs : RXS σ n nk nu lo) (h : RXV σ n i c s p o L) {l : Nat} (hl : l < n) : ∃ τ, X12_aloneOf σ (nI l) = some (nI (alF nu l L).1, τ) ∧ (∀ j, j < 132 → τ.1 13 34 j = σ.1 13 34 j) ∧ Eqo AX σ τ ∧ WayIs (τ.1 13 38) (alF nu l L) := by
  have h24 := h.l24
  have h8 := hs.n8
  obtain ⟨b, w, e, h1, hc, hE, hW⟩ := loopI (f := X12_aloneOf_l4b (nI l)) (s := (-1, 0, σ)) 4 (fun k (b : Nat × Nat × Nat × Nat × Nat) (w : SS) => ((bI (b.1, 0, 0), nI k, w) : Int32 × Int32 × SS)) (fun b w => ((bI (b.1, 0, 0), w) : Int32 × SS)) (fun k b w => b = (List.range k).foldl (alS nu l L) (1073741824, 0, 0, 0, 0) ∧ (∀ j, j < 132 → w.1 13 34 j = σ.1 13 34 j) ∧ Eqo AX σ w ∧ (b.1 < 1073741824 → WayIs (w.1 13 38) b)) (1073741824, 0, 0, 0, 0) σ rfl ⟨rfl, fun _ _ => rfl, Eqo.rf _ _, fun z => absurd z (Nat.lt_irrefl _)⟩ (by decide) (fun k a w hk hI => by
      obtain ⟨h1, hc, hE, hW⟩ := hI
      have hs' : RXS w n nk nu lo := hs.of hc
      have h' : RXV w n i c s p o L := h.of hc
      obtain ⟨w1, e1, k1⟩ := xkeeps w
      have hs1 : RXS w1 n nk nu lo := hs'.of (fun j hj => k1.2.1 _ _ _ (by omega))
      have h1' : RXV w1 n i c s p o L := h'.of (fun j hj => k1.2.1 _ _ _ (by omega))
      obtain ⟨w2, s2, e2, hR2, hE2⟩ := xlsn (f := X12_aloneOf_l19b (nI l) (bI (a.1, 0, 0)) (nI k)) (k := k) (fun a b υ => rfl) (by omega) h1'
      have hs2 := hs1.keepV hE2
      obtain ⟨w3, e3, g1, g2, g3, hE3⟩ := xfrees hs2 hR2 hl
      rw [rowL_lsn nu l 0 k L h.st3] at e3 g1 g2 g3
      obtain ⟨w4, e4, k4⟩ := xgives w3
      have hE23 : Eqo CX w1 w3 := (hE2.mono (fun _ _ _ q => .inl q)).tr (hE3.mono (fun _ _ _ q => .inr q))
      obtain ⟨hT, hE4⟩ := tried2 (P := CX) (fun j q => by unfold CX XC FX at q; omega) (fun j hj => by unfold CX XC; omega) k1 hE23 k4
      have hEw : Eqo AX w w4 := hE4.mono (fun k n j q => by unfold CX XC FX at q; unfold AX XC FX; omega)
      have hcw : ∀ j, j < 132 → w4.1 13 34 j = σ.1 13 34 j := fun j hj => (hT j hj).trans (hc j hj)
      have hb := rowL_b hs.wf (l := l) (dn := 0) (k := k) h.wl
      have hfl := few_lt hb.1
      have hlo := sLo_le (k := k) (by omega) h24
      have ha' : a.1 ≤ 1073741824 := by
        rw [h1]
        clear h1 hW e2
        have : ∀ m, ((List.range m).foldl (alS nu l L) (1073741824, 0, 0, 0, 0)).1 ≤ 1073741824 := fun m => by
          induction m with
          | zero => exact Nat.le_refl _
          | succ m ih =>
            rw [fold_succ]
            unfold alS
            split
            · rename_i q; exact Nat.le_trans (Nat.le_of_lt q) ih
            · exact ih
        exact this k
      have hnext : ∀ q, q = alS nu l L a k → q = (List.range (k + 1)).foldl (alS nu l L) (1073741824, 0, 0, 0, 0) := fun q hq => by rw [fold_succ, ← h1, hq]
      show ∃ b' w', X12_aloneOf_l4c w (nI l) (bI (a.1, 0, 0)) (nI k) = _ ∧ _
      unfold X12_aloneOf_l4c X12_aloneOf_l19
      rw [if_neg (show ¬ (4 : Int32) ≤ nI k from nI_ge (b := 4) hk (by decide)), e1, Option.bind_some, e2, Option.bind_some]
      simp only
      rw [e3, Option.bind_some]
      simp only
      rw [nI_add, Option.bind_some, e4, Option.bind_some, bI_lt (a := (a.1, 0, 0)) ha' (by omega)]
      by_cases q : sLo k L + (few (rowL nu l 0 k L)).1 < a.1
      · rw [if_pos q]
        have c0 : ck (LN 13 38) 0 = some 0 := ck38 (t := 0) (by decide)
        have c1 : ck (LN 13 38) 1 = some 1 := ck38 (t := 1) (by decide)
        have c2 : ck (LN 13 38) 2 = some 2 := ck38 (t := 2) (by decide)
        have c3 : ck (LN 13 38) 3 = some 3 := ck38 (t := 3) (by decide)
        have f1 : w4.1 11 0 26 = nI (few (rowL nu l 0 k L)).2.1 := by rw [k4.2.1 _ _ _ (by omega)]; exact g1
        have f2 : w4.1 11 0 27 = nI (few (rowL nu l 0 k L)).2.2 := by rw [k4.2.1 _ _ _ (by omega)]; exact g2
        have f3 : w4.1 11 0 28 = nI (fwP (rowL nu l 0 k L)) := by rw [k4.2.1 _ _ _ (by omega)]; exact g3
        unfold X12_aloneOf_j67 X12_aloneOf_j107
        simp (disch := omega) only [c0, c1, c2, c3, Option.bind_some, wI_ne, f1, f2, f3, nI_1]
        have hbi : nI (sLo k L + (few (rowL nu l 0 k L)).1) = bI (sLo k L + (few (rowL nu l 0 k L)).1, 0, 0) := by
          unfold bI
          rw [if_neg (by show ¬ sLo k L + (few (rowL nu l 0 k L)).1 = 1073741824; omega)]
        rw [hbi]
        refine ⟨(sLo k L + (few (rowL nu l 0 k L)).1, k, (few (rowL nu l 0 k L)).2.1, (few (rowL nu l 0 k L)).2.2, fwP (rowL nu l 0 k L)), _, rfl, hnext _ (by unfold alS; rw [if_pos q]), fun j hj => ?_, ?_, fun _ => ?_⟩
        · simp (disch := omega) only [wI_ne]
          exact hcw j hj
        · have hw : ∀ w j x, Eqo AX w (wI w 13 38 j x) := fun w j x => Eqo.wI (.inr (.inr ⟨rfl, .inr rfl⟩))
          exact (hE.tr hEw).tr ((((hw _ _ _).tr (hw _ _ _)).tr (hw _ _ _)).tr (hw _ _ _))
        · unfold WayIs
          simp (disch := omega) only [wI_ne, wI_eq]
          exact ⟨trivial, trivial, trivial, trivial⟩
      · rw [if_neg q]
        unfold X12_aloneOf_j107
        rw [nI_1, Option.bind_some]
        refine ⟨a, w4, rfl, hnext a (by unfold alS; rw [if_neg q]), hcw, hE.tr hEw, fun z => ?_⟩
        have := hW z
        unfold WayIs at this ⊢
        have hk38 : ∀ j, w4.1 13 38 j = w.1 13 38 j := fun j => by
          rw [hE4.at1 (by unfold CX XC FX; omega)]
        rw [hk38, hk38, hk38, hk38]
        exact this) (fun a w hI => by
      show X12_aloneOf_l4c w (nI l) (bI (a.1, 0, 0)) (nI 4) = _
      unfold X12_aloneOf_l4c
      rw [if_pos (show (4 : Int32) ≤ nI 4 by decide)])
  have e1 : b = alF nu l L := h1
  subst e1
  have hlt := (alF_lt hs.wf (l := l) h.wl).1
  refine ⟨w, ?_, hc, hE, hW (by omega)⟩
  unfold X12_aloneOf X12_aloneOf_j0 X12_aloneOf_l4
  rw [e, Option.bind_some]
  unfold bI
  rw [if_neg (by show ¬ (alF nu l L).1 = 1073741824; omega)]
end W5
/-! ===== the ops: what the ways' ops may write ===== -/
def PW : Nat → Nat → Nat → Prop := fun k n j => PS k n j ∨ XO k n j ∨ SP k n j ∨ (k = 6 ∧ n = 0 ∧ (j ≤ 3 ∨ j = 6 ∨ (9 ≤ j ∧ j ≤ 11))) ∨ (k = 13 ∧ 22 ≤ n ∧ n ≤ 28) ∨ (k = 11 ∧ n = 0 ∧ ((26 ≤ j ∧ j ≤ 28) ∨ j = 33 ∨ j = 38 ∨ j = 39)) ∨ (k = 13 ∧ 35 ≤ n ∧ n ≤ 43)
/-- without what is kept of ways and orders -/
def PV : Nat → Nat → Nat → Prop := fun k n j => PS k n j ∨ XO k n j ∨ SP k n j ∨ (k = 6 ∧ n = 0 ∧ j ≤ 3) ∨ (k = 13 ∧ (n = 22 ∨ n = 23 ∨ n = 25 ∨ n = 27 ∨ n = 28)) ∨ (k = 11 ∧ n = 0 ∧ (26 ≤ j ∧ j ≤ 28)) ∨ (k = 13 ∧ 35 ≤ n ∧ n ≤ 43 ∧ n ≠ 39 ∧ n ≠ 42)
def WyR (σ : SS) : Prop := (σ.1 6 0 6 = 0 ∧ σ.1 11 0 33 = 0) ∨ (σ.1 6 0 6 = 1 ∧ σ.1 11 0 33 = 1 ∧ ∀ j, j < 4 → σ.1 13 24 j = σ.1 13 39 j)
theorem WyR.keep {σ τ : SS} {P : Nat → Nat → Nat → Prop} (h : WyR σ) (hE : Eqo P σ τ) (hP : ∀ k n j, P k n j → ¬ ((k = 6 ∧ n = 0 ∧ j = 6) ∨ (k = 11 ∧ n = 0 ∧ j = 33) ∨ (k = 13 ∧ (n = 24 ∨ n = 39)))) : WyR τ := by
  have e : ∀ k n j, ((k = 6 ∧ n = 0 ∧ j = 6) ∨ (k = 11 ∧ n = 0 ∧ j = 33) ∨ (k = 13 ∧ (n = 24 ∨ n = 39))) → τ.1 k n j = σ.1 k n j := fun k n j q => hE.1 k n j (fun z => hP k n j z q)
  unfold WyR
  rw [e 6 0 6 (by omega), e 11 0 33 (by omega)]
  rcases h with ⟨a, b⟩ | ⟨a, b, q⟩
  · exact .inl ⟨a, b⟩
  · exact .inr ⟨a, b, fun j hj => by rw [e 13 24 j (by omega), e 13 39 j (by omega)]; exact q j hj⟩
