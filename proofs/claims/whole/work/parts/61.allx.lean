/-! ===== ALL: the reference ===== -/
theorem tried3 {σ υ ω τ : SS} {P : Nat → Nat → Nat → Prop} (h35 : ∀ j, ¬ P 13 43 j) (hk : υ.2 = σ.2 ∧ (∀ k n j, ¬ (k = 13 ∧ n = 43) → υ.1 k n j = σ.1 k n j) ∧ ∀ j, j < 132 → υ.1 13 43 j = σ.1 13 34 j) (hE : Eqo P υ ω) (hg : τ.2 = ω.2 ∧ (∀ k n j, ¬ (k = 13 ∧ n = 34 ∧ j < 132) → τ.1 k n j = ω.1 k n j) ∧ ∀ j, j < 132 → τ.1 13 34 j = ω.1 13 43 j) : (∀ j, j < 132 → τ.1 13 34 j = σ.1 13 34 j) ∧ Eqo (fun k n j => P k n j ∨ (k = 13 ∧ n = 43)) σ τ := by
  have e1 : ∀ j, j < 132 → τ.1 13 34 j = σ.1 13 34 j := fun j hj => by
    rw [hg.2.2 j hj, hE.1 13 43 j (h35 j), hk.2.2 j hj]
  refine ⟨e1, fun k n j q => ?_, fun k n j q => ?_⟩
  · by_cases z : k = 13 ∧ n = 34 ∧ j < 132
    · obtain ⟨rfl, rfl, hj⟩ := z
      exact e1 j hj
    · rw [hg.2.1 k n j z, hE.1 k n j (fun w => q (.inl w)), hk.2.1 k n j (fun w => q (.inr w))]
  · rw [hg.1, hE.2 k n j (fun w => q (.inl w)), hk.1]
theorem ck43 {t : Nat} (ht : t < 132) : ck (LN 13 43) (nI t) = some t := by
  rw [lens.2.2.2.2.2.2.2.2.2.2.2.2.1]
  exact ck_nI ht (by decide)
theorem ck41 {t : Nat} (ht : t < 8) : ck (LN 13 41) (nI t) = some t := by
  rw [lens.2.2.2.2.2.2.2.2.2.2.1]
  exact ck_nI ht (by decide)
theorem ck42 {t : Nat} (ht : t < 8) : ck (LN 13 42) (nI t) = some t := by
  rw [lens.2.2.2.2.2.2.2.2.2.2.2.1]
  exact ck_nI ht (by decide)
theorem xkeeps2 (σ : SS) (x1 x2 : Int32) : ∃ τ, iter (X12_costAfter_l2b x1 x2) NF (0, σ) = some τ ∧ τ.2 = σ.2 ∧ (∀ k n j, ¬ (k = 13 ∧ n = 43) → τ.1 k n j = σ.1 k n j) ∧ ∀ j, j < 132 → τ.1 13 43 j = σ.1 13 34 j := by
  obtain ⟨b, w, e, h1, h2, h3⟩ := loopI (f := X12_costAfter_l2b x1 x2) (s := (0, σ)) 132 (fun k (_ : Unit) (w : SS) => ((nI k, w) : Int32 × SS)) (fun _ w => w) (fun k _ w => w.2 = σ.2 ∧ (∀ k n j, ¬ (k = 13 ∧ n = 43) → w.1 k n j = σ.1 k n j) ∧ ∀ j, j < k → w.1 13 43 j = σ.1 13 34 j) () σ rfl ⟨rfl, fun _ _ _ _ => rfl, fun j hj => absurd hj (Nat.not_lt_zero _)⟩ (by decide) (fun m b w hm hI => by
      obtain ⟨g2, g3, g4⟩ := hI
      show ∃ b' w', X12_costAfter_l2c w x1 x2 (nI m) = _ ∧ _
      unfold X12_costAfter_l2c
      rw [if_neg (show ¬ (132 : Int32) ≤ nI m from nI_ge (b := 132) hm (by decide)), ckc (by omega), Option.bind_some, ck43 hm, Option.bind_some, Option.bind_some, nI_1, Option.bind_some]
      refine ⟨(), _, rfl, g2, fun k n j q => ?_, fun j hj => ?_⟩
      · rw [wI_ne _ _ (by omega)]
        exact g3 k n j q
      · by_cases e : j = m
        · subst e
          rw [wI_eq]
          exact g3 _ _ _ (by omega)
        · rw [wI_ne _ _ (by omega)]
          exact g4 j (by omega)) (fun b w hI => by
      show X12_costAfter_l2c w x1 x2 (nI 132) = _
      unfold X12_costAfter_l2c
      rw [if_pos (show (132 : Int32) ≤ nI 132 by decide)])
  exact ⟨w, e, h1, h2, h3⟩
theorem xgives2 (σ : SS) (v : Int32) : ∃ τ, X12_costAfter_l68 σ v 0 = some (v, τ) ∧ τ.2 = σ.2 ∧ (∀ k n j, ¬ (k = 13 ∧ n = 34 ∧ j < 132) → τ.1 k n j = σ.1 k n j) ∧ ∀ j, j < 132 → τ.1 13 34 j = σ.1 13 43 j := by
  obtain ⟨b, w, e, h1, h2, h3⟩ := loopI (f := X12_costAfter_l68b v) (s := (0, σ)) 132 (fun k (_ : Unit) (w : SS) => ((nI k, w) : Int32 × SS)) (fun _ w => w) (fun k _ w => w.2 = σ.2 ∧ (∀ k n j, ¬ (k = 13 ∧ n = 34 ∧ j < 132) → w.1 k n j = σ.1 k n j) ∧ ∀ j, j < k → w.1 13 34 j = σ.1 13 43 j) () σ rfl ⟨rfl, fun _ _ _ _ => rfl, fun j hj => absurd hj (Nat.not_lt_zero _)⟩ (by decide) (fun m b w hm hI => by
      obtain ⟨g2, g3, g4⟩ := hI
      show ∃ b' w', X12_costAfter_l68c w v (nI m) = _ ∧ _
      unfold X12_costAfter_l68c
      rw [if_neg (show ¬ (132 : Int32) ≤ nI m from nI_ge (b := 132) hm (by decide)), ck43 hm, Option.bind_some, ckc (by omega), Option.bind_some, Option.bind_some, nI_1, Option.bind_some]
      refine ⟨(), _, rfl, g2, fun k n j q => ?_, fun j hj => ?_⟩
      · rw [wI_ne _ _ (by omega)]
        exact g3 k n j q
      · by_cases e : j = m
        · subst e
          rw [wI_eq]
          exact g3 _ _ _ (by omega)
        · rw [wI_ne _ _ (by omega)]
          exact g4 j (by omega)) (fun b w hI => by
      show X12_costAfter_l68c w v (nI 132) = _
      unfold X12_costAfter_l68c
      rw [if_pos (show (132 : Int32) ≤ nI 132 by decide)])
  refine ⟨w, ?_, h1, h2, h3⟩
  unfold X12_costAfter_l68
  rw [e, Option.bind_some]
theorem rowL_cut2 (nu : Nat → Nat → Nat) {l e : Nat} (dn k : Nat) (L : List X3) (hne : l ≠ e) (he : e < 8) : rowL nu l (dn ||| 2 ^ e) k L = rowL nu l dn k (updL (gC e) L) := by
  by_cases hd : dn.testBit e = false
  · exact rowL_cut nu dn k L hne he hd
  · unfold rowL
    induction L with
    | nil => rfl
    | cons x t ih =>
      rw [updL_cons, List.filterMap_cons, ih]
      by_cases q : qO e x = true
      · have hn : rowF nu l (dn ||| 2 ^ e) k x = none := by
          unfold rowF
          rw [if_neg]
          rintro ⟨h1, h2⟩
          have h3 : oth l x = e := by
            unfold qO at q h1
            unfold oth
            simp only [Bool.or_eq_true, beq_iff_eq] at q h1
            split <;> omega
          rw [h3, Nat.testBit_or, Nat.testBit_two_pow_self] at h2
          simp at h2
        rw [hn, if_pos (show (gC e x).2 = true from q)]
      · have hn : rowF nu l (dn ||| 2 ^ e) k x = rowF nu l dn k x := by
          unfold rowF
          by_cases h1 : qO l x = true
          · have h3 : oth l x ≠ e := by
              unfold qO at q h1
              unfold oth
              simp only [Bool.or_eq_true, beq_iff_eq] at q h1
              split <;> omega
            rw [Nat.testBit_or, Nat.testBit_two_pow, show decide (e = oth l x) = false by simp; omega, Bool.or_false]
          · rw [if_neg (fun z => h1 z.1), if_neg (fun z => h1 z.1)]
        rw [hn, if_neg (show ¬ (gC e x).2 = true from q), List.filterMap_cons]
        rfl
def CA : Nat → Nat → Nat → Prop := fun k n j => CX k n j ∨ (k = 13 ∧ n = 43)
section XA
variable {σ : SS} {n nk i c : Nat} {s p o : Int32} {nu : Nat → Nat → Nat} {lo : Nat → Nat} {L : List X3}
theorem xcostAfter (hs : RXS σ n nk nu lo) (h : RXV σ n i c s p o L) {l S : Nat} (hl : l < n) (hS : S < 2 ^ n) (hlS : S.testBit l = false) : ∃ τ, X12_costAfter σ (nI l) (nI S) = some (nI (cfC nu 0 L l S), τ) ∧ (∀ j, j < 132 → τ.1 13 34 j = σ.1 13 34 j) ∧ Eqo CA σ τ := by
  have h8 := hs.n8
  have hS8 := p256 h8 hS
  obtain ⟨w1, e1, k1⟩ := xkeeps2 σ (nI l) (nI S)
  have hs1 : RXS w1 n nk nu lo := hs.of (fun j hj => k1.2.1 _ _ _ (by omega))
  have h1 : RXV w1 n i c s p o L := h.of (fun j hj => k1.2.1 _ _ _ (by omega))
  obtain ⟨b, w2, e2, hE2, Lm, hR2, hrow⟩ := loopI (f := X12_costAfter_l29b (nI l) (nI S)) (s := (0, w1)) n (fun m (_ : Unit) (w : SS) => ((nI m, w) : Int32 × SS)) (fun _ w => w) (fun m _ w => Eqo XD w1 w ∧ ∃ Lm, RXV w n i c s p o Lm ∧ ∀ dn, rowL nu l dn 0 Lm = rowL nu l (dn ||| (S &&& (2 ^ m - 1))) 0 L) () w1 rfl ⟨Eqo.rf _ _, L, h1, fun dn => by simp⟩ (by omega) (fun m b w hm hI => by
      obtain ⟨hE, Lm, hR, hrow⟩ := hI
      have hs' : RXS w n nk nu lo := hs1.keepV (XD_XC hE)
      show ∃ b' w', X12_costAfter_l29c w (nI l) (nI S) (nI m) = _ ∧ _
      unfold X12_costAfter_l29c X12_costAfter_j53
      rw [ck0, Option.bind_some, hs'.ln, if_neg (nI_ge hm (by omega)), xhas hS8 (by omega), Option.bind_some, v01, nI_1]
      by_cases q : S.testBit m = true
      · rw [if_pos q]
        obtain ⟨w', e', hE', hR'⟩ := xdropsAll h8 hR (l := m) (by omega)
        rw [e', Option.bind_some, Option.bind_some]
        refine ⟨(), w', rfl, hE.tr hE', _, hR', fun dn => ?_⟩
        have hne : l ≠ m := fun e => by rw [e, q] at hlS; cases hlS
        rw [← rowL_cut2 nu dn 0 Lm hne (by omega), hrow]
        apply rowL_congr
        intro x _ _
        rw [Nat.testBit_or, Nat.testBit_or, Nat.testBit_or, Nat.testBit_and, Nat.testBit_and, Nat.testBit_two_pow, Nat.testBit_two_pow_sub_one, Nat.testBit_two_pow_sub_one]
        by_cases y : oth l x = m
        · rw [y, q]
          simp
        · by_cases y2 : oth l x < m
          · simp [y2, show oth l x < m + 1 by omega, show ¬ m = oth l x by omega]
          · simp [y2, show ¬ oth l x < m + 1 by omega, show ¬ m = oth l x by omega]
      · rw [if_neg q, Option.bind_some]
        refine ⟨(), w, rfl, hE, Lm, hR, fun dn => ?_⟩
        rw [hrow]
        apply rowL_congr
        intro x _ _
        rw [Nat.testBit_or, Nat.testBit_or, Nat.testBit_and, Nat.testBit_and, Nat.testBit_two_pow_sub_one, Nat.testBit_two_pow_sub_one]
        by_cases y : oth l x = m
        · rw [y, show S.testBit m = false by simpa using q]
          simp
        · by_cases y2 : oth l x < m
          · simp [y2, show oth l x < m + 1 by omega]
          · simp [y2, show ¬ oth l x < m + 1 by omega]) (fun b w hI => by
      have hs' : RXS w n nk nu lo := hs1.keepV (XD_XC hI.1)
      show X12_costAfter_l29c w (nI l) (nI S) (nI n) = _
      unfold X12_costAfter_l29c
      rw [ck0, Option.bind_some, hs'.ln, if_pos (nI_le (Nat.le_refl _) (by omega))])
  have hs2 : RXS w2 n nk nu lo := hs1.keepV (XD_XC hE2)
  obtain ⟨w3, e3, -, -, -, hE3⟩ := xfrees hs2 hR2 hl
  have hrowS : rowL nu l 0 0 Lm = rowL nu l S 0 L := by
    rw [hrow]
    apply rowL_congr
    intro x _ _
    rw [Nat.testBit_or, Nat.zero_testBit, Bool.false_or, Nat.testBit_and, Nat.testBit_two_pow_sub_one]
    by_cases y : oth l x < n
    · simp [y]
    · rw [tb_out hS (by omega)]
      simp
  rw [hrowS] at e3
  obtain ⟨w4, e4, k4⟩ := xgives2 w3 (nI (few (rowL nu l S 0 L)).1)
  have hE23 : Eqo CX w1 w3 := ((XD_XC hE2).mono (fun _ _ _ q => .inl q)).tr (hE3.mono (fun _ _ _ q => .inr q))
  obtain ⟨hT, hE4⟩ := tried3 (P := CX) (fun j q => by unfold CX XC FX at q; omega) k1 hE23 k4
  refine ⟨w4, ?_, hT, hE4⟩
  unfold X12_costAfter X12_costAfter_j0 X12_costAfter_l2 X12_costAfter_l29
  rw [e1, Option.bind_some, e2, Option.bind_some, e3, Option.bind_some, e4]
  rfl
/-- the rest is laid from a set on -/
def RLx (σ : SS) (n i : Nat) (cf : Nat → Nat → Nat) (m : Nat) : Prop := ∀ S, Sub S i → m ≤ S → σ.1 13 40 S = nI (Hf n i cf S)
def CB : Nat → Nat → Nat → Prop := fun k n j => CA k n j ∨ (k = 13 ∧ (n = 40 ∨ n = 41))
theorem xalp {S l : Nat} (hi : i < 256) (hS : S < 256) (hl : l < 8) (σ : SS) {α : Type} {x y : Option α} : ((X12_has σ (nI i) (nI l)).bind fun v => if v = 0 then x else ((X12_has σ (nI S) (nI l)).bind fun v' => if v' = 0 then y else x)) = if alp i S l = true then y else x := by
  rw [xhas hi hl, Option.bind_some, xhas hS hl, Option.bind_some, v01, v01]
  unfold alp
  cases i.testBit l <;> cases S.testBit l <;> rfl
theorem xrest_in (hs : RXS σ n nk nu lo) (h : RXV σ n i c s p o L) {D a : Nat} (hD : Sub D i) (ha : a ≤ 99999) (hc0 : σ.1 13 40 D = nI a) (hC : RLx σ n i (cfC nu 0 L) (D + 1)) : ∃ τ, iter (X12_allOf_l44b (nI i) (nI D)) NF (0, σ) = some τ ∧ τ.1 13 40 D = nI (fmin (alp i D) (fun l => cfC nu 0 L l D + Hf n i (cfC nu 0 L) (D ||| 2 ^ l)) (List.range n) a) ∧ (∀ j, j < 132 → τ.1 13 34 j = σ.1 13 34 j) ∧ Eqo (fun k n j => CA k n j ∨ (k = 13 ∧ n = 40 ∧ j = D)) σ τ := by
  have h8 := hs.n8
  have hi8 := p256 h8 h.ilt
  have hD8 : D < 256 := Nat.lt_of_le_of_lt hD.le hi8
  have hDn : D < 2 ^ n := Nat.lt_of_le_of_lt hD.le h.ilt
  have hcf : ∀ l S, cfC nu 0 L l S ≤ 1442 := fun l S => few_b hs.wf h.wl 0 l S
  obtain ⟨b, w, e, h1, hle, h2, h3, h4⟩ := loopI (f := X12_allOf_l44b (nI i) (nI D)) (s := (0, σ)) n (fun m (_ : Nat) (w : SS) => ((nI m, w) : Int32 × SS)) (fun _ w => w) (fun m (b : Nat) w => b = fmin (alp i D) (fun l => cfC nu 0 L l D + Hf n i (cfC nu 0 L) (D ||| 2 ^ l)) (List.range m) a ∧ b ≤ 99999 ∧ w.1 13 40 D = nI b ∧ (∀ j, j < 132 → w.1 13 34 j = σ.1 13 34 j) ∧ Eqo (fun k n j => CA k n j ∨ (k = 13 ∧ n = 40 ∧ j = D)) σ w) a σ rfl ⟨rfl, ha, hc0, fun _ _ => rfl, Eqo.rf _ _⟩ (by omega) (fun m b w hm hI => by
      obtain ⟨h1, hle, h2, h3, h4⟩ := hI
      have hs' : RXS w n nk nu lo := hs.of h3
      have h' : RXV w n i c s p o L := h.of h3
      have hnext : fmin (alp i D) (fun l => cfC nu 0 L l D + Hf n i (cfC nu 0 L) (D ||| 2 ^ l)) (List.range (m + 1)) a = if alp i D m = true then min b (cfC nu 0 L m D + Hf n i (cfC nu 0 L) (D ||| 2 ^ m)) else b := by
        unfold fmin at h1 ⊢
        rw [fold_succ, ← h1]
      show ∃ b' w', X12_allOf_l44c w (nI i) (nI D) (nI m) = _ ∧ _
      unfold X12_allOf_l44c X12_allOf_j102
      rw [ck0, Option.bind_some, hs'.ln, if_neg (nI_ge hm (by omega)), xalp hi8 hD8 (by omega), nI_1, hnext]
      by_cases q : alp i D m = true
      · obtain ⟨a1, a2⟩ := alp_iff.mp q
        have hsub := or_sub hD a1
        have hgt := or_gt a2
        have hle2 := hsub.le
        have hH := Hf_b h8 h.ilt hcf hsub
        have hcm := hcf m D
        obtain ⟨w', e', hc', hE'⟩ := xcostAfter hs' h' hm hDn a2
        have hor : nI D ||| (1 <<< (nI m &&& 31)) = nI (D ||| 2 ^ m) := by
          rw [show (1 : Int32) <<< (nI m &&& 31) = nI (2 ^ m) from hsh (by omega), nI_or]
        have hcell : w'.1 13 40 (D ||| 2 ^ m) = nI (Hf n i (cfC nu 0 L) (D ||| 2 ^ m)) := by
          rw [hE'.at1 (by unfold CA CX XC FX; omega), h4.at1 (by unfold CA CX XC FX; omega)]
          exact hC _ hsub (by omega)
        rw [if_pos q, if_pos q, ck40' hD8, Option.bind_some, e', Option.bind_some, hor, ck40' (by omega), Option.bind_some, Option.bind_some, hcell, h2, nI_add, imin_nI (by omega) (by omega), Option.bind_some, Option.bind_some]
        refine ⟨_, _, rfl, rfl, by omega, wI_eq _ _ _ _ _, fun j hj => ?_, (h4.tr (hE'.mono (fun _ _ _ q => .inl q))).tr (Eqo.wI (.inr ⟨rfl, rfl, rfl⟩))⟩
        rw [wI_ne _ _ (by omega)]
        exact (hc' j hj).trans (h3 j hj)
      · rw [if_neg q, if_neg q, Option.bind_some]
        exact ⟨b, w, rfl, rfl, hle, h2, h3, h4⟩) (fun b w hI => by
      have hs' : RXS w n nk nu lo := hs.of hI.2.2.2.1
      show X12_allOf_l44c w (nI i) (nI D) (nI n) = _
      unfold X12_allOf_l44c
      rw [ck0, Option.bind_some, hs'.ln, if_pos (nI_le (Nat.le_refl _) (by omega))])
  subst h1
  exact ⟨w, e, h2, h3, h4⟩
theorem xrest (hs : RXS σ n nk nu lo) (h : RXV σ n i c s p o L) : ∃ τ, iter (X12_allOf_l9b (nI i)) NF (nI i, σ) = some τ ∧ RLx τ n i (cfC nu 0 L) 0 ∧ (∀ j, j < 132 → τ.1 13 34 j = σ.1 13 34 j) ∧ Eqo CB σ τ := by
  have h8 := hs.n8
  have hi8 := p256 h8 h.ilt
  have hcf : ∀ l S, cfC nu 0 L l S ≤ 1442 := fun l S => few_b hs.wf h.wl 0 l S
  obtain ⟨b, w, e, h1, h2, h3⟩ := loopI (f := X12_allOf_l9b (nI i)) (s := (nI i, σ)) (i + 1) (fun m (_ : Unit) (w : SS) => ((pI (i + 1 - m), w) : Int32 × SS)) (fun _ w => w) (fun m _ w => RLx w n i (cfC nu 0 L) (i + 1 - m) ∧ (∀ j, j < 132 → w.1 13 34 j = σ.1 13 34 j) ∧ Eqo CB σ w) () σ (by rw [Nat.sub_zero, pI_s]) ⟨fun S hS hm => by
      have := hS.le
      omega, fun _ _ => rfl, Eqo.rf _ _⟩ (by omega) (fun m b w hm hI => by
      obtain ⟨hC, h2, h3⟩ := hI
      have hs' : RXS w n nk nu lo := hs.of h2
      have h' : RXV w n i c s p o L := h.of h2
      obtain ⟨D, hD⟩ : ∃ D, i + 1 - m = D + 1 := ⟨i - m, by omega⟩
      have hD2 : i + 1 - (m + 1) = D := by omega
      rw [hD] at hC ⊢
      rw [hD2, pI_s]
      have hsub : ((nI D &&& (nI i ^^^ (-1))) = 0) ↔ Sub D i := by
        rw [show (-1 : Int32) = -nI 1 from rfl, nI_andn (by omega)]
        show nI (df D i) = nI 0 ↔ _
        rw [nI_eq (by have := df_le D i; omega) (by decide), df_0 (by omega)]
      show ∃ b' w', X12_allOf_l9c w (nI i) (nI D) = _ ∧ _
      unfold X12_allOf_l9c X12_allOf_j108
      rw [if_neg (nI_pos (by omega))]
      by_cases q : Sub D i
      · rw [if_pos (hsub.mpr q)]
        unfold X12_allOf_j41 X12_allOf_l44 X12_allOf_j108
        rw [ck40' (by omega), Option.bind_some, Option.bind_some]
        have hv : (if nI D = nI i then (0 : Int32) else 99999) = nI (if D = i then 0 else 99999) := by
          by_cases z : D = i
          · rw [if_pos (by rw [z]), if_pos z]; rfl
          · rw [if_neg (fun y => z ((nI_eq (by omega) (by omega)).mp y)), if_neg z]; rfl
        have hE1 : Eqo CB w (wI w 13 40 D (if nI D = nI i then 0 else 99999)) := Eqo.wI (.inr ⟨rfl, .inl rfl⟩)
        have hc1 : ∀ j, j < 132 → (wI w 13 40 D (if nI D = nI i then 0 else 99999)).1 13 34 j = w.1 13 34 j := fun j hj => wI_ne _ _ (by omega)
        obtain ⟨w', e', g1, g2, g3⟩ := xrest_in (hs'.of hc1) (h'.of hc1) q (a := if D = i then 0 else 99999) (by split <;> omega) (by rw [wI_eq, hv]) (fun S hS hm => by
          rw [wI_ne _ _ (by omega)]
          exact hC S hS hm)
        rw [e', Option.bind_some]
        refine ⟨(), w', rfl, fun S hS hm => ?_, fun j hj => (g2 j hj).trans ((hc1 j hj).trans (h2 j hj)), (h3.tr hE1).tr (g3.mono (fun k n j q => ?_))⟩
        · by_cases z : S = D
          · rw [z, g1]
            congr 1
            by_cases y : D = i
            · rw [if_pos y, y, Hf_full hi8]
              have : (fmin (alp i i) (fun l => cfC nu 0 L l i + Hf n i (cfC nu 0 L) (i ||| 2 ^ l)) (List.range n) 0) ≤ 0 := (fmin_ok _ _ _ _).1
              omega
            · rw [if_neg y, Hf_s hi8 q y]
              obtain ⟨l, hl, ha⟩ := ex_alp h.ilt q y
              have hH := Hf_b h8 h.ilt hcf (or_sub q (alp_iff.mp ha).1)
              have hcm := hcf l D
              exact fmin_init ⟨l, List.mem_range.mpr hl, ha, by
                show cfC nu 0 L l D + Hf n i (cfC nu 0 L) (D ||| 2 ^ l) ≤ _
                omega, by
                show cfC nu 0 L l D + Hf n i (cfC nu 0 L) (D ||| 2 ^ l) ≤ _
                omega⟩
          · rw [g3.at1 (by unfold CA CX XC FX; omega), wI_ne _ _ (by omega)]
            exact hC S hS (by omega)
        · rcases q with q | q
          · exact .inl q
          · exact .inr ⟨q.1, .inl q.2.1⟩
      · rw [if_neg (fun z => q (hsub.mp z)), Option.bind_some]
        refine ⟨(), w, rfl, fun S hS hm => ?_, h2, h3⟩
        by_cases z : S = D
        · exact absurd (z ▸ hS) q
        · exact hC S hS (by omega)) (fun b w hI => by
      show X12_allOf_l9c w (nI i) (pI (i + 1 - (i + 1))) = _
      unfold X12_allOf_l9c
      rw [Nat.sub_self, if_pos pI_0])
  rw [Nat.sub_self] at h1
  exact ⟨w, e, h1, h2, h3⟩
theorem xfirst (hs : RXS σ n nk nu lo) (h : RXV σ n i c s p o L) {S : Nat} (hS : Sub S i) (h0 : S ≠ i) (hC : RLx σ n i (cfC nu 0 L) 0) (x3 : Int32) : ∃ τ, iter (X12_allOf_l126b (nI i) (nI S) x3) NF (0, σ) = some (nI (nxF n i (cfC nu 0 L) S), τ) ∧ (∀ j, j < 132 → τ.1 13 34 j = σ.1 13 34 j) ∧ Eqo CA σ τ := by
  have h8 := hs.n8
  have hi8 := p256 h8 h.ilt
  have hS8 : S < 256 := Nat.lt_of_le_of_lt hS.le hi8
  have hSn : S < 2 ^ n := Nat.lt_of_le_of_lt hS.le h.ilt
  have hcf : ∀ l S, cfC nu 0 L l S ≤ 1442 := fun l S => few_b hs.wf h.wl 0 l S
  obtain ⟨-, g1, g2, g3, g4⟩ := nx_ok h8 h.ilt hcf hS h0
  have key : ∃ t, iter (X12_allOf_l126b (nI i) (nI S) x3) NF (nI 0, σ) = some t ∧ (t.1 = nI (nxF n i (cfC nu 0 L) S) ∧ (∀ j, j < 132 → t.2.1 13 34 j = σ.1 13 34 j) ∧ Eqo CA σ t.2) := by
    have step : ∀ m (w : SS), m ≤ nxF n i (cfC nu 0 L) S → (∀ j, j < 132 → w.1 13 34 j = σ.1 13 34 j) → Eqo CA σ w → ∃ w', X12_allOf_l126b (nI i) (nI S) x3 (nI m, w) = (if m = nxF n i (cfC nu 0 L) S then some (Sum.inr (nI m, w')) else some (Sum.inl (nI (m + 1), w'))) ∧ (∀ j, j < 132 → w'.1 13 34 j = σ.1 13 34 j) ∧ Eqo CA σ w' := fun m w hm hc hE => by
      have hs' : RXS w n nk nu lo := hs.of hc
      have h' : RXV w n i c s p o L := h.of hc
      have e0 : X12_allOf_l126b (nI i) (nI S) x3 (nI m, w) = X12_allOf_l126c w (nI i) (nI S) x3 (nI m) := rfl
      rw [e0]
      unfold X12_allOf_l126c X12_allOf_j172
      rw [xalp hi8 hS8 (by omega), nI_1, Option.bind_some]
      by_cases q : alp i S m = true
      · obtain ⟨a1, a2⟩ := alp_iff.mp q
        have hsub := or_sub hS a1
        have hle2 := hsub.le
        have hH := Hf_b h8 h.ilt hcf hsub
        have hH2 := Hf_b h8 h.ilt hcf hS
        have hcm := hcf m S
        obtain ⟨w', e', hc', hE'⟩ := xcostAfter hs' h' (show m < n by omega) hSn a2
        have hor : nI S ||| (1 <<< (nI m &&& 31)) = nI (S ||| 2 ^ m) := by
          rw [show (1 : Int32) <<< (nI m &&& 31) = nI (2 ^ m) from hsh (by omega), nI_or]
        have hc40 : ∀ T, Sub T i → w'.1 13 40 T = nI (Hf n i (cfC nu 0 L) T) := fun T hT => by
          rw [hE'.at1 (by unfold CA CX XC FX; omega), hE.at1 (by unfold CA CX XC FX; omega)]
          exact hC T hT (Nat.zero_le _)
        rw [if_pos q, e', Option.bind_some, hor, ck40' (by omega), Option.bind_some, ck40' hS8, Option.bind_some, hc40 _ hsub, hc40 _ hS, nI_add]
        refine ⟨w', ?_, fun j hj => (hc' j hj).trans (hc j hj), hE.tr hE'⟩
        by_cases z : m = nxF n i (cfC nu 0 L) S
        · rw [if_pos z, if_pos (by rw [z, g3])]
        · have y2 : ¬ nI (cfC nu 0 L m S + Hf n i (cfC nu 0 L) (S ||| 2 ^ m)) = nI (Hf n i (cfC nu 0 L) S) := fun y => by
            have := g4 m (by omega)
            unfold nxp at this
            rw [q, Bool.true_and, decide_eq_false_iff_not] at this
            exact this ((nI_eq (by omega) (by omega)).mp y)
          rw [if_neg z, if_neg y2]
          rfl
      · rw [if_neg q]
        refine ⟨w, ?_, hc, hE⟩
        rw [if_neg (fun z => q (by rw [z]; exact g2))]
    refine iter_upto (fun m (st : Int32 × SS) => st.1 = nI m ∧ (∀ j, j < 132 → st.2.1 13 34 j = σ.1 13 34 j) ∧ Eqo CA σ st.2) (nxF n i (cfC nu 0 L) S) (fun (t : Int32 × SS) => t.1 = nI (nxF n i (cfC nu 0 L) S) ∧ (∀ j, j < 132 → t.2.1 13 34 j = σ.1 13 34 j) ∧ Eqo CA σ t.2) (fun m st hm hI => ?_) (fun st hI => ?_) ⟨rfl, fun _ _ => rfl, Eqo.rf _ _⟩ (by omega)
    · obtain ⟨x, w⟩ := st
      obtain ⟨rfl, hc, hE⟩ := hI
      obtain ⟨w', e', hc', hE'⟩ := step m w (by omega) hc hE
      left
      rw [if_neg (by omega)] at e'
      exact ⟨_, e', rfl, hc', hE'⟩
    · obtain ⟨x, w⟩ := st
      obtain ⟨rfl, hc, hE⟩ := hI
      obtain ⟨w', e', hc', hE'⟩ := step _ w (Nat.le_refl _) hc hE
      rw [if_pos rfl] at e'
      exact ⟨_, e', rfl, hc', hE'⟩
  obtain ⟨⟨a, τ⟩, e, h1, h2, h3⟩ := key
  simp only at h1 h2 h3
  subst h1
  exact ⟨τ, e, h2, h3⟩
theorem xallOf (hs : RXS σ n nk nu lo) (h : RXV σ n i c s p o L) : ∃ τ, X12_allOf σ = some (nI (Hf n i (cfC nu 0 L) 0), τ) ∧ OrdIs (τ.1 13 41) n i (cfC nu 0 L) (popc i) ∧ (∀ j, j < 132 → τ.1 13 34 j = σ.1 13 34 j) ∧ Eqo CB σ τ := by
  have h8 := hs.n8
  have hi8 := p256 h8 h.ilt
  have hp8 := popc_le i
  have hcf : ∀ l S, cfC nu 0 L l S ≤ 1442 := fun l S => few_b hs.wf h.wl 0 l S
  obtain ⟨w0, e0, hC0, hc0, hE0⟩ := xrest hs h
  obtain ⟨b, w, e, hc, hE, hord, hC⟩ := loopI (f := X12_allOf_l118b (nI i)) (s := (0, 0, w0)) (popc i) (fun m (_ : Unit) (w : SS) => ((nI (sqF n i (cfC nu 0 L) m), nI m, w) : Int32 × Int32 × SS)) (fun _ w => w) (fun m _ w => (∀ j, j < 132 → w.1 13 34 j = σ.1 13 34 j) ∧ Eqo CB σ w ∧ OrdIs (w.1 13 41) n i (cfC nu 0 L) m ∧ RLx w n i (cfC nu 0 L) 0) () w0 rfl ⟨hc0, hE0, fun j hj => absurd hj (Nat.not_lt_zero _), hC0⟩ (by omega) (fun m b w hm hI => by
      obtain ⟨hc, hE, hord, hC⟩ := hI
      have hs' : RXS w n nk nu lo := hs.of hc
      have h' : RXV w n i c s p o L := h.of hc
      obtain ⟨sq1, sq2, sq3⟩ := sq_ok h8 h.ilt hcf m
      have hne := sq_ne h8 h.ilt hcf hm
      have hle := sq1.le
      obtain ⟨-, g1, g2, -, -⟩ := nx_ok h8 h.ilt hcf sq1 hne
      obtain ⟨w', e', hc', hE'⟩ := xfirst hs' h' sq1 hne hC (nI m)
      have hor : nI (sqF n i (cfC nu 0 L) m) ||| (1 <<< (nI (nxF n i (cfC nu 0 L) (sqF n i (cfC nu 0 L) m)) &&& 31)) = nI (sqF n i (cfC nu 0 L) (m + 1)) := by
        rw [show (1 : Int32) <<< (nI (nxF n i (cfC nu 0 L) (sqF n i (cfC nu 0 L) m)) &&& 31) = nI (2 ^ (nxF n i (cfC nu 0 L) (sqF n i (cfC nu 0 L) m))) from hsh (by omega), nI_or, sqF, if_neg hne]
      show ∃ b' w', X12_allOf_l118c w (nI i) (nI (sqF n i (cfC nu 0 L) m)) (nI m) = _ ∧ _
      unfold X12_allOf_l118c X12_allOf_l126
      rw [if_neg (fun y => hne ((nI_eq (by omega) (by omega)).mp y)), e', Option.bind_some, ck41 (by omega), Option.bind_some, Option.bind_some, nI_1, Option.bind_some, hor, Option.bind_some]
      refine ⟨(), _, rfl, fun j hj => ?_, (hE.tr (hE'.mono (fun _ _ _ q => .inl q))).tr (Eqo.wI (.inr ⟨rfl, .inr rfl⟩)), fun j hj => ?_, fun S hS hm => ?_⟩
      · rw [wI_ne _ _ (by omega)]
        exact (hc' j hj).trans (hc j hj)
      · by_cases z : j = m
        · subst z
          rw [wI_eq]
        · rw [wI_ne _ _ (by omega), hE'.at1 (by unfold CA CX XC FX; omega)]
          exact hord j (by omega)
      · rw [wI_ne _ _ (by omega), hE'.at1 (by unfold CA CX XC FX; omega)]
        exact hC S hS hm) (fun b w hI => by
      show X12_allOf_l118c w (nI i) (nI (sqF n i (cfC nu 0 L) (popc i))) (nI (popc i)) = _
      unfold X12_allOf_l118c
      rw [(sq_ok h8 h.ilt hcf (popc i)).2.2 (Nat.le_refl _), if_pos rfl])
  refine ⟨w, ?_, hord, hc, hE⟩
  unfold X12_allOf X12_allOf_j0 X12_allOf_l9 X12_allOf_l118
  rw [ck3, Option.bind_some, h.ins, Option.bind_some, e0, Option.bind_some, e, Option.bind_some, show (0 : Int32) = nI 0 from rfl, ck40' (by decide), Option.bind_some, hC 0 (fun k hk => by rw [Nat.zero_testBit] at hk; cases hk) (Nat.le_refl _)]
end XA
