/-! ===== LIFE: one STEP, both sides ===== -/
/-- what a plain STEP is, on both sides -/
def PlC (n w k : Nat) (f1 g1 : Int32) : Prop := (w = 12 ∧ k = 0 ∧ ∃ m, m < 100000 ∧ f1 = nI m ∧ g1 = nI m) ∨ (w = 14 ∧ k = 2) ∨ ∃ m, m < n ∧ f1 = nI m ∧ g1 = nI m ∧ ((w = 13 ∧ k = 1) ∨ (w = 15 ∧ k = 3) ∨ (w = 17 ∧ k = 4) ∨ (w = 6 ∧ k = 5))
/-- what a test is -/
def TsC (n w k : Nat) (f1 f2 g1 g2 g7 : Int32) : Prop := (w = 20 ∧ k = 2 ∧ ∃ m, m < n ∧ f1 = nI m ∧ g1 = nI m) ∨ (((w = 19 ∧ k = 0) ∨ (w = 7 ∧ k = 1)) ∧ f1 = g2 ∧ f2 = g7)
theorem T_ln {d : Nat} (hd : d < 5) : TR (4 * d) = 4 ∧ TW (4 * d) = 60 := by
  match d, hd with
  | 0, _ => decide
  | 1, _ => decide
  | 2, _ => decide
  | 3, _ => decide
  | 4, _ => decide
theorem line_at (σ : SS) {d : Nat} (hd : d < 5) (r : Nat) (hr : r < 4) {l : Nat} (hl : l < 60) : X4_at σ (4 * d) (nI r) (nI l) = some (σ.1 13 (4 * d) (60 * r + l)) := by
  rw [at_ok σ (by omega) (by rw [(T_ln hd).1]; exact hr) (by rw [(T_ln hd).2]; exact hl), (T_ln hd).2, Nat.mul_comm r 60]
theorem lword_at (σ : SS) {d : Nat} (hd : d < 5) {l : Nat} (hl : l < 60) : X9_wordAt σ d (nI l) = some (σ.1 13 (4 * d) l) := by
  unfold X9_wordAt X9_wordAt_j0
  have := line_at σ hd 0 (by decide) hl
  rw [Nat.mul_zero, Nat.zero_add] at this
  rw [show (0 : Int32) = nI 0 from rfl, this, Option.bind_some]
theorem lnum_at (σ : SS) {d : Nat} (hd : d < 5) {l : Nat} (hl : l < 60) : X9_numberAt σ d (nI l) = some (σ.1 13 (4 * d) (60 + l)) := by
  unfold X9_numberAt X9_numberAt_j0
  have := line_at σ hd 1 (by decide) hl
  rw [show (1 : Int32) = nI 1 from rfl, this, Option.bind_some]
theorem lcmp_at (σ : SS) {d : Nat} (hd : d < 5) {l : Nat} (hl : l < 60) : X9_comparesAt σ d (nI l) = some (σ.1 13 (4 * d) (120 + l)) := by
  unfold X9_comparesAt X9_comparesAt_j0
  have := line_at σ hd 2 (by decide) hl
  rw [show (2 : Int32) = nI 2 from rfl, this, Option.bind_some]
theorem lpart_at (σ : SS) {d : Nat} (hd : d < 5) {l : Nat} (hl : l < 60) : X9_partnerOf σ d (nI l) = some (σ.1 13 (4 * d) (180 + l)) := by
  unfold X9_partnerOf X9_partnerOf_j0
  have := line_at σ hd 3 (by decide) hl
  rw [show (3 : Int32) = nI 3 from rfl, this, Option.bind_some]
theorem T_30 : TR 30 = 1 ∧ TW 30 = 60 := by decide
theorem turn_at (σ : SS) {l : Nat} (hl : l < 60) : X4_at σ 30 0 (nI l) = some (σ.1 13 30 l) := by
  have := at_ok σ (t := 30) (r := 0) (c := l) (by decide) (by decide) (by rw [T_30.2]; exact hl)
  rw [Nat.zero_mul, Nat.zero_add] at this
  exact this
theorem turn_put (σ : SS) {l : Nat} (hl : l < 60) (x : Int32) : X4_put σ 30 0 (nI l) x = some (wI σ 13 30 l x) := by
  have := put_ok σ (t := 30) (r := 0) (c := l) x (by decide) (by decide) (by rw [T_30.2]; exact hl)
  rw [Nat.zero_mul, Nat.zero_add] at this
  exact this
section SP1
variable {σ υ : SS} {d n nk i c q : Nat} {s p o : Int32} {nu : Nat → Nat → Nat} {lo : Nat → Nat} {L : List X3}
theorem wne {a b : Nat} (h : a ≠ b) (ha : a < 1000) (hb : b < 1000) : ¬ nI a = nI b := fun z => h ((nI_eq (by omega) (by omega)).mp z)
/-- what the reference's plain STEP adds to the skipped: nothing -/
theorem skip_no (h : JE d n nk nu lo σ υ) {x : Int32} (hx : υ.1 11 0 45 = x) : JE d n nk nu lo σ (wI υ 11 0 45 (x + (if (1 : Int32) = 0 then 1 else 0))) := by
  obtain ⟨i, c, s, p, o, L, q, h⟩ := h
  rw [if_neg (by decide), Int32.add_zero, ← hx]
  have e2 : Eqo (fun a b j => a = 11 ∧ b = 0 ∧ j = 45) υ (wI υ 11 0 45 (υ.1 11 0 45)) := Eqo.wI ⟨rfl, rfl, rfl⟩
  refine ⟨i, c, s, p, o, L, q, h.rs, h.rv, h.dr, h.xs.keep e2 (fun j q => by omega), h.xv.keep e2 (fun j q => by omega), h.dx.keep e2 (by omega), fun m hm => ?_⟩
  rw [h.2.2.2.2.2.2 m hm]
  by_cases z : m = 0
  · subst z
    rw [wI_eq]
  · rw [wI_ne _ _ (by omega)]
/-- or one -/
theorem skip_one (h : JE d n nk nu lo σ υ) (hd : d < 5) : JE d n nk nu lo (wI σ 13 28 0 (σ.1 13 28 0 + 1)) (wI υ 11 0 45 (υ.1 11 0 45 + (if (0 : Int32) = 0 then 1 else 0))) := by
  obtain ⟨i, c, s, p, o, L, q, h⟩ := h
  rw [if_pos rfl]
  have e1 : Eqo (fun a b _ => a = 13 ∧ b = 28) σ (wI σ 13 28 0 (σ.1 13 28 0 + 1)) := Eqo.wI ⟨rfl, rfl⟩
  have e2 : Eqo (fun a b j => a = 11 ∧ b = 0 ∧ j = 45) υ (wI υ 11 0 45 (υ.1 11 0 45 + 1)) := Eqo.wI ⟨rfl, rfl, rfl⟩
  refine ⟨i, c, s, p, o, L, q, h.rs.keep e1 (fun k m j q => by omega), h.rv.keep e1 (fun k m j q => by omega), h.dr.keep e1 (by omega), h.xs.keep e2 (fun j q => by omega), h.xv.keep e2 (fun j q => by omega), h.dx.keep e2 (by omega), fun m hm => ?_⟩
  by_cases z : m = 0
  · subst z
    rw [wI_eq, wI_eq, h.2.2.2.2.2.2 0 hm]
  · rw [wI_ne _ _ (by omega), wI_ne _ _ (by omega)]
    exact h.2.2.2.2.2.2 m hm
/-- the reference's STEP at a place -/
theorem does_eq (υ : SS) {s0 k : Nat} (hs : s0 < 30) (hk : υ.1 13 34 (134 + 9 * s0) = nI k) : X12_does υ (nI (134 + 9 * s0)) = if nI k = 0 then X12_does_l23 υ (υ.1 13 34 (135 + 9 * s0)) 0 else (if nI k = 2 then ((X12_loosensOnce υ).bind fun p66 => some (1, p66.2)) else ((X12_isInside υ (υ.1 13 34 (135 + 9 * s0))).bind fun v74 => if v74 = 0 then some (0, υ) else (if nI k = 1 then ((X12_takes υ (υ.1 13 34 (135 + 9 * s0))).bind fun σ89 => some (1, σ89)) else (if nI k = 3 then ((X12_pulls υ (υ.1 13 34 (135 + 9 * s0))).bind fun σ102 => some (1, σ102)) else (if nI k = 4 then ((X12_cuts υ (υ.1 13 34 (135 + 9 * s0))).bind fun p115 => some (1, p115.2)) else ((X12_clips2 υ (υ.1 13 34 (135 + 9 * s0))).bind fun p124 => (zb p124.1).bind fun b127 => some (p124.1, p124.2))))))) := by
  unfold X12_does X12_does_j0
  rw [ckc (by omega), Option.bind_some, hk, Option.bind_some, nI_1, ckc (by omega), Option.bind_some, show 134 + 9 * s0 + 1 = 135 + 9 * s0 by omega, Option.bind_some]
/-- the reference's frame of one STEP -/
def LXs : Nat → Nat → Nat → Prop := fun k n j => LX k n j ∨ (k = 11 ∧ n = 0 ∧ j = 45)
theorem LX_LXs {σ τ : SS} (h : Eqo LX σ τ) : Eqo LXs σ τ := h.mono (fun _ _ _ q => .inl q)
theorem plain_ok (hd : d < 5) (hJ : JE d n nk nu lo σ υ) {F G : Nat → Int32} (hF : ∀ j, σ.1 13 (4 * d) j = F j) (hG : ∀ j, 132 ≤ j → υ.1 13 34 j = G j) {s0 l w k : Nat} (hs : s0 < 30) (hl : l < 60) (hw : F l = nI w) (hk : G (134 + 9 * s0) = nI k) (hp : PlC n w k (F (60 + l)) (G (135 + 9 * s0))) : ∃ r σ' υ', X2_behindStep σ d (nI l) = some (nI (l + 1), σ') ∧ X12_does υ (nI (134 + 9 * s0)) = some (r, υ') ∧ JE d n nk nu lo σ' (wI υ' 11 0 45 (υ.1 11 0 45 + (if r = 0 then 1 else 0))) ∧ Eqo (LC d) σ σ' ∧ Eqo LXs υ (wI υ' 11 0 45 (υ.1 11 0 45 + (if r = 0 then 1 else 0))) := by
  obtain ⟨i, c, s, p, o, L, q, h⟩ := hJ
  have hX : ∀ {τ : SS}, Eqo LX υ τ → ∀ x, Eqo LXs υ (wI τ 11 0 45 x) := fun hE x => (LX_LXs hE).tr (Eqo.wI (by unfold LXs; omega))
  have h45 : ∀ {τ : SS}, Eqo LX υ τ → τ.1 11 0 45 = υ.1 11 0 45 := fun hE => hE.at1 (by unfold LX XO XC FX; omega)
  rw [does_eq υ hs ((hG _ (by omega)).trans hk), hG _ (by omega)]
  unfold X2_behindStep X2_behindStep_j0
  rw [lword_at σ hd hl, Option.bind_some, lnum_at σ hd hl, Option.bind_some, hF, hF, hw]
  rcases hp with ⟨z1, z2, m, hm, f1, g1⟩ | ⟨z1, z2⟩ | ⟨m, hm, f1, g1, hz⟩
  · subst z1
    subst z2
    obtain ⟨σ', υ', a1, a2, a3, a4, a5⟩ := eff_open hd h hm
    refine ⟨1, σ', υ', ?_, ?_, skip_no a3 (h45 a5), a4, hX a5 _⟩
    · rw [if_neg (by decide), if_neg (by decide), if_neg (by decide), if_neg (by decide), if_pos (by decide), f1, a1, Option.bind_some]
      unfold X2_behindStep_j212
      rw [nI_1]
    · rw [if_pos (by decide), g1, a2]
  · subst z1
    subst z2
    obtain ⟨r, σ', υ', a1, a2, a3, a4, a5⟩ := eff_loosen hd h
    refine ⟨1, σ', υ', ?_, ?_, skip_no a3 (h45 a5), a4, hX a5 _⟩
    · rw [if_neg (by decide), if_neg (by decide), if_neg (by decide), if_neg (by decide), if_neg (by decide), if_pos (by decide), a1, Option.bind_some]
      unfold X2_behindStep_j212
      rw [nI_1]
    · rw [if_neg (by decide), if_pos (by decide), a2, Option.bind_some]
  · rw [f1, g1, isIn_in h.rs h.rv hm, Option.bind_some, xisInside h.xs h.xv hm, Option.bind_some]
    have hw6 : w < 1000 ∧ ¬ w = 19 ∧ ¬ w = 7 ∧ ¬ w = 20 ∧ ¬ w = 21 ∧ ¬ w = 12 ∧ ¬ w = 14 ∧ k < 1000 ∧ ¬ k = 0 ∧ ¬ k = 2 := by omega
    obtain ⟨b0, b1, b2, b3, b4, b5, b6, c0, c1, c2⟩ := hw6
    rw [if_neg (show ¬ nI w = 19 from wne b1 b0 (by decide)), if_neg (show ¬ nI w = 7 from wne b2 b0 (by decide)), if_neg (show ¬ nI w = 20 from wne b3 b0 (by decide)), if_neg (show ¬ nI w = 21 from wne b4 b0 (by decide)), if_neg (show ¬ nI w = 12 from wne b5 b0 (by decide)), if_neg (show ¬ nI w = 14 from wne b6 b0 (by decide)), if_neg (show ¬ nI k = 0 from wne c1 c0 (by decide)), if_neg (show ¬ nI k = 2 from wne c2 c0 (by decide))]
    have e140 : X2_behindStep_j140 σ d (nI l) = some (nI (l + 1), wI σ 13 28 0 (σ.1 13 28 0 + 1)) := by
      unfold X2_behindStep_j140 X2_behindStep_j212
      rw [show X2_add σ 0 1 = some (wI σ 13 28 0 (σ.1 13 28 0 + 1)) from add_ok σ (k := 0) (by decide) 1, Option.bind_some, nI_1]
    have eLC : Eqo (LC d) σ (wI σ 13 28 0 (σ.1 13 28 0 + 1)) := Eqo.wI (by unfold LC; omega)
    by_cases y : i.testBit m = true
    · rw [if_pos y, if_neg neg1_0, if_neg neg1_0]
      rcases hz with ⟨z1, z2⟩ | ⟨z1, z2⟩ | ⟨z1, z2⟩ | ⟨z1, z2⟩
      · subst z1
        subst z2
        obtain ⟨σ', υ', a1, a2, a3, a4, a5⟩ := eff_take hd h hm y
        refine ⟨1, σ', υ', ?_, ?_, skip_no a3 (h45 a5), a4, hX a5 _⟩
        · rw [if_neg (by decide)]
          unfold X2_behindStep_j149 X2_behindStep_j212
          rw [if_pos (by decide), a1, Option.bind_some, nI_1]
        · rw [if_pos (by decide), a2, Option.bind_some]
      · subst z1
        subst z2
        obtain ⟨v, σ', υ', a0, a1, a2, a3, a4, a5⟩ := eff_pull hd h hm y
        refine ⟨1, σ', υ', ?_, ?_, skip_no a3 (h45 a5), a4, hX a5 _⟩
        · rw [if_neg (by decide)]
          unfold X2_behindStep_j149 X2_behindStep_j212
          rw [if_neg (by decide), if_pos (by decide), a0, Option.bind_some, a1, Option.bind_some, nI_1]
        · rw [if_neg (by decide), if_pos (by decide), a2, Option.bind_some]
      · subst z1
        subst z2
        obtain ⟨r, σ', υ', a1, a2, a3, a4, a5⟩ := eff_cut hd h hm
        refine ⟨1, σ', υ', ?_, ?_, skip_no a3 (h45 a5), a4, hX a5 _⟩
        · rw [if_neg (by decide)]
          unfold X2_behindStep_j149 X2_behindStep_j212
          rw [if_neg (by decide), if_neg (by decide), if_pos (by decide), a1, Option.bind_some, nI_1]
        · rw [if_neg (by decide), if_neg (by decide), if_pos (by decide), a2, Option.bind_some]
      · subst z1
        subst z2
        rcases eff_clip hd h hm with ⟨a1, a2⟩ | ⟨a1, σ', υ', a2, a3, a4, a5, a6⟩
        · refine ⟨0, _, υ, ?_, ?_, skip_one h.je hd, eLC, hX (Eqo.rf _ _) _⟩
          · rw [if_pos (by decide), a1, Option.bind_some, if_pos rfl, e140]
          · rw [if_neg (by decide), if_neg (by decide), if_neg (by decide), a2, Option.bind_some]
            rfl
        · refine ⟨1, σ', υ', ?_, ?_, skip_no a4 (h45 a6), a5, hX a6 _⟩
          · rw [if_pos (by decide), a1, Option.bind_some, if_neg (by decide)]
            unfold X2_behindStep_j149 X2_behindStep_j212
            rw [if_neg (by decide), if_neg (by decide), if_neg (by decide), a2, Option.bind_some, nI_1]
          · rw [if_neg (by decide), if_neg (by decide), if_neg (by decide), a3, Option.bind_some]
            rfl
    · rw [if_neg y, if_pos rfl, if_pos rfl]
      exact ⟨0, _, υ, e140, rfl, skip_one h.je hd, eLC, hX (Eqo.rf _ _) _⟩
/-- a test says the same on both sides -/
theorem test_ok (hd : d < 5) (hJ : JE d n nk nu lo σ υ) {F G : Nat → Int32} (hF : ∀ j, σ.1 13 (4 * d) j = F j) (hG : ∀ j, 132 ≤ j → υ.1 13 34 j = G j) {s0 l w k : Nat} (hs : s0 < 30) (hl : l < 60) (hw : F l = nI w) (hk : G (140 + 9 * s0) = nI k) (hp : TsC n w k (F (60 + l)) (F (120 + l)) (G (135 + 9 * s0)) (G (136 + 9 * s0)) (G (141 + 9 * s0))) : ∃ v, (v = 0 ∨ v = 1) ∧ X2_holds σ d (nI l) = some v ∧ X12_isSo υ (nI (134 + 9 * s0)) = some v := by
  obtain ⟨i, c, s, p, o, L, q, h⟩ := hJ
  have h24 := h.rv.l24
  have h8 := h.rs.n8
  unfold X2_holds X2_holds_j0 X12_isSo X12_isSo_j0
  rw [lword_at σ hd hl, Option.bind_some, lnum_at σ hd hl, Option.bind_some, hF, hF, hw, show (6 : Int32) = nI 6 from rfl, nI_add, ckc (by omega), Option.bind_some, hG _ (by omega), show 134 + 9 * s0 + 6 = 140 + 9 * s0 by omega, hk, Option.bind_some, nI_1, ckc (by omega), Option.bind_some, hG _ (by omega), show 134 + 9 * s0 + 1 = 135 + 9 * s0 by omega]
  rcases hp with ⟨z1, z2, m, hm, f1, g1⟩ | ⟨hz, f1, f2⟩
  · subst z1
    subst z2
    refine ⟨if i.testBit m = true ∧ cnt L m = 0 then 1 else 0, by split <;> simp, ?_, ?_⟩
    · rw [if_pos (by decide), f1, isFree_in hd h.rs h.rv hm, Option.bind_some]
      split <;> rfl
    · rw [if_pos (by decide), g1, xisFree h.xs h.xv hm, Option.bind_some]
      split <;> rfl
  · have e51 : ∀ x : Int32, X2_holds_j51 σ d (nI l) (F (60 + l)) x = X12_isSo_j46 υ (nI (134 + 9 * s0)) x ∧ ∃ v, (v = 0 ∨ v = 1) ∧ X2_holds_j51 σ d (nI l) (F (60 + l)) x = some v := fun x => by
      have c7 : ck (LN 13 34) (nI (134 + 9 * s0) + 7) = some (141 + 9 * s0) := by
        rw [show (7 : Int32) = nI 7 from rfl, nI_add, ckc (by omega), show 134 + 9 * s0 + 7 = 141 + 9 * s0 by omega]
      have c2 : ck (LN 13 34) (nI (134 + 9 * s0) + 2) = some (136 + 9 * s0) := by
        rw [show (2 : Int32) = nI 2 from rfl, nI_add, ckc (by omega), show 134 + 9 * s0 + 2 = 136 + 9 * s0 by omega]
      have hA : υ.1 13 34 (141 + 9 * s0) = F (120 + l) := (hG _ (by omega)).trans f2.symm
      have hB : υ.1 13 34 (136 + 9 * s0) = F (60 + l) := (hG _ (by omega)).trans f1.symm
      unfold X2_holds_j51 X12_isSo_j46
      rw [lcmp_at σ hd hl, Option.bind_some, hF]
      simp only [c7, c2, Option.bind_some, hA, hB]
      refine ⟨trivial, ?_⟩
      split
      · split
        · exact ⟨0, .inl rfl, rfl⟩
        · exact ⟨1, .inr rfl, rfl⟩
      · split
        · split
          · exact ⟨0, .inl rfl, rfl⟩
          · exact ⟨1, .inr rfl, rfl⟩
        · split
          · exact ⟨1, .inr rfl, rfl⟩
          · exact ⟨0, .inl rfl, rfl⟩
    rcases hz with ⟨z1, z2⟩ | ⟨z1, z2⟩
    · subst z1
      subst z2
      obtain ⟨a1, v, hv, a2⟩ := e51 (nI (largestF n i L))
      refine ⟨v, hv, ?_, ?_⟩
      · have hi8 := p256 h8 h.rv.ilt
        rw [if_neg (by decide), if_neg (by decide), inside_ok h.rv, Option.bind_some, (largest_ok hd h.rs h.rv hi8).1, Option.bind_some, a2]
      · rw [if_neg (by decide), if_pos (by decide), (xlargest h.xs h.xv).1, Option.bind_some, ← a1, a2]
    · subst z1
      subst z2
      obtain ⟨a1, v, hv, a2⟩ := e51 (nI L.length)
      refine ⟨v, hv, ?_, ?_⟩
      · rw [if_neg (by decide), if_pos (by decide)]
        unfold X0_crossingCount X0_crossingCount_j0
        rw [Option.bind_some, h.rv.len, a2]
      · rw [if_neg (by decide), if_neg (by decide), ck1, Option.bind_some, h.xv.len, ← a1, a2]
end SP1
