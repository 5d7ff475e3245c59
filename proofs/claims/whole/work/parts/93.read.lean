/-! ===== TEXTS: a drawer as it is read ===== -/
/-- drawer 1 of the class, block 4 of the reference -/
def DT (n nk : Nat) (nu : Nat → Nat → Nat) (lo : Nat → Nat) (c : Nat) (L : List X3) (σ υ : SS) : Prop := RS σ 1 n nk nu lo ∧ RV σ 1 n (2 ^ n - 1) c 0 0 0 L ∧ RXS (shb 4 υ) n nk nu lo ∧ RXV (shb 4 υ) n (2 ^ n - 1) c 0 0 0 L ∧ (∀ l, l < n → σ.2 14 1 l = υ.2 14 7 (44 + l)) ∧ (∀ k, k < nk → σ.2 14 1 (8 + k) = υ.2 14 7 (52 + k)) ∧ (∀ w l, (w = 1 ∨ w = 4 ∨ w = 5) → n ≤ l → l < 8 → υ.1 13 34 (1640 + (8 + 8 * w + l)) = 0) ∧ σ.1 8 1 1 = 0 ∧ υ.1 13 34 1772 = 0 ∧ σ.1 0 1 9 = nI c
/-- what the two readers touch -/
def CF : Nat → Nat → Nat → Prop := fun k n j => NCf k n j ∨ DC 1 k n j
def XF : Nat → Nat → Nat → Prop := fun k n j => NXf k n j ∨ PC 4 k n j
theorem NC_CF {σ τ : SS} (h : Eqo NC σ τ) : Eqo CF σ τ := h.mono (fun _ _ _ q => .inl (.inl q))
theorem NX_XF {σ τ : SS} (h : Eqo NX σ τ) : Eqo XF σ τ := h.mono (fun _ _ _ q => .inl (.inl q))
theorem NCf_CF {σ τ : SS} (h : Eqo NCf σ τ) : Eqo CF σ τ := h.mono (fun _ _ _ q => .inl q)
theorem NXf_XF {σ τ : SS} (h : Eqo NXf σ τ) : Eqo XF σ τ := h.mono (fun _ _ _ q => .inl q)
theorem DC_CF {σ τ : SS} (h : Eqo (DC 1) σ τ) : Eqo CF σ τ := h.mono (fun _ _ _ q => .inr q)
theorem PC_XF {σ τ : SS} (h : Eqo (PC 4) σ τ) : Eqo XF σ τ := h.mono (fun _ _ _ q => .inr q)
theorem eqw2 {P : Nat → Nat → Nat → Prop} {σ τ : SS} (h : Eqo P σ τ) (k n j : Nat) (x : Int32) : Eqo P (wI σ k n j x) (wI τ k n j x) := by
  refine ⟨fun a b c q => ?_, fun a b c q => h.2 a b c q⟩
  by_cases e : a = k ∧ b = n ∧ c = j
  · obtain ⟨rfl, rfl, rfl⟩ := e
    rw [wI_eq, wI_eq]
  · rw [wI_ne _ _ e, wI_ne _ _ e]
    exact h.1 a b c q
/-- the outcome of a reader's piece -/
def Out (B : Nat → Nat) (S : Nat) (Y : SS → SS → Prop) (w : Int32) (σ υ : SS) : Prop := (w = 1 ∧ Gon B S σ υ ∧ Y σ υ) ∨ (w = 0 ∧ Flt σ υ)
section RD
variable {σ υ σ' υ' : SS} {n nk c : Nat} {nu : Nat → Nat → Nat} {lo : Nat → Nat} {L : List X3} {B : Nat → Nat} {S a : Nat} {P Q : Nat → Nat → Nat → Prop}
theorem DT.keep (h : DT n nk nu lo c L σ υ) (hE : Eqo P σ σ') (hE2 : Eqo Q υ υ') (hP : ∀ k m j, P k m j → ¬ DC 1 k m j) (hQ : ∀ k m j, Q k m j → ¬ PC 4 k m j) : DT n nk nu lo c L σ' υ' := by
  obtain ⟨h1, h2, h3, h4, h5, h6, h7, h8, h9, h10⟩ := h
  have hn := h1.n8
  have hk := h1.k3
  have e : ∀ j, 1640 ≤ j → j < 2050 → υ'.1 13 34 j = υ.1 13 34 j := fun j a b => hE2.at1 (fun q => hQ _ _ _ q (by unfold PC; omega))
  have e4 : ∀ j, j < 132 → (shb 4 υ').1 13 34 j = (shb 4 υ).1 13 34 j := fun j hj => by rw [shb_at, shb_at]; exact e _ (by omega) (by omega)
  refine ⟨h1.keep hE (fun k m j q z => hP _ _ _ q (by unfold DC; omega)), h2.keep hE (fun k m j q z => hP _ _ _ q (by unfold DC; omega)), h3.of e4, h4.of e4, fun l hl => ?_, fun k hkk => ?_, fun w l hw h1 h2 => ?_, ?_, ?_, ?_⟩
  · rw [hE.2 _ _ _ (fun q => hP _ _ _ q (by unfold DC; omega)), hE2.2 _ _ _ (fun q => hQ _ _ _ q (by unfold PC; omega))]
    exact h5 l hl
  · rw [hE.2 _ _ _ (fun q => hP _ _ _ q (by unfold DC; omega)), hE2.2 _ _ _ (fun q => hQ _ _ _ q (by unfold PC; omega))]
    exact h6 k hkk
  · rw [e _ (by omega) (by omega)]
    exact h7 w l hw h1 h2
  · rw [hE.at1 (fun q => hP _ _ _ q (by unfold DC; omega))]
    exact h8
  · rw [e _ (by omega) (by omega)]
    exact h9
  · rw [hE.at1 (fun q => hP _ _ _ q (by unfold DC; omega))]
    exact h10
theorem DT.ncf (h : DT n nk nu lo c L σ υ) (hE : Eqo NCf σ σ') (hE2 : Eqo NXf υ υ') : DT n nk nu lo c L σ' υ' := h.keep hE hE2 (fun k m j q => by unfold NCf NC at q; unfold DC; omega) (fun k m j q => by unfold NXf NX at q; unfold PC; omega)
theorem DT.nc (h : DT n nk nu lo c L σ υ) (hE : Eqo NC σ σ') (hE2 : Eqo NX υ υ') : DT n nk nu lo c L σ' υ' := h.ncf (NC_NCf hE) (NX_NXf hE2)
theorem TK.dx (h : TK B S a σ υ) (hE : Eqo (DC 1) σ σ') (hE2 : Eqo (PC 4) υ υ') : TK B S a σ' υ' := h.keep hE hE2 (fun k n j q => by unfold DC at q; omega) (fun k n j q => by unfold PC at q; omega)
theorem Gon.dx (h : Gon B S σ υ) (hE : Eqo (DC 1) σ σ') (hE2 : Eqo (PC 4) υ υ') : Gon B S σ' υ' := by
  obtain ⟨⟨a, h⟩, h12⟩ := h
  exact ⟨⟨a, h.dx hE hE2⟩, (hE2.at1 (by unfold PC; omega)).trans h12⟩
theorem Flt.dx (h : Flt σ υ) (hE : Eqo (DC 1) σ σ') (hE2 : Eqo (PC 4) υ υ') : Flt σ' υ' := by
  obtain ⟨f, h1, h2, h3, h4, h5⟩ := h
  exact ⟨f, h1, h2, (hE.at1 (by unfold DC; omega)).trans h3, (hE2.at1 (by unfold PC; omega)).trans h4, by rw [hE.at1 (by unfold DC; omega), hE2.at1 (by unfold PC; omega)]; exact h5⟩
/-- a fault's cells alone -/
theorem Flt.eq (h : Flt σ υ) (h7 : σ'.1 4 0 7 = σ.1 4 0 7) (h8 : σ'.1 4 0 8 = σ.1 4 0 8) (h12 : υ'.1 11 0 12 = υ.1 11 0 12) (h13 : υ'.1 11 0 13 = υ.1 11 0 13) : Flt σ' υ' := by
  obtain ⟨f, h1, h2, h3, h4, h5⟩ := h
  exact ⟨f, h1, h2, h7.trans h3, h12.trans h4, by rw [h8, h13]; exact h5⟩
theorem DT.names (h : DT n nk nu lo c L σ υ) (y : Int64) : fnN (fun l => υ.2 14 7 (11 * 4 + l)) n y = fnN (fun l => σ.2 14 1 l) n y ∧ fnN (fun k => υ.2 14 7 (52 + k)) nk y = fnN (fun k => σ.2 14 1 (8 + k)) nk y := ⟨fnN_congr y (fun l hl => (h.2.2.2.2.1 l hl).symm), fnN_congr y (fun k hk => (h.2.2.2.2.2.1 k hk).symm)⟩
theorem DT.x0 (h : DT n nk nu lo c L σ υ) : υ.1 13 34 1640 = nI n ∧ υ.1 13 34 1641 = nI L.length ∧ υ.1 13 34 1642 = nI nk ∧ υ.1 13 34 1643 = nI (2 ^ n - 1) ∧ υ.1 13 34 1644 = nI c := by
  obtain ⟨-, -, h3, h4, -⟩ := h
  have a0 := h3.ln
  have a1 := h4.len
  have a2 := h3.lk
  have a3 := h4.ins
  have a4 := h4.clp
  rw [shb_at] at a0 a1 a2 a3 a4
  exact ⟨a0, a1, a2, a3, a4⟩
theorem DT.c256 (h : DT n nk nu lo c L σ υ) : c < 256 := by
  obtain ⟨r, hr, -, e⟩ := h.2.1.raw
  rw [← e]
  exact Nat.lt_of_le_of_lt Nat.and_le_left hr
/-- a name that is new; the reader stands at the word ahead of it -/
theorem new_ok (h : TK B S a σ υ) (h12 : υ.1 11 0 12 = 0) (hD : DT n nk nu lo c L σ υ) {p : Nat} (hp : p < 11) : (∃ σ1 σ2 υ', X5_next σ = some σ1 ∧ X1_newNameStands σ1 1 = some (0, σ2) ∧ X12_readNew υ (nI p) = some υ' ∧ Flt σ2 υ' ∧ Eqo NCf σ σ2 ∧ Eqo NXf υ υ') ∨ (∃ σ1 y υ1 a', X5_next σ = some σ1 ∧ X1_newNameStands σ1 1 = some (1, σ1) ∧ X5_name σ1 = some y ∧ X12_readNew υ (nI p) = (X12_next (wJ υ1 14 7 (44 + p) y)).bind (fun z => some z) ∧ TK B S a' σ1 υ1 ∧ υ1.1 11 0 12 = 0 ∧ Eqo NC σ σ1 ∧ Eqo NX υ υ1) := by
  obtain ⟨a', σ1, υ1, e1, e2, hT, E1, E2⟩ := h.next
  have x12 : υ1.1 11 0 12 = 0 := (E2.at1 (by unfold NX; omega)).trans h12
  have hD1 := hD.nc E1 E2
  have hn := hD1.1.n8
  have hk3 := hD1.1.k3
  rcases names_ok hT with ⟨g1, g2, g3, g4, g5⟩ | ⟨g1, g2, g3⟩
  · generalize cdF B a' (tkZ B S a' - a') = y at *
    have ht := isTaken_ok (σ := σ1) (d := 1) (by decide) hD1.1.ln hn hD1.1.lk hk3 y
    have hl := xleadNamed_ok (υ := υ1) (b := 4) (by decide) hD1.x0.1 hn
    have hk := xisLookNamed_ok (υ := υ1) hD1.x0.2.2.1 hk3
    rw [g5] at hl hk
    have nm := hD1.names y
    rw [nm.1] at hl
    rw [nm.2] at hk
    have hm := fnN_m1 (f := fun l => σ1.2 14 1 l) (n := n) (y := y) hn
    have h44 : ck (LN 14 7) (44 + nI p) = some (44 + p) := by
      rw [show (44 : Int32) + nI p = nI (44 + p) from nI_add 44 p, show LN 14 7 = 55 by decide, ck_nI (by omega) (by decide)]
    by_cases q : fnN (fun k => σ1.2 14 1 (8 + k)) nk y = none ∧ fnN (fun l => σ1.2 14 1 l) n y = none
    · refine .inr ⟨σ1, y, υ1, a', e1, ?_, g4, ?_, hT, x12, E1, E2⟩
      · unfold X1_newNameStands X1_newNameStands_j0
        rw [g2, Option.bind_some, if_neg neg1_0, g4, Option.bind_some, ht, Option.bind_some, if_pos q, if_pos rfl]
      · unfold X12_readNew X12_readNew_j0 X12_readNew_j15 X12_readNew_j46
        have hl' : X12_leadNamed υ1 4 = _ := hl
        rw [e2, Option.bind_some, g3, Option.bind_some, if_neg neg1_0, if_pos x12, hl', Option.bind_some, if_neg (fun z => hm.2.mp z q.2), hk, Option.bind_some, if_pos q.1, if_pos rfl, x12, if_pos (by decide), h44, Option.bind_some, g5, Option.bind_some]
    · have hk4 : tkK B S a' ≠ 4 := by rw [g1.1]; decide
      obtain ⟨σ2, υ2, f1, f2, f3, f4, f5⟩ := hT.fail x12 (x := 3) (by decide) hk4
      have f1' : X5_fail σ1 3 = some (0, σ2) := f1
      have f2' : X12_fail υ1 3 (υ1.1 11 0 15) = some υ2 := f2
      refine .inl ⟨σ1, σ2, υ2, e1, ?_, ?_, f3, (NC_NCf E1).tr f4, (NX_NXf E2).tr f5⟩
      · unfold X1_newNameStands X1_newNameStands_j0
        rw [g2, Option.bind_some, if_neg neg1_0, g4, Option.bind_some, ht, Option.bind_some, if_neg q, if_neg neg1_0, f1', Option.bind_some]
        rfl
      · unfold X12_readNew X12_readNew_j0 X12_readNew_j15 X12_readNew_j37 X12_readNew_j46
        have hl' : X12_leadNamed υ1 4 = _ := hl
        rw [e2, Option.bind_some, g3, Option.bind_some, if_neg neg1_0, if_pos x12, hl', Option.bind_some, f2', Option.bind_some, if_neg f3.pos.2.1, hk, Option.bind_some]
        by_cases y1 : fnN (fun l => σ1.2 14 1 l) n y = none
        · rw [if_neg (fun z => hm.2.mp z y1), if_neg (fun z => q ⟨z, y1⟩), if_neg neg1_0]
        · rw [if_pos (hm.2.mpr y1)]
  · obtain ⟨σ2, υ2, f1, f2, f3, f4, f5⟩ := hT.wrong x12
    refine .inl ⟨σ1, σ2, υ2, e1, ?_, ?_, f3, (NC_NCf E1).tr f4, (NX_NXf E2).tr f5⟩
    · unfold X1_newNameStands X1_newNameStands_j0
      rw [g2, Option.bind_some, if_pos rfl, f1, Option.bind_some]
      rfl
    · unfold X12_readNew X12_readNew_j0 X12_readNew_j15 X12_readNew_j46
      rw [e2, Option.bind_some, g3, Option.bind_some, if_pos rfl, f2, Option.bind_some, if_neg f3.pos.2.2, if_neg f3.pos.2.1]
end RD
