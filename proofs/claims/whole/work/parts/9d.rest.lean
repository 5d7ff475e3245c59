/-! ===== TEXTS: what a STEP holds ===== -/
def NA (l : Nat) : Nat → Nat → Nat → Prop := fun k m j => NCf k m j ∨ AS l k m j
def NW (W : Nat) : Nat → Nat → Nat → Prop := fun k m j => NXf k m j ∨ (k = 13 ∧ m = 34 ∧ W < j ∧ j < W + 8)
def RestY (n kw kk : Nat) (f g : Int32) : Prop := (kw = 23 ∧ kk = 8) ∨ (kw = 21 ∧ kk = 7 ∧ ∃ m, 1 ≤ m ∧ m ≤ 99 ∧ f = nI m ∧ g = nI m) ∨ PlC n kw kk f g
/-- a line more, of word kw -/
def LnY (l s kw : Nat) (σ : SS) : Prop := σ.1 8 1 2 = nI (l + 1) ∧ σ.1 8 1 3 = nI (s + 1) ∧ σ.1 13 4 l = nI kw
theorem Flt.as {σ σ' υ υ' : SS} {l W : Nat} (h : Flt σ υ) (hE : Eqo (AS l) σ σ') (hE2 : Eqo (fun k m j => k = 13 ∧ m = 34 ∧ W < j ∧ j < W + 8) υ υ') : Flt σ' υ' := h.eq (hE.at1 (by unfold AS; omega)) (hE.at1 (by unfold AS; omega)) (hE2.at1 (by omega)) (hE2.at1 (by omega))
theorem Gon.as {σ σ' υ υ' : SS} {B : Nat → Nat} {S l W : Nat} (h : Gon B S σ υ) (hE : Eqo (AS l) σ σ') (hE2 : Eqo (fun k m j => k = 13 ∧ m = 34 ∧ W < j ∧ j < W + 8) υ υ') : Gon B S σ' υ' := by
  obtain ⟨⟨a, h⟩, h12⟩ := h
  exact ⟨⟨a, h.keep hE hE2 (fun k n j q => by unfold AS at q; omega) (fun k n j q => by omega)⟩, (hE2.at1 (by omega)).trans h12⟩
theorem wn_eq {o : Option Nat} {k : Nat} (h : ∀ m, o = some m → m < 24) (hk : k < 24) : wnI o = nI k ↔ o = some k := by
  cases o with
  | none =>
    constructor
    · intro z
      have h0 : (0 : Int32) ≤ nI k := nI_pos' (by omega)
      have z' : (-1 : Int32) = nI k := z
      rw [← z'] at h0
      exact absurd h0 (by decide)
    · intro z
      cases z
  | some m =>
    have := h m rfl
    constructor
    · intro z
      have z' : nI m = nI k := z
      rw [(nI_eq (by omega) (by omega)).mp z']
    · intro z
      rw [Option.some.inj z]
      rfl
theorem wid24 {B : Nat → Nat} {S a : Nat} : ∀ m, wid B S a = some m → m < 24 := fun _ h => (wid_lt h).1
section WS
variable {σ υ : SS} {B : Nat → Nat} {S a n l s W : Nat}
theorem ckW {W e : Nat} (h : W + e < 2050) : ck (LN 13 34) (nI W + nI e) = some (W + e) := by
  rw [nI_add, ckc h]
/-- behind the number -/
theorem whole_fin {σ1 υ1 : SS} {w x : Int32} {kw : Nat} {Pm : Nat → Prop} (hl : l < 60) (h2 : σ.1 8 1 2 = nI l) (h3 : σ.1 8 1 3 = nI s) (hS : (∃ m, Pm m ∧ m < 1000 ∧ w = nI m ∧ x = nI m ∧ Gon B S σ1 υ1) ∨ (w = -1 ∧ x = 0 ∧ Flt σ1 υ1)) (E1 : Eqo NCf σ σ1) (F1 : Eqo NXf υ υ1) : ∃ r σ', X10_wholeStep_j53 σ1 0 1 (nI kw) w = some (r, σ') ∧ Out B S (fun σ' υ' => LnY l s kw σ' ∧ ∃ m, Pm m ∧ σ'.1 13 4 (60 + l) = nI m ∧ υ'.1 13 34 (W + 1) = nI m) r σ' (wI υ1 13 34 (W + 1) x) ∧ Eqo (NA l) σ σ' ∧ Eqo (NW W) υ (wI υ1 13 34 (W + 1) x) := by
  obtain ⟨τ, e, c1, c2, c3, c4, c5, c6, E2⟩ := addStep_ok (σ := σ1) hl ((E1.at1 (by unfold NCf NC; omega)).trans h2) ((E1.at1 (by unfold NCf NC; omega)).trans h3) (nI kw) w 0
  have F2 : Eqo (fun k m j => k = 13 ∧ m = 34 ∧ W < j ∧ j < W + 8) υ1 (wI υ1 13 34 (W + 1) x) := Eqo.wI (by omega)
  have EE : Eqo (NA l) σ τ := (E1.mono (fun _ _ _ q => .inl q)).tr (E2.mono (fun _ _ _ q => .inr q))
  have FF : Eqo (NW W) υ (wI υ1 13 34 (W + 1) x) := (F1.mono (fun _ _ _ q => .inl q)).tr (F2.mono (fun _ _ _ q => .inr q))
  unfold X10_wholeStep_j53
  rw [e, Option.bind_some]
  rcases hS with ⟨m, p1, p2, rfl, rfl, g⟩ | ⟨rfl, rfl, g⟩
  · rw [if_neg (show ¬ nI m = -1 from ne_m1 (by omega))]
    exact ⟨1, τ, rfl, .inl ⟨rfl, g.as E2 F2, ⟨c5, c6, c1⟩, m, p1, c2, wI_eq _ _ _ _ _⟩, EE, FF⟩
  · rw [if_pos rfl]
    exact ⟨0, τ, rfl, .inr ⟨rfl, g.as E2 F2⟩, EE, FF⟩
/-- a STEP that is no when -/
theorem whole_ok (h : TK B S a σ υ) (h12 : υ.1 11 0 12 = 0) (h5 : σ.1 0 0 5 = nI n) (h0 : υ.1 13 34 0 = nI n) (hn : n ≤ 8) (hN : ∀ l, l < n → σ.2 14 0 l = υ.2 14 7 l) (hl : l < 60) (h2 : σ.1 8 1 2 = nI l) (h3 : σ.1 8 1 3 = nI s) (hW : W + 9 < 2050) {kw kk : Nat} (hk : υ.1 13 34 W = nI kk) (hkw : (kw = 12 ∧ kk = 0) ∨ (kw = 21 ∧ kk = 7) ∨ (kw = 14 ∧ kk = 2) ∨ (kw = 23 ∧ kk = 8) ∨ (kw = 13 ∧ kk = 1) ∨ (kw = 15 ∧ kk = 3) ∨ (kw = 17 ∧ kk = 4) ∨ (kw = 6 ∧ kk = 5)) : ∃ r σ' υ', X10_wholeStep σ 0 1 (nI kw) = some (r, σ') ∧ X12_readRest υ (nI W) = some υ' ∧ Out B S (fun σ' υ' => LnY l s kw σ' ∧ RestY n kw kk (σ'.1 13 4 (60 + l)) (υ'.1 13 34 (W + 1))) r σ' υ' ∧ Eqo (NA l) σ σ' ∧ Eqo (NW W) υ υ' := by
  have k0 : ck (LN 13 34) (nI W) = some W := ckc (by omega)
  have k1 : ck (LN 13 34) (nI W + 1) = some (W + 1) := ckW (e := 1) (by omega)
  -- a number
  have num : (kw = 12 ∧ kk = 0) ∨ (kw = 21 ∧ kk = 7) → ∃ r σ' υ', X10_wholeStep σ 0 1 (nI kw) = some (r, σ') ∧ X12_readRest υ (nI W) = some υ' ∧ Out B S (fun σ' υ' => LnY l s kw σ' ∧ RestY n kw kk (σ'.1 13 4 (60 + l)) (υ'.1 13 34 (W + 1))) r σ' υ' ∧ Eqo (NA l) σ σ' ∧ Eqo (NW W) υ υ' := fun hq => by
    obtain ⟨w, x, σ1, υ1, f1, f2, f3, E1, F1⟩ := must_number h h12 (lo := 1) (hi := 99) (by decide) (by decide)
    have f1' : X5_passNumber σ 1 99 = some (w, σ1) := f1
    have f2' : X12_count υ 1 99 = some (x, υ1) := f2
    obtain ⟨r, σ', e, o, EE, FF⟩ := whole_fin (kw := kw) (W := W) (Pm := fun m => 1 ≤ m ∧ m ≤ 99) hl h2 h3 (by
      rcases f3 with ⟨m, a1, a2, a3, a4, a5⟩ | z
      · exact .inl ⟨m, ⟨a1, a2⟩, by omega, a3, a4, a5⟩
      · exact .inr z) E1 F1
    refine ⟨r, σ', _, ?_, ?_, ?_, EE, FF⟩
    · rw [← e]
      unfold X10_wholeStep X10_wholeStep_j0 X10_wholeStep_j12 X10_wholeStep_j17
      rcases hq with ⟨rfl, rfl⟩ | ⟨rfl, rfl⟩
      · rw [if_pos (by decide), if_neg neg1_0, f1', Option.bind_some]
      · rw [if_neg (by decide), if_pos (by decide), if_neg neg1_0, f1', Option.bind_some]
    · unfold X12_readRest X12_readRest_j0 X12_readRest_j31
      rw [k0, Option.bind_some, hk, Option.bind_some]
      rcases hq with ⟨rfl, rfl⟩ | ⟨rfl, rfl⟩
      · rw [if_neg (by decide), if_pos (by decide), f2', Option.bind_some, k1, Option.bind_some, Option.bind_some]
      · rw [if_neg (by decide), if_neg (by decide), if_pos (by decide), f2', Option.bind_some, k1, Option.bind_some, Option.bind_some]
    · rcases o with ⟨z1, z2, z3, m, z4, z5, z6⟩ | z
      · refine .inl ⟨z1, z2, z3, ?_⟩
        rcases hq with ⟨rfl, rfl⟩ | ⟨rfl, rfl⟩
        · exact .inr (.inr (.inl ⟨rfl, rfl, m, by omega, z5, z6⟩))
        · exact .inr (.inl ⟨rfl, rfl, m, z4.1, z4.2, z5, z6⟩)
      · exact .inr z
  -- a lead
  have led : (kw = 13 ∧ kk = 1) ∨ (kw = 15 ∧ kk = 3) ∨ (kw = 17 ∧ kk = 4) ∨ (kw = 6 ∧ kk = 5) → ∃ r σ' υ', X10_wholeStep σ 0 1 (nI kw) = some (r, σ') ∧ X12_readRest υ (nI W) = some υ' ∧ Out B S (fun σ' υ' => LnY l s kw σ' ∧ RestY n kw kk (σ'.1 13 4 (60 + l)) (υ'.1 13 34 (W + 1))) r σ' υ' ∧ Eqo (NA l) σ σ' ∧ Eqo (NW W) υ υ' := fun hq => by
    obtain ⟨w, x, σ1, υ1, f1, f2, f3, E1, F1⟩ := must_lead h h12 h5 h0 hn hN
    obtain ⟨r, σ', e, o, EE, FF⟩ := whole_fin (kw := kw) (W := W) (Pm := fun m => m < n) hl h2 h3 (by
      rcases f3 with ⟨m, a1, a3, a4, a5⟩ | z
      · exact .inl ⟨m, a1, by omega, a3, a4, a5⟩
      · exact .inr z) E1 F1
    refine ⟨r, σ', _, ?_, ?_, ?_, EE, FF⟩
    · rw [← e]
      unfold X10_wholeStep X10_wholeStep_j0 X10_wholeStep_j12 X10_wholeStep_j17 X10_namesLead X10_namesLead_j0 X10_namesLead_j24
      rcases hq with ⟨rfl, rfl⟩ | ⟨rfl, rfl⟩ | ⟨rfl, rfl⟩ | ⟨rfl, rfl⟩
      · rw [if_neg (by decide), if_neg (by decide), if_pos rfl, if_pos (by decide), Option.bind_some, if_neg neg1_0, f1, Option.bind_some]
      · rw [if_neg (by decide), if_neg (by decide), if_pos rfl, if_neg (by decide), if_pos (by decide), Option.bind_some, if_neg neg1_0, f1, Option.bind_some]
      · rw [if_neg (by decide), if_neg (by decide), if_pos rfl, if_neg (by decide), if_neg (by decide), if_pos (by decide), Option.bind_some, if_neg neg1_0, f1, Option.bind_some]
      · rw [if_neg (by decide), if_neg (by decide), if_pos rfl, if_neg (by decide), if_neg (by decide), if_neg (by decide), if_pos (by decide), Option.bind_some, if_neg neg1_0, f1, Option.bind_some]
    · unfold X12_readRest X12_readRest_j0 X12_readRest_j31
      rw [k0, Option.bind_some, hk, Option.bind_some]
      rcases hq with ⟨rfl, rfl⟩ | ⟨rfl, rfl⟩ | ⟨rfl, rfl⟩ | ⟨rfl, rfl⟩ <;> rw [if_neg (by decide), if_neg (by decide), if_neg (by decide), if_neg (by decide), if_neg (by decide), f2, Option.bind_some, k1, Option.bind_some, Option.bind_some]
    · rcases o with ⟨z1, z2, z3, m, z4, z5, z6⟩ | z
      · refine .inl ⟨z1, z2, z3, .inr (.inr (.inr (.inr ⟨m, z4, z5, z6, ?_⟩)))⟩
        rcases hq with ⟨rfl, rfl⟩ | ⟨rfl, rfl⟩ | ⟨rfl, rfl⟩ | ⟨rfl, rfl⟩
        · exact .inl ⟨rfl, rfl⟩
        · exact .inr (.inl ⟨rfl, rfl⟩)
        · exact .inr (.inr (.inl ⟨rfl, rfl⟩))
        · exact .inr (.inr (.inr ⟨rfl, rfl⟩))
      · exact .inr z
  -- nothing
  have non : (kw = 14 ∧ kk = 2) ∨ (kw = 23 ∧ kk = 8) → ∃ r σ' υ', X10_wholeStep σ 0 1 (nI kw) = some (r, σ') ∧ X12_readRest υ (nI W) = some υ' ∧ Out B S (fun σ' υ' => LnY l s kw σ' ∧ RestY n kw kk (σ'.1 13 4 (60 + l)) (υ'.1 13 34 (W + 1))) r σ' υ' ∧ Eqo (NA l) σ σ' ∧ Eqo (NW W) υ υ' := fun hq => by
    obtain ⟨τ, e, c1, c2, c3, c4, c5, c6, E2⟩ := addStep_ok (σ := σ) hl h2 h3 (nI kw) 0 0
    have g : Gon B S τ υ := Gon.as (W := W) ⟨⟨a, h⟩, h12⟩ E2 (Eqo.rf _ _)
    refine ⟨1, τ, υ, ?_, ?_, .inl ⟨rfl, g, ⟨c5, c6, c1⟩, ?_⟩, E2.mono (fun _ _ _ q => .inr q), Eqo.rf _ _⟩
    · unfold X10_wholeStep X10_wholeStep_j0 X10_wholeStep_j12 X10_wholeStep_j17 X10_namesLead X10_namesLead_j0 X10_wholeStep_j53
      rcases hq with ⟨rfl, rfl⟩ | ⟨rfl, rfl⟩ <;> rw [if_neg (by decide), if_neg (by decide), if_pos rfl, if_neg (by decide), if_neg (by decide), if_neg (by decide), if_neg (by decide), Option.bind_some, if_pos rfl, e, Option.bind_some, if_neg (by decide)]
    · unfold X12_readRest X12_readRest_j0
      rw [k0, Option.bind_some, hk, Option.bind_some]
      rcases hq with ⟨rfl, rfl⟩ | ⟨rfl, rfl⟩
      · rw [if_neg (by decide), if_neg (by decide), if_neg (by decide), if_pos (by decide)]
      · rw [if_neg (by decide), if_neg (by decide), if_neg (by decide), if_neg (by decide), if_pos (by decide)]
    · rcases hq with ⟨rfl, rfl⟩ | ⟨rfl, rfl⟩
      · exact .inr (.inr (.inr (.inl ⟨rfl, rfl⟩)))
      · exact .inl ⟨rfl, rfl⟩
  rcases hkw with z | z | z | z | z | z | z | z
  · exact num (.inl z)
  · exact num (.inr z)
  · exact non (.inl z)
  · exact non (.inr z)
  · exact led (.inl z)
  · exact led (.inr (.inl z))
  · exact led (.inr (.inr (.inl z)))
  · exact led (.inr (.inr (.inr z)))
end WS
