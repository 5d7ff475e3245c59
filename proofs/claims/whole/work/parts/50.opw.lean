/-! ===== ops on ways ===== -/
def OR3 {R : Type} (P : Nat → Nat → Nat → Prop) (σ : SS) (f g : SS → Option (R × SS)) (C : SS → Prop) : Prop := ∃ r σ1 σ2, f σ = some (r, σ1) ∧ g σ1 = some (r, σ2) ∧ St σ2 ∧ Eqo P σ σ2 ∧ C σ2
theorem refP {R : Type} {P : Nat → Nat → Nat → Prop} {σ : SS} {f g : SS → Option (R × SS)} {C : SS → Prop} (hC : ∀ τ, Eqo PS σ τ → C τ) (hP : ∀ k n j, PS k n j → P k n j) (w : Int32) (r : R) (hf : f σ = some (r, wI σ 10 0 11 w)) (hg : g (wI σ 10 0 11 w) = some (r, wI (s0 σ w) 11 0 0 w)) : OR3 P σ f g C :=
  ⟨r, _, _, hf, hg, by
    unfold St s0
    rw [wI_ne _ _ (by omega), wI_ne _ _ (by omega), wI_ne _ _ (by omega), wI_eq, wI_eq], ((s0_ps σ w).tr (ps2 _ _)).mono hP, hC _ ((s0_ps σ w).tr (ps2 _ _))⟩
theorem tellP {R : Type} {P : Nat → Nat → Nat → Prop} {σ : SS} {f g : SS → Option (R × SS)} {C : SS → Prop} (hC : ∀ τ, Eqo PS σ τ → C τ) (hP : ∀ k n j, PS k n j → P k n j) (r : R) (hf : f σ = some (r, wI σ 10 0 11 0)) (hg : g (wI σ 10 0 11 0) = some (r, s0 σ 0)) : OR3 P σ f g C :=
  ⟨r, _, _, hf, hg, s0_st σ, (s0_ps σ 0).mono hP, hC _ (s0_ps σ 0)⟩
def RDc : Nat → Nat → Nat → Prop := fun k n j => (k = 0 ∧ n = 0 ∧ 5 ≤ j ∧ j ≤ 12) ∨ (k = 13 ∧ 1 ≤ n ∧ n ≤ 3) ∨ (k = 13 ∧ n = 34 ∧ j < 132)
theorem RelD.keep {σ τ : SS} {n nk : Nat} {nu : Nat → Nat → Nat} {lo : Nat → Nat} {i c : Nat} {s p o : Int32} {L : List X3} {P : Nat → Nat → Nat → Prop} (h : RelD σ n nk nu lo i c s p o L) (hE : Eqo P σ τ) (hP : ∀ k n j, P k n j → ¬ RDc k n j) : RelD τ n nk nu lo i c s p o L :=
  ⟨h.1.keep hE (fun k m j q z => hP k m j q (by unfold RDc; omega)), h.2.1.keep hE (fun k m j q z => hP k m j q (by unfold RDc; omega)), h.2.2.1.keep hE (fun j q z => hP 13 34 j q (by unfold RDc; omega)), h.2.2.2.keep hE (fun j q z => hP 13 34 j q (by unfold RDc; omega))⟩
/-- where the reference begins -/
def xb (σ : SS) : SS := wI (wI σ 11 0 1 0) 11 0 0 0
theorem xb_ps (σ : SS) : Eqo PS σ (xb σ) := (ps3 _ _).tr (ps2 _ _)
theorem xb_st {σ : SS} (h : σ.1 10 0 11 = 0) : St (xb σ) := by
  unfold St xb
  rw [wI_ne _ _ (by omega), wI_ne _ _ (by omega), wI_eq, h]
/-- the class's part of ways -/
def KW : Nat → Nat → Nat → Prop := fun k n j => (k = 6 ∧ n = 0 ∧ (j ≤ 3 ∨ j = 6 ∨ (9 ≤ j ∧ j ≤ 11))) ∨ (k = 13 ∧ 22 ≤ n ∧ n ≤ 28)
theorem WF_KW {σ τ : SS} (h : Eqo WF σ τ) : Eqo KW σ τ := h.mono (fun k n j q => by unfold WF WR at q; unfold KW; omega)
theorem keepWay_ok (σ : SS) : ∃ τ, X7_keepWay σ = some τ ∧ (∀ j, j < 4 → τ.1 13 24 j = σ.1 13 23 j) ∧ τ.1 6 0 6 = 1 ∧ Eqo (fun k n j => (k = 13 ∧ n = 24) ∨ (k = 6 ∧ n = 0 ∧ j = 6)) σ τ := by
  obtain ⟨τ, e, h1, h2, h3⟩ := ttake (σ := σ) (t := 24) (r := 23) (N := 4) (by decide) (by decide) (by decide) (by decide)
  refine ⟨wI τ 6 0 6 1, ?_, fun j hj => ?_, wI_eq _ _ _ _ _, ?_⟩
  · unfold X7_keepWay X7_keepWay_j0
    rw [e, Option.bind_some, Option.bind_some]
  · rw [wI_ne _ _ (by omega)]
    exact h3 j hj
  · have : Eqo (fun k n j => (k = 13 ∧ n = 24) ∨ (k = 6 ∧ n = 0 ∧ j = 6)) σ τ := ⟨fun k n j q => h2 k n j (fun z => q (.inl z)), fun k n j _ => by rw [h1]⟩
    exact this.tr (Eqo.wI (.inr ⟨rfl, rfl, rfl⟩))
theorem xkeepWay (σ : SS) (v : Int32) : ∃ τ, X12_alone_l47 σ v 0 = some (v, τ) ∧ (∀ j, j < 4 → τ.1 13 39 j = σ.1 13 38 j) ∧ τ.1 11 0 33 = 1 ∧ Eqo (fun k n j => (k = 13 ∧ n = 39) ∨ (k = 11 ∧ n = 0 ∧ j = 33)) σ τ := by
  obtain ⟨b, w, e, h1, h2⟩ := loopI (f := X12_alone_l47b v) (s := (0, σ)) 4 (fun k (_ : Unit) (w : SS) => ((nI k, w) : Int32 × SS)) (fun _ w => w) (fun k _ w => (∀ j, j < k → w.1 13 39 j = σ.1 13 38 j) ∧ Eqo (fun k n j => (k = 13 ∧ n = 39) ∨ (k = 11 ∧ n = 0 ∧ j = 33)) σ w) () σ rfl ⟨fun j hj => absurd hj (Nat.not_lt_zero _), Eqo.rf _ _⟩ (by decide) (fun k b w hk hI => by
      obtain ⟨h1, h2⟩ := hI
      show ∃ b' w', X12_alone_l47c w v (nI k) = _ ∧ _
      unfold X12_alone_l47c
      rw [if_neg (show ¬ (4 : Int32) ≤ nI k from nI_ge (b := 4) hk (by decide)), ck38 hk, Option.bind_some, ck39 hk, Option.bind_some, Option.bind_some, nI_1, Option.bind_some]
      refine ⟨(), _, rfl, fun j hj => ?_, h2.tr (Eqo.wI (.inl ⟨rfl, rfl⟩))⟩
      by_cases ej : j = k
      · subst ej
        rw [wI_eq]
        exact h2.at1 (by omega)
      · rw [wI_ne _ _ (by omega)]
        exact h1 j (by omega)) (fun b w hI => by
      show X12_alone_l47c w v (nI 4) = _
      unfold X12_alone_l47c
      rw [if_pos (show (4 : Int32) ≤ nI 4 by decide)])
  refine ⟨wI w 11 0 33 1, ?_, fun j hj => ?_, wI_eq _ _ _ _ _, h2.tr (Eqo.wI (.inr ⟨rfl, rfl, rfl⟩))⟩
  · unfold X12_alone_l47
    rw [e, Option.bind_some, Option.bind_some]
  · rw [wI_ne _ _ (by omega)]
    exact h1 j hj
section OW
variable {σ : SS} {n nk i c : Nat} {s p o : Int32} {nu : Nat → Nat → Nat} {lo : Nat → Nat} {L : List X3}
/-- way found: PV and the kept way -/
def PWy : Nat → Nat → Nat → Prop := fun k n j => PV k n j ∨ (k = 6 ∧ n = 0 ∧ j = 6) ∨ (k = 13 ∧ (n = 24 ∨ n = 39)) ∨ (k = 11 ∧ n = 0 ∧ j = 33)
theorem PS_PV : ∀ k n j, PS k n j → PV k n j := fun _ _ _ q => .inl q
theorem PS_PWy : ∀ k n j, PS k n j → PWy k n j := fun _ _ _ q => .inl (.inl q)
theorem WF_PV {σ τ : SS} (h : Eqo WF σ τ) : Eqo PV σ τ := h.mono (fun k n j q => by unfold WF WR at q; unfold PV; omega)
theorem AX_PV {σ τ : SS} (h : Eqo AX σ τ) : Eqo PV σ τ := h.mono (fun k n j q => by
  rcases q with q | q | q
  · exact .inr (.inl (.inl q))
  · unfold FX at q; unfold PV; omega
  · unfold PV; omega)
theorem PS_PVE {σ τ : SS} (h : Eqo PS σ τ) : Eqo PV σ τ := h.mono PS_PV
theorem RelD.of (h : RelD σ n nk nu lo i c s p o L) {P : Nat → Nat → Nat → Prop} {τ : SS} (hE : Eqo P σ τ) (hc : ∀ j, j < 132 → τ.1 13 34 j = σ.1 13 34 j) (hP : ∀ k n j, P k n j → ¬ ((k = 0 ∧ n = 0 ∧ 5 ≤ j ∧ j ≤ 12) ∨ (k = 13 ∧ 1 ≤ n ∧ n ≤ 3))) : RelD τ n nk nu lo i c s p o L :=
  ⟨h.1.keep hE (fun k m j q z => hP k m j q (by omega)), h.2.1.keep hE (fun k m j q z => hP k m j q (by omega)), h.2.2.1.of hc, h.2.2.2.of hc⟩
theorem op_alone (a : Int32) (h : RelD σ n nk nu lo i c s p o L) (hw : WyR σ) : OR3 PWy σ (fun σ => X11_alone σ a) (fun σ => X12_alone σ a) (fun τ => RelD τ n nk nu lo i c s p o L ∧ WyR τ) := by
  have h1 := h.ps (ps1 σ 0)
  have hC : ∀ τ, Eqo PS σ τ → RelD τ n nk nu lo i c s p o L ∧ WyR τ := fun τ hE => ⟨h.ps hE, hw.keep hE (fun k n j q => by unfold PS at q; omega)⟩
  rcases lead_or h.1 a with ⟨l, hl, rfl⟩ | ⟨ha, hn⟩
  · by_cases q : i.testBit l = true
    · obtain ⟨υ1, e1, hE1, hW1⟩ := find_ok (by decide) h1.1 h1.2.1 hl
      obtain ⟨υ2, e2, hk2, hz2, hE2⟩ := keepWay_ok υ1
      have r1 := h1.keep hE1 (fun k n j q => by unfold WF WR at q; unfold RDc; omega)
      have r2 := r1.keep hE2 (fun k n j q => by unfold RDc; omega)
      have r3 := r2.ps (xb_ps υ2)
      obtain ⟨τ1, e3, hc3, hE3, hW3⟩ := xaloneOf r3.2.2.1 r3.2.2.2 hl
      have r4 := r3.of hE3 hc3 (fun k n j q => by unfold AX XC FX at q; omega)
      obtain ⟨τ2, e4, hk4, hz4, hE4⟩ := xkeepWay τ1 (nI (alF nu l L).1)
      have r5 := r4.keep hE4 (fun k n j q => by unfold RDc; omega)
      refine ⟨nI (alF nu l L).1, υ2, τ2, ?_, ?_, ?_, ?_, r5, ?_⟩
      · show X11_alone σ (nI l) = _
        unfold X11_alone X11_alone_j0
        rw [inSt0 h hl q, Option.bind_some, answers0, Option.bind_some, if_neg neg1_0, e1, Option.bind_some, e2, Option.bind_some]
      · show X12_alone υ2 (nI l) = _
        unfold X12_alone X12_alone_j0
        rw [Option.bind_some, Option.bind_some]
        show ((X12_isLeadAt (xb υ2) (nI l)).bind _) = _
        rw [xisLeadAt_in r3.2.2.1 hl, Option.bind_some, if_neg neg1_0]
        show ((X12_isInside (xb υ2) (nI l)).bind _) = _
        rw [xisInside r3.2.2.1 r3.2.2.2 hl, Option.bind_some, if_pos q, if_neg neg1_0]
        show ((X12_aloneOf (xb υ2) (nI l)).bind _) = _
        rw [e3, Option.bind_some, e4]
      · have g1 : υ2.1 10 0 11 = 0 := by
          rw [hE2.at1 (by omega), hE1.at1 (by unfold WF WR; omega), wI_eq]
        have g2 := xb_st g1
        unfold St at g2 ⊢
        rw [hE4.at1 (by omega), hE4.at1 (by omega), hE3.at1 (by unfold AX XC FX; omega), hE3.at1 (by unfold AX XC FX; omega)]
        exact g2
      · exact (((((PS_PVE (ps1 σ 0)).tr (WF_PV hE1)).mono (fun _ _ _ q => .inl q)).tr (hE2.mono (fun k n j q => by unfold PWy; omega))).tr (((PS_PVE (xb_ps υ2)).tr (AX_PV hE3)).mono (fun _ _ _ q => .inl q))).tr (hE4.mono (fun k n j q => by unfold PWy; omega))
      · right
        have f6 : τ2.1 6 0 6 = 1 := by
          rw [hE4.at1 (by omega), hE3.at1 (by unfold AX XC FX; omega), (xb_ps υ2).at1 (by unfold PS; omega)]
          exact hz2
        have f24 : ∀ j, j < 4 → τ2.1 13 24 j = υ1.1 13 23 j := fun j hj => by
          rw [hE4.at1 (by omega), hE3.at1 (by unfold AX XC FX; omega), (xb_ps υ2).at1 (by unfold PS; omega)]
          exact hk2 j hj
        refine ⟨f6, hz4, fun j hj => ?_⟩
        rw [f24 j hj, hk4 j hj]
        unfold WayIs at hW1 hW3
        have hj' : j = 0 ∨ j = 1 ∨ j = 2 ∨ j = 3 := by omega
        rcases hj' with z | z | z | z <;> subst z
        · rw [hW1.1, hW3.1]
        · rw [hW1.2.1, hW3.2.1]
        · rw [hW1.2.2.1, hW3.2.2.1]
        · rw [hW1.2.2.2, hW3.2.2.2]
    · refine refP hC PS_PWy 9 (-1) ?_ ?_
      · show X11_alone σ (nI l) = _
        unfold X11_alone X11_alone_j0
        rw [inSt9 h hl q, Option.bind_some, answersN _ (by decide), Option.bind_some, if_pos rfl]
      · show X12_alone (wI σ 10 0 11 9) (nI l) = _
        unfold X12_alone X12_alone_j0
        rw [Option.bind_some, Option.bind_some, s0e, s0b h 9 hl, Option.bind_some, if_neg neg1_0, s0c h 9 hl, Option.bind_some, if_neg q, if_pos rfl]
        rfl
  · refine refP hC PS_PWy 2 (-1) ?_ ?_
    · show X11_alone σ a = _
      unfold X11_alone X11_alone_j0
      rw [inSt2 hn, Option.bind_some, answersN _ (by decide), Option.bind_some, if_pos rfl]
    · show X12_alone (wI σ 10 0 11 2) a = _
      unfold X12_alone X12_alone_j0
      rw [Option.bind_some, Option.bind_some, s0e, s0a h 2 ha, Option.bind_some, if_pos rfl]
      rfl
theorem kway_at (σ : SS) {k : Nat} (hk : k < 4) : X4_at σ 24 0 (nI k) = some (σ.1 13 24 k) := by
  have := at_ok σ (t := 24) (r := 0) (c := k) (by decide) (by decide) (by rw [T_22.2.2.2.2.2.1]; exact hk)
  rw [Nat.zero_mul, Nat.zero_add] at this
  exact this
theorem op_way (a : Int32) (hw : WyR σ) : OR3 PS σ (fun σ => X11_way σ a) (fun σ => X12_way σ a) (fun _ => True) := by
  rcases in_or a 3 (by decide) with ⟨w, hw3, rfl⟩ | ⟨ha, hn⟩
  · have n0 : ¬ nI w < 0 := nI_pos (by omega)
    have n3 : nI w ≤ (3 : Int32) := nI_le (b := 3) hw3 (by decide)
    have cl : X11_way σ (nI w) = (X7_hasWay σ).bind fun v18 => X11_way_j30 σ (nI w) (if v18 = 0 then 8 else 0) := by
      unfold X11_way X11_way_j0
      rw [if_neg n0, if_pos n3]
    have rf : ∀ υ, X12_way υ (nI w) = (if (xb υ).1 11 0 33 = 0 then ((X12_refuse (xb υ) 8).bind fun p47 => some (p47.1, p47.2)) else ((ck (LN 13 39) (nI w)).bind fun j40 => some (((xb υ).1 13 39 j40), xb υ))) := fun υ => by
      unfold X12_way X12_way_j0
      rw [Option.bind_some, Option.bind_some, xisIn_in _ hw3 (by decide) 3 (by decide), Option.bind_some, if_neg neg1_0]
      rfl
    have k33 : ∀ w, (xb (wI σ 10 0 11 w)).1 11 0 33 = σ.1 11 0 33 := fun w => by
      unfold xb
      rw [wI_ne _ _ (by omega), wI_ne _ _ (by omega), wI_ne _ _ (by omega)]
    rcases hw with ⟨a1, a2⟩ | ⟨a1, a2, a3⟩
    · refine refP (fun _ _ => trivial) (fun _ _ _ q => q) 8 (-1) ?_ ?_
      · show X11_way σ (nI w) = _
        rw [cl]
        unfold X7_hasWay X7_hasWay_j0 X11_way_j30
        rw [a1, zb_0, Option.bind_some, Option.bind_some, if_pos rfl, answersN _ (by decide), Option.bind_some, if_pos rfl]
      · show X12_way (wI σ 10 0 11 8) (nI w) = _
        rw [rf, k33, a2, if_pos rfl, refuse_eq, Option.bind_some]
        rfl
    · refine tellP (fun _ _ => trivial) (fun _ _ _ q => q) (σ.1 13 24 w) ?_ ?_
      · show X11_way σ (nI w) = _
        rw [cl]
        unfold X7_hasWay X7_hasWay_j0 X11_way_j30 X7_keptWay X7_keptWay_j0
        rw [a1, zb_1, Option.bind_some, Option.bind_some, if_neg neg1_0, answers0, Option.bind_some, if_neg neg1_0, kway_at _ (by omega), Option.bind_some, Option.bind_some, wI_ne _ _ (by omega)]
      · show X12_way (wI σ 10 0 11 0) (nI w) = _
        rw [rf, k33, a2, if_neg neg1_0, ck39 (by omega), Option.bind_some, a3 w (by omega)]
        unfold xb
        rw [wI_ne _ _ (by omega), wI_ne _ _ (by omega), wI_ne _ _ (by omega)]
        rfl
  · refine refP (fun _ _ => trivial) (fun _ _ _ q => q) 5 (-1) ?_ ?_
    · show X11_way σ a = _
      unfold X11_way X11_way_j0 X11_way_j10 X11_way_j30
      rcases ha with q | ⟨q1, q2⟩
      · rw [if_pos q, answersN _ (by decide), Option.bind_some, if_pos rfl]
      · rw [if_neg q1, if_neg (show ¬ a ≤ 3 from q2), answersN _ (by decide), Option.bind_some, if_pos rfl]
    · show X12_way (wI σ 10 0 11 5) a = _
      unfold X12_way X12_way_j0
      rw [Option.bind_some, Option.bind_some, s0e, xisIn_out _ hn 3 (by decide), Option.bind_some, if_pos rfl]
      rfl
end OW
