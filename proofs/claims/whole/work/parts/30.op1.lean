/-! ===== the two sides together: the drawer ===== -/
def PS : Nat → Nat → Nat → Prop := fun k n j => (k = 10 ∧ n = 0 ∧ j = 11) ∨ (k = 11 ∧ n = 0 ∧ (j = 0 ∨ j = 1))
/-- the spare drawer -/
def SP : Nat → Nat → Nat → Prop := fun k n _ => (k = 0 ∧ n = 1) ∨ (k = 13 ∧ 4 ≤ n ∧ n < 8) ∨ (k = 8 ∧ n = 1) ∨ (k = 14 ∧ n = 1)
def PDS : Nat → Nat → Nat → Prop := fun k n j => VO 0 k n j ∨ XO k n j ∨ PS k n j ∨ SP k n j
def St (σ : SS) : Prop := σ.1 10 0 11 = σ.1 11 0 0
def RelD (σ : SS) (n nk : Nat) (nu : Nat → Nat → Nat) (lo : Nat → Nat) (i c : Nat) (s p o : Int32) (L : List X3) : Prop := RS σ 0 n nk nu lo ∧ RV σ 0 n i c s p o L ∧ RXS σ n nk nu lo ∧ RXV σ n i c s p o L
def DR {R : Type} (σ : SS) (n nk : Nat) (nu : Nat → Nat → Nat) (lo : Nat → Nat) (f g : SS → Option (R × SS)) : Prop := ∃ r σ1 σ2, f σ = some (r, σ1) ∧ g σ1 = some (r, σ2) ∧ (∃ (i' c' : Nat) (s' p' o' : Int32) (L' : List X3), RelD σ2 n nk nu lo i' c' s' p' o' L') ∧ St σ2 ∧ Eqo PDS σ σ2
def DOp {R : Type} (f g : SS → Option (R × SS)) : Prop := ∀ (σ : SS) (n nk : Nat) (nu : Nat → Nat → Nat) (lo : Nat → Nat) (i c : Nat) (s p o : Int32) (L : List X3), RelD σ n nk nu lo i c s p o L → DR σ n nk nu lo f g
theorem RelD.ps {σ τ : SS} {n nk : Nat} {nu : Nat → Nat → Nat} {lo : Nat → Nat} {i c : Nat} {s p o : Int32} {L : List X3} (h : RelD σ n nk nu lo i c s p o L) (hE : Eqo PS σ τ) : RelD τ n nk nu lo i c s p o L :=
  ⟨h.1.keep hE (fun k m j q => by unfold PS at q; omega), h.2.1.keep hE (fun k m j q => by unfold PS at q; omega), h.2.2.1.keep hE (fun j q => by unfold PS at q; omega), h.2.2.2.keep hE (fun j q => by unfold PS at q; omega)⟩
theorem ps1 (σ : SS) (w : Int32) : Eqo PS σ (wI σ 10 0 11 w) := Eqo.wI (.inl ⟨rfl, rfl, rfl⟩)
theorem ps2 (σ : SS) (w : Int32) : Eqo PS σ (wI σ 11 0 0 w) := Eqo.wI (.inr ⟨rfl, rfl, .inl rfl⟩)
theorem ps3 (σ : SS) (w : Int32) : Eqo PS σ (wI σ 11 0 1 w) := Eqo.wI (.inr ⟨rfl, rfl, .inr rfl⟩)
theorem PS_PDS {σ τ : SS} (h : Eqo PS σ τ) : Eqo PDS σ τ := h.mono (fun _ _ _ q => .inr (.inr (.inl q)))
theorem answers0 (σ : SS) : X11_answers σ 0 = some (1, wI σ 10 0 11 0) := rfl
theorem answersN (σ : SS) {w : Int32} (h : ¬ w = 0) : X11_answers σ w = some (0, wI σ 10 0 11 w) := by
  unfold X11_answers X11_answers_j0
  rw [Option.bind_some, if_neg h]
theorem refuse_eq (σ : SS) (w : Int32) : X12_refuse σ w = some (-1, wI σ 11 0 0 w) := rfl
theorem no_eq (σ : SS) (w : Int32) : X12_no σ w = some (0, wI σ 11 0 0 w) := rfl
/-- where both begin -/
def s0 (σ : SS) (w : Int32) : SS := wI (wI (wI σ 10 0 11 w) 11 0 1 0) 11 0 0 0
theorem s0_ps (σ : SS) (w : Int32) : Eqo PS σ (s0 σ w) := ((ps1 σ w).tr (ps3 _ _)).tr (ps2 _ _)
theorem s0_st (σ : SS) : St (s0 σ 0) := rfl
/-- a refusal -/
theorem refused {R : Type} {f g : SS → Option (R × SS)} {σ : SS} {n nk : Nat} {nu : Nat → Nat → Nat} {lo : Nat → Nat} {i c : Nat} {s p o : Int32} {L : List X3} (h : RelD σ n nk nu lo i c s p o L) (w : Int32) (r : R) (hf : f σ = some (r, wI σ 10 0 11 w)) (hg : g (wI σ 10 0 11 w) = some (r, wI (s0 σ w) 11 0 0 w)) : DR σ n nk nu lo f g :=
  ⟨r, _, _, hf, hg, ⟨i, c, s, p, o, L, h.ps ((s0_ps σ w).tr (ps2 _ _))⟩, by
    unfold St s0
    rw [wI_ne _ _ (by omega), wI_ne _ _ (by omega), wI_ne _ _ (by omega), wI_eq, wI_eq], PS_PDS ((s0_ps σ w).tr (ps2 _ _))⟩
/-- an answer that changes nothing -/
theorem told {R : Type} {f g : SS → Option (R × SS)} {σ : SS} {n nk : Nat} {nu : Nat → Nat → Nat} {lo : Nat → Nat} {i c : Nat} {s p o : Int32} {L : List X3} (h : RelD σ n nk nu lo i c s p o L) (r : R) (hf : f σ = some (r, wI σ 10 0 11 0)) (hg : g (wI σ 10 0 11 0) = some (r, s0 σ 0)) : DR σ n nk nu lo f g :=
  ⟨r, _, _, hf, hg, ⟨i, c, s, p, o, L, h.ps (s0_ps σ 0)⟩, s0_st σ, PS_PDS (s0_ps σ 0)⟩
/-- from the class's state after its part to the reference's -/
theorem RelD.cl {P : Nat → Nat → Nat → Prop} {σ υ : SS} {n nk : Nat} {nu : Nat → Nat → Nat} {lo : Nat → Nat} {i c : Nat} {s p o : Int32} {L : List X3} (h : RelD σ n nk nu lo i c s p o L) (hE : Eqo P (wI σ 10 0 11 0) υ) (hPV : ∀ k n j, P k n j → VO 0 k n j := by first | exact fun _ _ _ q => Or.inl q | exact fun _ _ _ q => q) : RXS (wI (wI υ 11 0 1 0) 11 0 0 0) n nk nu lo ∧ RXV (wI (wI υ 11 0 1 0) 11 0 0 0) n i c s p o L ∧ Eqo PDS σ (wI (wI υ 11 0 1 0) 11 0 0 0) ∧ (wI (wI υ 11 0 1 0) 11 0 0 0).1 10 0 11 = 0 ∧ (wI (wI υ 11 0 1 0) 11 0 0 0).1 11 0 0 = 0 := by
  have hE : Eqo (VO 0) (wI σ 10 0 11 0) υ := hE.mono hPV
  have h1 := h.ps (ps1 σ 0)
  have e1 : RXS υ n nk nu lo := h1.2.2.1.keep hE (fun j q => by unfold VO VC at q; omega)
  have e2 : RXV υ n i c s p o L := h1.2.2.2.keep hE (fun j q => by unfold VO VC at q; omega)
  have hp : Eqo PS υ (wI (wI υ 11 0 1 0) 11 0 0 0) := (ps3 _ _).tr (ps2 _ _)
  refine ⟨e1.keep hp (fun j q => by unfold PS at q; omega), e2.keep hp (fun j q => by unfold PS at q; omega), ((PS_PDS (ps1 σ 0)).tr (hE.mono (fun _ _ _ q => .inl q))).tr (PS_PDS hp), ?_, ?_⟩
  · rw [wI_ne _ _ (by omega), wI_ne _ _ (by omega), hE.at1 (by unfold VO VC; omega), wI_eq]
  · rw [wI_eq]
/-- both have changed -/
theorem changed {R : Type} {P : Nat → Nat → Nat → Prop} {f g : SS → Option (R × SS)} {σ υ τ : SS} {n nk : Nat} {nu : Nat → Nat → Nat} {lo : Nat → Nat} {i c i' c' : Nat} {s p o s' p' o' : Int32} {L L' : List X3} (h : RelD σ n nk nu lo i c s p o L) (r : R) (hf : f σ = some (r, υ)) (hE : Eqo P (wI σ 10 0 11 0) υ) (hv : RV υ 0 n i' c' s' p' o' L') (hg : g υ = some (r, τ)) (hE2 : Eqo XO (wI (wI υ 11 0 1 0) 11 0 0 0) τ) (hx : RXV τ n i' c' s' p' o' L') (hPV : ∀ k n j, P k n j → VO 0 k n j := by first | exact fun _ _ _ q => Or.inl q | exact fun _ _ _ q => q) : DR σ n nk nu lo f g := by
  have hE : Eqo (VO 0) (wI σ 10 0 11 0) υ := hE.mono hPV
  obtain ⟨g1, g2, g3, g4, g5⟩ := h.cl hE
  have h1 := h.ps (ps1 σ 0)
  have hp : Eqo PS υ (wI (wI υ 11 0 1 0) 11 0 0 0) := (ps3 _ _).tr (ps2 _ _)
  refine ⟨r, υ, τ, hf, hg, ⟨i', c', s', p', o', L', ?_, ?_, g1.keepO hE2, hx⟩, ?_, g3.tr (hE2.mono (fun _ _ _ q => .inr (.inl q)))⟩
  · exact ((h1.1.keepVO hE).keep hp (fun k m j q => by unfold PS at q; omega)).keep hE2 (fun k m j q => by unfold XO XC at q; omega)
  · exact (hv.keep hp (fun k m j q => by unfold PS at q; omega)).keep hE2 (fun k m j q => by unfold XO XC at q; omega)
  · unfold St
    rw [hE2.at1 (by unfold XO XC; omega), hE2.at1 (by unfold XO XC; omega), g4, g5]
theorem XC_XO {σ τ : SS} (h : Eqo XC σ τ) : Eqo XO σ τ := h.mono (fun _ _ _ q => .inl q)
theorem op_loosen : DOp X11_loosen X12_loosen := by
  intro σ n nk nu lo i c s p o L h
  have h1 := h.ps (ps1 σ 0)
  obtain ⟨υ, e, hE, hR⟩ := loosenOnce_ok (by decide) h1.2.1
  obtain ⟨g1, g2, -⟩ := h.cl hE
  obtain ⟨τ, e2, hE2, hR2⟩ := xloosensOnce g2
  refine changed h (nI L.length) ?_ hE hR ?_ (XC_XO hE2) hR2
  · unfold X11_loosen X11_loosen_j0
    rw [answers0, Option.bind_some, e, Option.bind_some]
  · unfold X12_loosen X12_loosen_j0
    rw [Option.bind_some, Option.bind_some, e2, Option.bind_some]
theorem op_cut (a : Int32) : DOp (fun σ => X11_cut σ a) (fun σ => X12_cut_ σ a) := by
  intro σ n nk nu lo i c s p o L h
  have h1 := h.ps (ps1 σ 0)
  rcases lead_or h.1 a with ⟨l, hl, rfl⟩ | ⟨ha, hn⟩
  · by_cases q : i.testBit l = true
    · obtain ⟨υ, e, hE, hR⟩ := cutOff_ok (by decide) h1.1 h1.2.1 hl
      obtain ⟨g1, g2, -⟩ := h.cl hE
      obtain ⟨τ, e2, hE2, hR2⟩ := xcuts g1 g2 hl
      refine changed h (nI (cnt L l)) ?_ hE hR ?_ (XC_XO hE2) hR2
      · show X11_cut σ (nI l) = _
        unfold X11_cut X11_cut_j0 X11_inStatus X11_inStatus_j0
        rw [has_in h.1 hl, Option.bind_some, if_neg neg1_0, isIn_in h.1 h.2.1 hl, Option.bind_some, if_pos q, if_neg neg1_0, Option.bind_some, answers0, Option.bind_some, if_neg neg1_0, e, Option.bind_some]
      · show X12_cut_ υ (nI l) = _
        unfold X12_cut_ X12_cut__j0
        rw [Option.bind_some, Option.bind_some, xisLeadAt_in g1 hl, Option.bind_some, if_neg neg1_0, xisInside g1 g2 hl, Option.bind_some, if_pos q, if_neg neg1_0, e2, Option.bind_some]
    · obtain ⟨g1, g2, -⟩ := h.cl (Eqo.rf _ _)
      have h9 := h.ps (s0_ps σ 9)
      refine refused h 9 (-1) ?_ ?_
      · show X11_cut σ (nI l) = _
        unfold X11_cut X11_cut_j0 X11_inStatus X11_inStatus_j0
        rw [has_in h.1 hl, Option.bind_some, if_neg neg1_0, isIn_in h.1 h.2.1 hl, Option.bind_some, if_neg q, if_pos rfl, Option.bind_some, answersN _ (by decide), Option.bind_some, if_pos rfl]
      · show X12_cut_ (wI σ 10 0 11 9) (nI l) = _
        unfold X12_cut_ X12_cut__j0
        rw [Option.bind_some, Option.bind_some]
        show ((X12_isLeadAt (s0 σ 9) (nI l)).bind _) = _
        rw [xisLeadAt_in h9.2.2.1 hl, Option.bind_some, if_neg neg1_0]
        show ((X12_isInside (s0 σ 9) (nI l)).bind _) = _
        rw [xisInside h9.2.2.1 h9.2.2.2 hl, Option.bind_some, if_neg q, if_pos rfl]
        rfl
  · have h9 := h.ps (s0_ps σ 2)
    refine refused h 2 (-1) ?_ ?_
    · show X11_cut σ a = _
      unfold X11_cut X11_cut_j0 X11_inStatus X11_inStatus_j0
      rw [hn, Option.bind_some, if_pos rfl, Option.bind_some, answersN _ (by decide), Option.bind_some, if_pos rfl]
    · show X12_cut_ (wI σ 10 0 11 2) a = _
      unfold X12_cut_ X12_cut__j0
      rw [Option.bind_some, Option.bind_some]
      show ((X12_isLeadAt (s0 σ 2) a).bind _) = _
      rw [xisLeadAt_out h9.2.2.1 ha, Option.bind_some, if_pos rfl]
      rfl
