/-! ===== ops that try on the spare drawer ===== -/
/-- both have tried, and nothing of the drawer has changed -/
theorem triedOp {R : Type} {f g : SS → Option (R × SS)} {σ υ τ : SS} {n nk : Nat} {nu : Nat → Nat → Nat} {lo : Nat → Nat} {i c : Nat} {s p o : Int32} {L : List X3} (h : RelD σ n nk nu lo i c s p o L) (r : R) (hf : f σ = some (r, υ)) (hE : Eqo SP (wI σ 10 0 11 0) υ) (hg : g υ = some (r, τ)) (hE2 : Eqo XO (wI (wI υ 11 0 1 0) 11 0 0 0) τ) (hx : RXV τ n i c s p o L) : DR σ n nk nu lo f g := by
  have h1 := h.ps (ps1 σ 0)
  have h2 : RelD υ n nk nu lo i c s p o L := ⟨h1.1.keep hE (fun k m j q => by unfold SP at q; omega), h1.2.1.keep hE (fun k m j q => by unfold SP at q; omega), h1.2.2.1.keep hE (fun j q => by unfold SP at q; omega), h1.2.2.2.keep hE (fun j q => by unfold SP at q; omega)⟩
  have hp : Eqo PS υ (wI (wI υ 11 0 1 0) 11 0 0 0) := (ps3 _ _).tr (ps2 _ _)
  have h3 := h2.ps hp
  refine ⟨r, υ, τ, hf, hg, ⟨i, c, s, p, o, L, ?_, ?_, h3.2.2.1.keepO hE2, hx⟩, ?_, (((PS_PDS (ps1 σ 0)).tr (hE.mono (fun _ _ _ q => .inr (.inr (.inr q))))).tr (PS_PDS hp)).tr (hE2.mono (fun _ _ _ q => .inr (.inl q)))⟩
  · exact h3.1.keep hE2 (fun k m j q => by unfold XO XC at q; omega)
  · exact h3.2.1.keep hE2 (fun k m j q => by unfold XO XC at q; omega)
  · unfold St
    rw [hE2.at1 (by unfold XO XC; omega), hE2.at1 (by unfold XO XC; omega), wI_eq, wI_ne _ _ (by omega), wI_ne _ _ (by omega), hE.at1 (by unfold SP; omega), wI_eq]
theorem DC_SP {σ τ : SS} (h : Eqo (DC 1) σ τ) : Eqo SP σ τ := h.mono (fun k n j q => by unfold DC at q; unfold SP; omega)
theorem VC_SP {σ τ : SS} (h : Eqo (VC 1) σ τ) : Eqo SP σ τ := h.mono (fun k n j q => by unfold VC at q; unfold SP; omega)
theorem op_worse (a b : Int32) {σ : SS} {n nk : Nat} {nu : Nat → Nat → Nat} {lo : Nat → Nat} {i c : Nat} {s p o : Int32} {L : List X3} (h : RelD σ n nk nu lo i c s p o L) (hth : ∃ b : Bool, σ.1 8 0 1 = if b = true then 1 else 0) : DR σ n nk nu lo (fun σ => X11_worse σ a b) (fun σ => X12_worse σ a b) := by
  have h1 := h.ps (ps1 σ 0)
  have h8 := h.1.n8
  have hi := p256 h8 h.2.1.ilt
  rcases lead_or h.1 a with ⟨l, hl, rfl⟩ | ⟨ha, hn⟩
  · rcases in_or b 3 (by decide) with ⟨w, hw, rfl⟩ | ⟨hb, hbn⟩
    · by_cases q : i.testBit l = true
      · obtain ⟨τ1, e1, hT, hE1⟩ := takeOver_ok (σ := wI σ 10 0 11 0) (t := 1) (f := 0) (by decide) (by decide) (by decide) (by
          rw [wI_ne _ _ (by omega)]
          exact hth)
        have hE1' := DC_SP hE1
        have hS0 : RS τ1 0 n nk nu lo := h1.1.keep hE1' (fun k m j q => by unfold SP at q; omega)
        have hV0 : RV τ1 0 n i c s p o L := h1.2.1.keep hE1' (fun k m j q => by unfold SP at q; omega)
        have hS1 := hT.RS h1.1
        have hV1 := hT.RV h1.2.1
        have hlone := isLone_ok (by decide) hS0 hV0 hl
        obtain ⟨υ, e2, hE2, hR2⟩ := pullAt_ok (d := 1) (by decide) h8 hV1 (l := l) (by omega) (popc (lumpF i L l) == 1)
        have hE2' := VC_SP hE2
        have hV0' : RV υ 0 n i c s p o L := hV0.keep hE2' (fun k m j q => by unfold SP at q; omega)
        have hE := hE1'.tr hE2'
        have hX : RXS υ n nk nu lo := h1.2.2.1.keep hE (fun j q => by unfold SP at q; omega)
        have hXV : RXV υ n i c s p o L := h1.2.2.2.keep hE (fun j q => by unfold SP at q; omega)
        have hp : Eqo PS υ (wI (wI υ 11 0 1 0) 11 0 0 0) := (ps3 _ _).tr (ps2 _ _)
        have hX' : RXS (wI (wI υ 11 0 1 0) 11 0 0 0) n nk nu lo := hX.keep hp (fun j q => by unfold PS at q; omega)
        have hXV' : RXV (wI (wI υ 11 0 1 0) 11 0 0 0) n i c s p o L := hXV.keep hp (fun j q => by unfold PS at q; omega)
        obtain ⟨u1, k1, kk1⟩ := xkeeps (wI (wI υ 11 0 1 0) 11 0 0 0)
        have hY1 : RXS u1 n nk nu lo := hX'.of (fun j hj => kk1.2.1 _ _ _ (by omega))
        have hYV1 : RXV u1 n i c s p o L := hXV'.of (fun j hj => kk1.2.1 _ _ _ (by omega))
        obtain ⟨u2, k2, hE3, hYV2⟩ := xpulls hY1 hYV1 hl q
        obtain ⟨u3, k3, kk3⟩ := xgives u2
        obtain ⟨hT3, hE4⟩ := tried kk1 hE3 kk3
        refine triedOp h (nI ((updL (gP l (popc (lumpF i L l) == 1)) L).countP (fun x => x.2.2 == w)) - nI (L.countP (fun x => x.2.2 == w))) ?_ hE ?_ hE4 (hXV'.of hT3)
        · show X11_worse σ (nI l) (nI w) = _
          have e5 : (if popc (lumpF i L l) = 1 then (1 : Int32) else 0) = (if (popc (lumpF i L l) == 1) = true then 1 else 0) := by
            by_cases z : popc (lumpF i L l) = 1
            · rw [if_pos z, if_pos (by rw [z]; rfl)]
            · rw [if_neg z, if_neg (by simp [z])]
          rw [e5] at hlone
          unfold X11_worse X11_worse_j0 X11_worse_j46
          rw [has_in h.1 hl, Option.bind_some, if_neg neg1_0, if_neg (nI_pos (by omega)), if_pos (show nI w ≤ 3 from nI_le (b := 3) hw (by decide)), isIn_in h.1 h.2.1 hl, Option.bind_some, if_pos q, if_neg neg1_0, answers0, Option.bind_some, if_neg neg1_0, e1, Option.bind_some, hlone, Option.bind_some, e2, Option.bind_some, countInState_ok (by decide) hR2 (by omega), Option.bind_some, countInState_ok (by decide) hV0' (by omega), Option.bind_some]
        · show X12_worse υ (nI l) (nI w) = _
          unfold X12_worse X12_worse_j0
          rw [Option.bind_some, Option.bind_some, xisLeadAt_in hX' hl, Option.bind_some, if_neg neg1_0, xisIn_in _ hw (by decide) 3 (by decide), Option.bind_some, if_neg neg1_0, xisInside hX' hXV' hl, Option.bind_some, if_pos q, if_neg neg1_0, xstateMany hXV' (by omega), Option.bind_some, k1, Option.bind_some, k2, Option.bind_some, xstateMany hYV2 (by omega), Option.bind_some, k3, Option.bind_some]
      · refine refused h 9 (-1) ?_ ?_
        · show X11_worse σ (nI l) (nI w) = _
          unfold X11_worse X11_worse_j0 X11_worse_j46
          rw [has_in h.1 hl, Option.bind_some, if_neg neg1_0, if_neg (nI_pos (by omega)), if_pos (show nI w ≤ 3 from nI_le (b := 3) hw (by decide)), isIn_in h.1 h.2.1 hl, Option.bind_some, if_neg q, if_pos rfl, answersN _ (by decide), Option.bind_some, if_pos rfl]
        · show X12_worse (wI σ 10 0 11 9) (nI l) (nI w) = _
          unfold X12_worse X12_worse_j0
          rw [Option.bind_some, Option.bind_some, s0e, s0b h 9 hl, Option.bind_some, if_neg neg1_0, xisIn_in _ hw (by decide) 3 (by decide), Option.bind_some, if_neg neg1_0, s0c h 9 hl, Option.bind_some, if_neg q, if_pos rfl]
          rfl
    · refine refused h 5 (-1) ?_ ?_
      · show X11_worse σ (nI l) b = _
        unfold X11_worse X11_worse_j0 X11_worse_j25 X11_worse_j46
        rw [has_in h.1 hl, Option.bind_some, if_neg neg1_0, answersN _ (show ¬ (5 : Int32) = 0 by decide), Option.bind_some, if_pos rfl]
        rcases hb with q | ⟨q1, q2⟩
        · rw [if_pos q]
        · rw [if_neg q1, if_neg (show ¬ b ≤ 3 from q2)]
      · show X12_worse (wI σ 10 0 11 5) (nI l) b = _
        unfold X12_worse X12_worse_j0
        rw [Option.bind_some, Option.bind_some, s0e, s0b h 5 hl, Option.bind_some, if_neg neg1_0, xisIn_out _ hbn 3 (by decide), Option.bind_some, if_pos rfl]
        rfl
  · refine refused h 2 (-1) ?_ ?_
    · show X11_worse σ a b = _
      unfold X11_worse X11_worse_j0 X11_worse_j46
      rw [hn, Option.bind_some, if_pos rfl, answersN _ (by decide), Option.bind_some, if_pos rfl]
    · show X12_worse (wI σ 10 0 11 2) a b = _
      unfold X12_worse X12_worse_j0
      rw [Option.bind_some, Option.bind_some, s0e, s0a h 2 ha, Option.bind_some, if_pos rfl]
      rfl
