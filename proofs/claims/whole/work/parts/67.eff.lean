/-! ===== LIFE: what each STEP does, both sides ===== -/
def JJ (d : Nat) (σ υ : SS) (n nk : Nat) (nu : Nat → Nat → Nat) (lo : Nat → Nat) (i c : Nat) (s p o : Int32) (L : List X3) (q : Nat) : Prop := RS σ d n nk nu lo ∧ RV σ d n i c s p o L ∧ Dr σ d q ∧ RXS υ n nk nu lo ∧ RXV υ n i c s p o L ∧ DrX υ q ∧ (σ.1 13 28 0 = υ.1 11 0 45 ∧ σ.1 13 28 1 = υ.1 11 0 46 ∧ σ.1 13 28 2 = υ.1 11 0 47 ∧ σ.1 13 28 3 = υ.1 11 0 48)
def LC (d : Nat) : Nat → Nat → Nat → Prop := fun k n j => VC d k n j ∨ WF k n j ∨ (k = 13 ∧ n = 28 ∧ j < 4)
def LX : Nat → Nat → Nat → Prop := fun k n j => XO k n j ∨ FX k n j ∨ (k = 13 ∧ n = 38) ∨ (k = 11 ∧ n = 0 ∧ 45 ≤ j ∧ j ≤ 48)
theorem VC_LC {d : Nat} {σ τ : SS} (h : Eqo (VC d) σ τ) : Eqo (LC d) σ τ := h.mono (fun _ _ _ q => .inl q)
theorem WF_LC {d : Nat} {σ τ : SS} (h : Eqo WF σ τ) : Eqo (LC d) σ τ := h.mono (fun _ _ _ q => .inr (.inl q))
theorem XO_LX {σ τ : SS} (h : Eqo XO σ τ) : Eqo LX σ τ := h.mono (fun _ _ _ q => .inl q)
theorem XC_LX {σ τ : SS} (h : Eqo XC σ τ) : Eqo LX σ τ := XO_LX (XC_XO h)
theorem AX_LX {σ τ : SS} (h : Eqo AX σ τ) : Eqo LX σ τ := h.mono (fun k n j q => by
  rcases q with q | q | q
  · exact .inl (.inl q)
  · exact .inr (.inl q)
  · rcases q with ⟨q1, q2 | q2⟩
    · exact .inl (.inr (.inr ⟨q1, q2⟩))
    · exact .inr (.inr (.inl ⟨q1, q2⟩)))
theorem cnt_at (σ : SS) {k : Nat} (hk : k < 5) : X4_at σ 28 0 (nI k) = some (σ.1 13 28 k) := by
  have h1 : TR 28 = 1 ∧ TW 28 = 5 := by decide
  have := at_ok σ (t := 28) (r := 0) (c := k) (by decide) (by decide) (by rw [h1.2]; exact hk)
  rw [Nat.zero_mul, Nat.zero_add] at this
  exact this
theorem cnt_put (σ : SS) {k : Nat} (hk : k < 5) (x : Int32) : X4_put σ 28 0 (nI k) x = some (wI σ 13 28 k x) := by
  have h1 : TR 28 = 1 ∧ TW 28 = 5 := by decide
  have := put_ok σ (t := 28) (r := 0) (c := k) x (by decide) (by decide) (by rw [h1.2]; exact hk)
  rw [Nat.zero_mul, Nat.zero_add] at this
  exact this
theorem add_ok (σ : SS) {k : Nat} (hk : k < 5) (v : Int32) : X2_add σ (nI k) v = some (wI σ 13 28 k (σ.1 13 28 k + v)) := by
  unfold X2_add X2_add_j0
  rw [cnt_at σ hk, Option.bind_some, cnt_put σ hk, Option.bind_some]
section EF
variable {σ υ : SS} {d n nk i c q : Nat} {s p o : Int32} {nu : Nat → Nat → Nat} {lo : Nat → Nat} {L : List X3}
theorem JJ.rs (h : JJ d σ υ n nk nu lo i c s p o L q) : RS σ d n nk nu lo := h.1
theorem JJ.rv (h : JJ d σ υ n nk nu lo i c s p o L q) : RV σ d n i c s p o L := h.2.1
theorem JJ.dr (h : JJ d σ υ n nk nu lo i c s p o L q) : Dr σ d q := h.2.2.1
theorem JJ.xs (h : JJ d σ υ n nk nu lo i c s p o L q) : RXS υ n nk nu lo := h.2.2.2.1
theorem JJ.xv (h : JJ d σ υ n nk nu lo i c s p o L q) : RXV υ n i c s p o L := h.2.2.2.2.1
theorem JJ.dx (h : JJ d σ υ n nk nu lo i c s p o L q) : DrX υ q := h.2.2.2.2.2.1
/-- drawers have changed, counts not -/
theorem JJ.next {σ' υ' : SS} {i' c' q' : Nat} {s' p' o' : Int32} {L' : List X3} (h : JJ d σ υ n nk nu lo i c s p o L q) (hd : d < 5) (hE : Eqo (VC d) σ σ') (hE2 : Eqo XO υ υ') (hR : RV σ' d n i' c' s' p' o' L') (hX : RXV υ' n i' c' s' p' o' L') (hD : Dr σ' d q') (hDx : DrX υ' q') : JJ d σ' υ' n nk nu lo i' c' s' p' o' L' q' := by
  obtain ⟨g1, g2, g3, g4⟩ := h.2.2.2.2.2.2
  have e28 : ∀ j, σ'.1 13 28 j = σ.1 13 28 j := fun j => hE.at1 (by unfold VC; omega)
  have e11 : ∀ j, 45 ≤ j → j ≤ 48 → υ'.1 11 0 j = υ.1 11 0 j := fun j h1 h2 => hE2.at1 (by unfold XO XC; omega)
  exact ⟨h.1.keepV hE, hR, hD, h.xs.keepO hE2, hX, hDx, by rw [e28, e11 _ (by decide) (by decide)]; exact g1, by rw [e28, e11 _ (by decide) (by decide)]; exact g2, by rw [e28, e11 _ (by decide) (by decide)]; exact g3, by rw [e28, e11 _ (by decide) (by decide)]; exact g4⟩
theorem Dr.xc {υ' : SS} (h : DrX υ q) (hE : Eqo XC υ υ') : DrX υ' q := h.keep hE (by unfold XC; omega)
/-- a step of both that keeps the draws and works on the crossings -/
theorem eff_loosen (hd : d < 5) (h : JJ d σ υ n nk nu lo i c s p o L q) (hdr : ∀ τ, Eqo (VC d) σ τ → X0_loosenOnce σ d = some (nI L.length, τ) → Dr τ d q) : ∃ σ' υ' s' L', X0_loosenOnce σ d = some (nI L.length, σ') ∧ X12_loosensOnce υ = some (nI L.length, υ') ∧ JJ d σ' υ' n nk nu lo i c s' p o L' q ∧ Eqo (LC d) σ σ' ∧ Eqo LX υ υ' := by
  obtain ⟨σ', e1, E1, R1⟩ := loosenOnce_ok hd h.rv
  obtain ⟨υ', e2, E2, R2⟩ := xloosensOnce h.xv
  exact ⟨σ', υ', _, _, e1, e2, h.next hd E1 (XC_XO E2) R1 R2 (hdr σ' E1 e1) (Dr.xc h.dx E2), VC_LC E1, XC_LX E2⟩
end EF
