/-! ===== TEXTS: the next token, the class ===== -/
/-- where the token behind p starts, where it stops, what it is: 0 none, 1 a word, 2 a number, 3 a sign, 4 none of these -/
def tkA (B : Nat → Nat) (S p : Nat) : Nat := rnn isBl B S p
def tkZ (B : Nat → Nat) (S a : Nat) : Nat := if S ≤ a then a else if isLe (B a) = true then rnn isLe B S a else if isDi (B a) = true then rnn isDi B S a else a + 1
def tkK (B : Nat → Nat) (S a : Nat) : Nat := if S ≤ a then 0 else if isLe (B a) = true then 1 else if isDi (B a) = true then (if rnn isDi B S a - a ≤ 4 then 2 else 4) else (if isSi (B a) = true then 3 else 4)
/-- how the class numbers them -/
def clK (k : Nat) : Nat := if k = 0 then 0 else if k = 4 then 1 else k + 1
theorem rnn_no {P : Nat → Bool} {B : Nat → Nat} {S a : Nat} (h : ¬ (a < S ∧ P (B a) = true)) : rnn P B S a = a := by
  unfold rnn
  cases S - a with
  | zero => rfl
  | succ f =>
    unfold rn
    rw [if_neg h]
theorem rnn_yes {P : Nat → Bool} {B : Nat → Nat} {S a : Nat} (h : a < S ∧ P (B a) = true) : a < rnn P B S a := by
  obtain ⟨h1, h2, h3, h4⟩ := rnn_ok P B S a
  by_cases e : rnn P B S a = a
  · rw [e] at h4
    exact absurd h h4
  · omega
theorem le_di {b : Nat} (h : isLe b = true) : isDi b = false := by
  unfold isLe at h
  unfold isDi
  simp at h ⊢
  omega
section NX
variable {σ : SS} {B : Nat → Nat} {S : Nat}
def TxC (B : Nat → Nat) (S : Nat) (σ : SS) : Prop := S ≤ 900 ∧ σ.1 4 0 2 = nI S ∧ ∀ j, j < S → B j < 256 ∧ σ.1 13 31 j = nI (B j)
theorem TxC.keep {τ : SS} {P : Nat → Nat → Nat → Prop} (h : TxC B S σ) (hE : Eqo P σ τ) (hP : ∀ k n j, P k n j → ¬ ((k = 4 ∧ n = 0 ∧ j = 2) ∨ (k = 13 ∧ n = 31))) : TxC B S τ := by
  obtain ⟨h1, h2, h3⟩ := h
  refine ⟨h1, (hE.at1 (fun q => hP _ _ _ q (by omega))).trans h2, fun j hj => ⟨(h3 j hj).1, (hE.at1 (fun q => hP _ _ _ q (by omega))).trans (h3 j hj).2⟩⟩
theorem TxC.at (h : TxC B S σ) {p : Nat} (hp : p < S) : X5_byteAt σ (nI p) = some (nI (B p)) := byteAt_in h.2.1 h.1 hp (h.2.2 p hp).2
theorem next_ok (h : TxC B S σ) {p : Nat} (hp : p ≤ S) (h5 : σ.1 4 0 5 = nI p) (wn : Int32) (hw : ∀ w, TxC B S w → w.1 4 0 4 = nI (tkA B S p) → w.1 4 0 5 = nI (tkZ B S (tkA B S p)) → X5_numberOfWord w = some wn) : ∃ τ, X5_next σ = some τ ∧ τ.1 4 0 4 = nI (tkA B S p) ∧ τ.1 4 0 5 = nI (tkZ B S (tkA B S p)) ∧ τ.1 4 0 3 = nI (clK (tkK B S (tkA B S p))) ∧ (tkK B S (tkA B S p) = 1 → τ.1 4 0 6 = wn) ∧ (tkK B S (tkA B S p) ≠ 1 → τ.1 4 0 6 = -1) ∧ Eqo (fun k n j => k = 4 ∧ n = 0 ∧ 3 ≤ j ∧ j ≤ 6) σ τ := by
  have hS := h.1
  -- blanks
  have hE0 : Eqo (fun k n j => k = 4 ∧ n = 0 ∧ 3 ≤ j ∧ j ≤ 6) σ (wI σ 4 0 4 (nI p)) := Eqo.wI (by omega)
  obtain ⟨σ1, e1, a1, E1⟩ := rn_loop (f := X5_next_l12b) (k := 4) (n := 0) (j := 4) isBl B S p hS hp (σ := wI σ 4 0 4 (nI p)) (wI_eq _ _ _ _ _) (fun w e he hE hc => by
    have hw1 := (h.keep hE0 (fun k n j q => by omega)).keep hE (fun k n j q => by omega)
    show X5_next_l12c w = _
    unfold X5_next_l12c
    rw [hw1.2.1, hc]
    by_cases q : e < S
    · rw [if_neg (nI_ge q (by omega)), hw1.at q, Option.bind_some, cl_blank w (hw1.2.2 e q).1, Option.bind_some]
      by_cases y : isBl (B e) = true
      · rw [if_pos y, if_neg neg1_0, nI_1, Option.bind_some, if_pos ⟨q, y⟩]
      · rw [if_neg y, if_pos rfl, if_neg (fun z => y z.2)]
    · rw [if_pos (nI_le (by omega) (by omega)), if_neg (fun z => q z.1)])
  have hA : rnn isBl B S p = tkA B S p := rfl
  rw [hA] at a1
  have haS : tkA B S p ≤ S := (rnn_ok isBl B S p).2.1 hp
  generalize tkA B S p = a at *
  have E01 : Eqo (fun k n j => k = 4 ∧ n = 0 ∧ 3 ≤ j ∧ j ≤ 6) σ σ1 := hE0.tr (E1.mono (fun k n j q => by omega))
  -- letters
  have hE2 : Eqo (fun k n j => k = 4 ∧ n = 0 ∧ 3 ≤ j ∧ j ≤ 6) σ (wI σ1 4 0 5 (nI a)) := E01.tr (Eqo.wI (by omega))
  have scan : ∀ (P : Nat → Bool) (isP : SS → Int32 → Option Int32) (σ0 : SS) (f : SS → Option (SS ⊕ SS)), Eqo (fun k n j => k = 4 ∧ n = 0 ∧ 3 ≤ j ∧ j ≤ 6) σ σ0 → σ0.1 4 0 5 = nI a → (∀ w b, b < 256 → isP w (nI b) = some (if P b = true then 1 else 0)) → (∀ w, f w = if w.1 4 0 2 ≤ w.1 4 0 5 then some (Sum.inr w) else ((X5_byteAt w (w.1 4 0 5)).bind fun v => (isP w v).bind fun v77 => if v77 = 0 then some (Sum.inr w) else ((some (wI w 4 0 5 (w.1 4 0 5 + 1))).bind fun s => some (Sum.inl s)))) → ∃ τ, iter f NF σ0 = some τ ∧ τ.1 4 0 5 = nI (rnn P B S a) ∧ Eqo (fun k n j => k = 4 ∧ n = 0 ∧ j = 5) σ0 τ := fun P isP σ0 f hE h05 hP hf => by
    refine rn_loop P B S a hS haS h05 (fun w e he hE' hc => ?_)
    have hw1 := (h.keep hE (fun k n j q => by omega)).keep hE' (fun k n j q => by omega)
    rw [hf w, hw1.2.1, hc]
    by_cases q : e < S
    · rw [if_neg (nI_ge q (by omega)), hw1.at q, Option.bind_some, hP w _ (hw1.2.2 e q).1, Option.bind_some]
      by_cases y : P (B e) = true
      · rw [if_pos y, if_neg neg1_0, nI_1, Option.bind_some, if_pos ⟨q, y⟩]
      · rw [if_neg y, if_pos rfl, if_neg (fun z => y z.2)]
    · rw [if_pos (nI_le (by omega) (by omega)), if_neg (fun z => q z.1)]
  have hN : X5_next σ = X5_next_l58 (wI σ1 4 0 5 (nI a)) := by
    unfold X5_next X5_next_j0 X5_next_l12 X5_next_j50
    have e5 : imax (nI p) 0 = nI p := by
      have := imax_nI (a := p) (b := 0) (by omega) (by decide)
      rw [Nat.max_zero] at this
      exact this
    rw [h5, e5, Option.bind_some, e1, Option.bind_some, a1, Option.bind_some]
  obtain ⟨σ2, e2, b2, E2⟩ := scan isLe X5_isLetter (wI σ1 4 0 5 (nI a)) X5_next_l58b hE2 (wI_eq _ _ _ _ _) (fun w b hb => (cl_letter w hb).1) (fun w => rfl)
  have c4 : σ2.1 4 0 4 = nI a := by rw [E2.at1 (by omega), wI_ne _ _ (by omega)]; exact a1
  have E02 : Eqo (fun k n j => k = 4 ∧ n = 0 ∧ 3 ≤ j ∧ j ≤ 6) σ (wI σ2 4 0 6 (-1)) := (hE2.tr (E2.mono (fun k n j q => by omega))).tr (Eqo.wI (by omega))
  have d4 : (wI σ2 4 0 6 (-1)).1 4 0 4 = nI a := by rw [wI_ne _ _ (by omega)]; exact c4
  have d5 : (wI σ2 4 0 6 (-1)).1 4 0 5 = nI (rnn isLe B S a) := by rw [wI_ne _ _ (by omega)]; exact b2
  have d6 : (wI σ2 4 0 6 (-1)).1 4 0 6 = -1 := wI_eq _ _ _ _ _
  have hN2 : X5_next σ = if nI (rnn isLe B S a) ≤ nI a then X5_next_l126 (wI σ2 4 0 6 (-1)) else ((X5_numberOfWord (wI (wI σ2 4 0 6 (-1)) 4 0 3 2)).bind fun v119 => some (wI (wI (wI σ2 4 0 6 (-1)) 4 0 3 2) 4 0 6 v119)) := by
    rw [hN]
    unfold X5_next_l58 X5_next_j96
    rw [e2, Option.bind_some, Option.bind_some, d5, d4, Option.bind_some]
    rfl
  generalize wI σ2 4 0 6 (-1) = σ3 at *
  have hlS : rnn isLe B S a ≤ S := (rnn_ok isLe B S a).2.1 haS
  have hla : a ≤ rnn isLe B S a := (rnn_ok isLe B S a).1
  have hdS : rnn isDi B S a ≤ S := (rnn_ok isDi B S a).2.1 haS
  have hda : a ≤ rnn isDi B S a := (rnn_ok isDi B S a).1
  by_cases hle : a < S ∧ isLe (B a) = true
  · -- a word
    have hlt := rnn_yes hle
    have hz : tkZ B S a = rnn isLe B S a := by
      unfold tkZ
      rw [if_neg (by omega), if_pos hle.2]
    have hk : tkK B S a = 1 := by
      unfold tkK
      rw [if_neg (by omega), if_pos hle.2]
    have E3 : Eqo (fun k n j => k = 4 ∧ n = 0 ∧ j = 3) σ3 (wI σ3 4 0 3 2) := Eqo.wI ⟨rfl, rfl, rfl⟩
    have hx := hw (wI σ3 4 0 3 2) ((h.keep E02 (fun k n j q => by omega)).keep E3 (fun k n j q => by omega)) ((E3.at1 (by omega)).trans d4) (((E3.at1 (by omega)).trans d5).trans (by rw [hz]))
    rw [if_neg (nI_ge hlt (by omega)), hx, Option.bind_some] at hN2
    refine ⟨_, hN2, ?_, ?_, ?_, fun _ => wI_eq _ _ _ _ _, fun z => absurd hk z, (E02.tr (E3.mono (fun k n j q => by omega))).tr (Eqo.wI (by omega))⟩
    · rw [wI_ne _ _ (by omega), wI_ne _ _ (by omega)]; exact d4
    · rw [wI_ne _ _ (by omega), wI_ne _ _ (by omega), hz]; exact d5
    · rw [wI_ne _ _ (by omega), wI_eq, hk]; rfl
  · have hl0 : rnn isLe B S a = a := rnn_no hle
    rw [hl0] at d5
    rw [hl0, if_pos (nI_le (Nat.le_refl _) (by omega))] at hN2
    obtain ⟨σ4, e4, b4, E4⟩ := scan isDi X5_isDigit σ3 X5_next_l126b E02 d5 (fun w b hb => (cl_digit w hb).1) (fun w => rfl)
    have f4 : σ4.1 4 0 4 = nI a := (E4.at1 (by omega)).trans d4
    have f6 : σ4.1 4 0 6 = -1 := (E4.at1 (by omega)).trans d6
    have E04 : Eqo (fun k n j => k = 4 ∧ n = 0 ∧ 3 ≤ j ∧ j ≤ 6) σ σ4 := E02.tr (E4.mono (fun k n j q => by omega))
    have hT4 := h.keep E04 (fun k n j q => by omega)
    have hN3 : X5_next σ = X5_next_j164 σ4 := by
      rw [hN2]
      unfold X5_next_l126
      rw [e4, Option.bind_some]
    unfold X5_next_j164 at hN3
    rw [b4, f4, hT4.2.1] at hN3
    by_cases hdi : a < S ∧ isDi (B a) = true
    · have hlt := rnn_yes hdi
      have hle' : ¬ isLe (B a) = true := fun z => hle ⟨hdi.1, z⟩
      have hz : tkZ B S a = rnn isDi B S a := by
        unfold tkZ
        rw [if_neg (by omega), if_neg hle', if_pos hdi.2]
      have hk : tkK B S a = if rnn isDi B S a - a ≤ 4 then 2 else 4 := by
        unfold tkK
        rw [if_neg (by omega), if_neg hle', if_pos hdi.2]
      rw [if_neg (nI_ge hlt (by omega)), nI_subN hda] at hN3
      unfold X5_next_j194 at hN3
      rw [Option.bind_some] at hN3
      refine ⟨_, hN3, ?_, ?_, ?_, fun z => ?_, fun _ => ?_, E04.tr (Eqo.wI (by omega))⟩
      · rw [wI_ne _ _ (by omega)]; exact f4
      · rw [wI_ne _ _ (by omega), hz]; exact b4
      · rw [wI_eq, hk]
        by_cases y : rnn isDi B S a - a ≤ 4
        · rw [if_pos y, if_neg (show ¬ (4 : Int32) < nI (rnn isDi B S a - a) from nI_nlt (a := 4) y (by decide))]
          rfl
        · rw [if_neg y, if_pos (show (4 : Int32) < nI (rnn isDi B S a - a) from nI_lt (a := 4) (by omega) (by omega))]
          rfl
      · rw [hk] at z
        split at z <;> cases z
      · rw [wI_ne _ _ (by omega)]; exact f6
    · have hd0 : rnn isDi B S a = a := rnn_no hdi
      rw [hd0, if_pos (nI_le (Nat.le_refl _) (by omega))] at hN3
      by_cases q : a < S
      · have hle' : ¬ isLe (B a) = true := fun z => hle ⟨q, z⟩
        have hdi' : ¬ isDi (B a) = true := fun z => hdi ⟨q, z⟩
        have hz : tkZ B S a = a + 1 := by
          unfold tkZ
          rw [if_neg (by omega), if_neg hle', if_neg hdi']
        have hk : tkK B S a = if isSi (B a) = true then 3 else 4 := by
          unfold tkK
          rw [if_neg (by omega), if_neg hle', if_neg hdi']
        rw [if_pos (nI_lt q (by omega)), hT4.at q, Option.bind_some, (cl_sign σ4 (hT4.2.2 a q).1).1, Option.bind_some] at hN3
        unfold X5_next_j233 at hN3
        rw [Option.bind_some, wI_ne _ _ (by omega), f4, wI_ne _ _ (by omega), hT4.2.1, nI_1, imin_nI (by omega) (by omega), Nat.min_eq_left (by omega), Option.bind_some] at hN3
        refine ⟨_, hN3, ?_, ?_, ?_, fun z => ?_, fun _ => ?_, (E04.tr (Eqo.wI (by omega))).tr (Eqo.wI (by omega))⟩
        · rw [wI_ne _ _ (by omega), wI_ne _ _ (by omega)]; exact f4
        · rw [wI_eq, hz]
        · rw [wI_ne _ _ (by omega), wI_eq, hk]
          by_cases y : isSi (B a) = true
          · rw [if_pos y, if_pos y, if_neg neg1_0]; rfl
          · rw [if_neg y, if_neg y, if_pos rfl]; rfl
        · rw [hk] at z
          split at z <;> cases z
        · rw [wI_ne _ _ (by omega), wI_ne _ _ (by omega)]; exact f6
      · have haS' : a = S := by omega
        have hz : tkZ B S a = a := by
          unfold tkZ
          rw [if_pos (by omega)]
        have hk : tkK B S a = 0 := by
          unfold tkK
          rw [if_pos (by omega)]
        rw [if_neg (nI_nlt (by omega) (by omega))] at hN3
        unfold X5_next_j233 at hN3
        rw [Option.bind_some, wI_ne _ _ (by omega), f4, wI_ne _ _ (by omega), hT4.2.1, nI_1, imin_nI (by omega) (by omega), Nat.min_eq_right (by omega), Option.bind_some] at hN3
        refine ⟨_, hN3, ?_, ?_, ?_, fun z => ?_, fun _ => ?_, (E04.tr (Eqo.wI (by omega))).tr (Eqo.wI (by omega))⟩
        · rw [wI_ne _ _ (by omega), wI_ne _ _ (by omega)]; exact f4
        · rw [wI_eq, hz, haS']
        · rw [wI_ne _ _ (by omega), wI_eq, hk]; rfl
        · rw [hk] at z; cases z
        · rw [wI_ne _ _ (by omega), wI_ne _ _ (by omega)]; exact f6
end NX
