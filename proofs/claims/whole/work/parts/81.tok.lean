/-! ===== TEXTS: what a token is ===== -/
def rn (P : Nat → Bool) (B : Nat → Nat) (S : Nat) : Nat → Nat → Nat
  | 0, p => p
  | f + 1, p => if p < S ∧ P (B p) = true then rn P B S f (p + 1) else p
/-- behind those from p on of which P holds -/
def rnn (P : Nat → Bool) (B : Nat → Nat) (S p : Nat) : Nat := rn P B S (S - p) p
theorem rnn_ok (P : Nat → Bool) (B : Nat → Nat) (S p : Nat) : p ≤ rnn P B S p ∧ (p ≤ S → rnn P B S p ≤ S) ∧ (∀ j, p ≤ j → j < rnn P B S p → j < S ∧ P (B j) = true) ∧ ¬ (rnn P B S p < S ∧ P (B (rnn P B S p)) = true) := by
  have main : ∀ f p, S - p ≤ f → p ≤ rn P B S f p ∧ (p ≤ S → rn P B S f p ≤ S) ∧ (∀ j, p ≤ j → j < rn P B S f p → j < S ∧ P (B j) = true) ∧ ¬ (rn P B S f p < S ∧ P (B (rn P B S f p)) = true) := by
    intro f
    induction f with
    | zero =>
      intro p hp
      refine ⟨Nat.le_refl _, fun h => h, fun j h1 h2 => ?_, fun h => ?_⟩
      · exact absurd h2 (by show ¬ j < p; omega)
      · exact absurd h.1 (by show ¬ p < S; omega)
    | succ f ih =>
      intro p hp
      unfold rn
      by_cases q : p < S ∧ P (B p) = true
      · rw [if_pos q]
        obtain ⟨h1, h2, h3, h4⟩ := ih (p + 1) (by omega)
        refine ⟨by omega, fun h => h2 (by omega), fun j h5 h6 => ?_, h4⟩
        by_cases e : j = p
        · subst e; exact q
        · exact h3 j (by omega) h6
      · rw [if_neg q]
        exact ⟨Nat.le_refl _, fun h => h, fun j h1 h2 => absurd h2 (by omega), q⟩
  exact main (S - p) p (Nat.le_refl _)
def isBl (b : Nat) : Bool := b == 10 || b == 32
def isLe (b : Nat) : Bool := decide (97 ≤ b ∧ b ≤ 122)
def isDi (b : Nat) : Bool := decide (48 ≤ b ∧ b ≤ 57)
def isSi (b : Nat) : Bool := b == 59 || b == 60 || b == 62 || b == 61
/-- a loop that moves one cell on -/
theorem rn_loop {f : SS → Option (SS ⊕ SS)} {k n j : Nat} (P : Nat → Bool) (B : Nat → Nat) (S p : Nat) (hS : S ≤ 900) (hp : p ≤ S) {σ : SS} (h0 : σ.1 k n j = nI p) (hf : ∀ w e, e ≤ S → Eqo (fun a b c => a = k ∧ b = n ∧ c = j) σ w → w.1 k n j = nI e → f w = if e < S ∧ P (B e) = true then some (Sum.inl (wI w k n j (nI (e + 1)))) else some (Sum.inr w)) : ∃ τ, iter f NF σ = some τ ∧ τ.1 k n j = nI (rnn P B S p) ∧ Eqo (fun a b c => a = k ∧ b = n ∧ c = j) σ τ := by
  obtain ⟨h1, h2, h3, h4⟩ := rnn_ok P B S p
  have h2' := h2 hp
  obtain ⟨-, w, e, g1, g2⟩ := loopI (f := f) (s := σ) (rnn P B S p - p) (fun _ (_ : Unit) (w : SS) => w) (fun _ w => w) (fun m _ w => w.1 k n j = nI (p + m) ∧ Eqo (fun a b c => a = k ∧ b = n ∧ c = j) σ w) () σ rfl ⟨h0, Eqo.rf _ _⟩ (by omega) (fun m u w hm hI => by
    obtain ⟨g1, g2⟩ := hI
    have hj := h3 (p + m) (by omega) (by omega)
    refine ⟨(), wI w k n j (nI (p + m + 1)), ?_, ?_, g2.tr (Eqo.wI ⟨rfl, rfl, rfl⟩)⟩
    · rw [hf w (p + m) (by omega) g2 g1, if_pos hj]
    · rw [wI_eq, Nat.add_assoc]) (fun u w hI => by
    obtain ⟨g1, g2⟩ := hI
    rw [show p + (rnn P B S p - p) = rnn P B S p by omega] at g1
    rw [hf w _ h2' g2 g1, if_neg h4])
  rw [show p + (rnn P B S p - p) = rnn P B S p by omega] at g1
  exact ⟨w, e, g1, g2⟩
/-- the text on both sides -/
def TxR (B : Nat → Nat) (S : Nat) (σ υ : SS) : Prop := S ≤ 900 ∧ σ.1 4 0 2 = nI S ∧ υ.1 11 0 9 = nI S ∧ ∀ j, j < S → B j < 256 ∧ σ.1 13 31 j = nI (B j) ∧ (υ.1 12 0 j) &&& 255 = nI (B j)
section TO
variable {σ υ : SS} {B : Nat → Nat} {S : Nat}
theorem byteAt_in (h2 : σ.1 4 0 2 = nI S) (hS : S ≤ 900) {p : Nat} (hp : p < S) (hb : σ.1 13 31 p = nI (B p)) : X5_byteAt σ (nI p) = some (nI (B p)) := by
  have l31 : LN 13 31 = 900 := lens.2.2.2.2.2.2.2.2.2.2.2.2.2.2.2.1
  unfold X5_byteAt X5_byteAt_j0
  rw [if_neg (nI_pos (by omega)), h2, if_neg (nI_ge hp (by omega)), l31, if_neg (nI_ge (by omega) (by decide)), ck_nI (by omega) (by decide), Option.bind_some, hb]
theorem look2_in (h9 : υ.1 11 0 9 = nI S) (hS : S ≤ 900) {p : Nat} (hp : p < S) (hb : (υ.1 12 0 p) &&& 255 = nI (B p)) : X12_look2 υ (nI p) = some (nI (B p)) := by
  unfold X12_look2 X12_look2_j0
  rw [h9, if_neg (nI_ge hp (by omega)), show LN 12 0 = 900 from rfl, ck_nI (by omega) (by decide), Option.bind_some, hb]
theorem look2_out (h9 : υ.1 11 0 9 = nI S) (hS : S ≤ 900) {p : Nat} (hp : S ≤ p) (hp2 : p < 2000) : X12_look2 υ (nI p) = some 0 := by
  unfold X12_look2 X12_look2_j0
  rw [h9, if_pos (nI_le hp (by omega))]
theorem cl_blank (σ : SS) {b : Nat} (hb : b < 256) : X5_isBlank σ (nI b) = some (if isBl b = true then 1 else 0) := by
  unfold X5_isBlank X5_isBlank_j0 X5_isBlank_j12 isBl
  by_cases q : b = 10
  · subst q; rfl
  · rw [if_neg (show ¬ nI b = 10 from wne q (by omega) (by decide))]
    by_cases q2 : b = 32
    · subst q2; rfl
    · rw [if_neg (show ¬ nI b = 32 from wne q2 (by omega) (by decide)), if_neg (by simp [q, q2])]
theorem cl_letter (σ : SS) {b : Nat} (hb : b < 256) : X5_isLetter σ (nI b) = some (if isLe b = true then 1 else 0) ∧ X12_isLetter σ (nI b) = some (if isLe b = true then 1 else 0) := by
  have key : (if nI b < 97 then (some 0 : Option Int32) else (if 122 < nI b then some 0 else some 1)) = some (if isLe b = true then 1 else 0) := by
    unfold isLe
    by_cases q : b < 97
    · rw [if_pos (show nI b < 97 from nI_lt (b := 97) q (by decide)), if_neg (by simp; omega)]
    · rw [if_neg (show ¬ nI b < 97 from nI_nlt (b := 97) (by omega) (by omega))]
      by_cases q2 : 122 < b
      · rw [if_pos (show (122 : Int32) < nI b from nI_lt (a := 122) q2 (by omega)), if_neg (by simp; omega)]
      · rw [if_neg (show ¬ (122 : Int32) < nI b from nI_nlt (a := 122) (by omega) (by decide)), if_pos (by simp; omega)]
  exact ⟨key, key⟩
theorem cl_digit (σ : SS) {b : Nat} (hb : b < 256) : X5_isDigit σ (nI b) = some (if isDi b = true then 1 else 0) ∧ X12_isDigit σ (nI b) = some (if isDi b = true then 1 else 0) := by
  have key : (if nI b < 48 then (some 0 : Option Int32) else (if 57 < nI b then some 0 else some 1)) = some (if isDi b = true then 1 else 0) := by
    unfold isDi
    by_cases q : b < 48
    · rw [if_pos (show nI b < 48 from nI_lt (b := 48) q (by decide)), if_neg (by simp; omega)]
    · rw [if_neg (show ¬ nI b < 48 from nI_nlt (b := 48) (by omega) (by omega))]
      by_cases q2 : 57 < b
      · rw [if_pos (show (57 : Int32) < nI b from nI_lt (a := 57) q2 (by omega)), if_neg (by simp; omega)]
      · rw [if_neg (show ¬ (57 : Int32) < nI b from nI_nlt (a := 57) (by omega) (by decide)), if_pos (by simp; omega)]
  exact ⟨key, key⟩
theorem cl_sign (σ : SS) {b : Nat} (hb : b < 256) : X5_isSign σ (nI b) = some (if isSi b = true then 1 else 0) ∧ X12_isSignByte σ (nI b) = some (if isSi b = true then 1 else 0) := by
  have key : (if nI b = 59 then (some 1 : Option Int32) else (if nI b = 60 then some 1 else (if nI b = 62 then some 1 else (if nI b = 61 then some 1 else some 0)))) = some (if isSi b = true then 1 else 0) := by
    unfold isSi
    by_cases q : b = 59
    · subst q; rfl
    · rw [if_neg (show ¬ nI b = 59 from wne q (by omega) (by decide))]
      by_cases q2 : b = 60
      · subst q2; rfl
      · rw [if_neg (show ¬ nI b = 60 from wne q2 (by omega) (by decide))]
        by_cases q3 : b = 62
        · subst q3; rfl
        · rw [if_neg (show ¬ nI b = 62 from wne q3 (by omega) (by decide))]
          by_cases q4 : b = 61
          · subst q4; rfl
          · rw [if_neg (show ¬ nI b = 61 from wne q4 (by omega) (by decide)), if_neg (by simp [q, q2, q3, q4])]
  exact ⟨key, key⟩
end TO
