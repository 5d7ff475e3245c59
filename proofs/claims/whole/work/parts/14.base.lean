/-! ===== PURE: numbers, loops, tables, frames ===== -/
theorem l0 : (0 : Int32) = nI 0 := rfl
theorem l1 : (1 : Int32) = nI 1 := rfl
theorem lits : ((0 : Int32) = nI 0) ∧ ((1 : Int32) = nI 1) ∧ ((2 : Int32) = nI 2) ∧ ((3 : Int32) = nI 3) ∧ ((4 : Int32) = nI 4) ∧ ((5 : Int32) = nI 5) ∧ ((6 : Int32) = nI 6) ∧ ((7 : Int32) = nI 7) ∧ ((8 : Int32) = nI 8) ∧ ((9 : Int32) = nI 9) ∧ ((10 : Int32) = nI 10) ∧ ((11 : Int32) = nI 11) ∧ ((12 : Int32) = nI 12) ∧ ((13 : Int32) = nI 13) ∧ ((14 : Int32) = nI 14) ∧ ((15 : Int32) = nI 15) ∧ ((16 : Int32) = nI 16) ∧ ((17 : Int32) = nI 17) ∧ ((18 : Int32) = nI 18) ∧ ((19 : Int32) = nI 19) ∧ ((20 : Int32) = nI 20) ∧ ((21 : Int32) = nI 21) ∧ ((22 : Int32) = nI 22) ∧ ((23 : Int32) = nI 23) ∧ ((24 : Int32) = nI 24) ∧ ((30 : Int32) = nI 30) ∧ ((31 : Int32) = nI 31) ∧ ((32 : Int32) = nI 32) ∧ ((40 : Int32) = nI 40) ∧ ((44 : Int32) = nI 44) ∧ ((48 : Int32) = nI 48) ∧ ((52 : Int32) = nI 52) ∧ ((56 : Int32) = nI 56) ∧ ((57 : Int32) = nI 57) ∧ ((59 : Int32) = nI 59) ∧ ((60 : Int32) = nI 60) ∧ ((61 : Int32) = nI 61) ∧ ((62 : Int32) = nI 62) ∧ ((63 : Int32) = nI 63) ∧ ((84 : Int32) = nI 84) ∧ ((97 : Int32) = nI 97) ∧ ((99 : Int32) = nI 99) ∧ ((100 : Int32) = nI 100) ∧ ((101 : Int32) = nI 101) ∧ ((102 : Int32) = nI 102) ∧ ((103 : Int32) = nI 103) ∧ ((104 : Int32) = nI 104) ∧ ((105 : Int32) = nI 105) ∧ ((107 : Int32) = nI 107) ∧ ((108 : Int32) = nI 108) ∧ ((109 : Int32) = nI 109) ∧ ((110 : Int32) = nI 110) ∧ ((111 : Int32) = nI 111) ∧ ((112 : Int32) = nI 112) ∧ ((114 : Int32) = nI 114) ∧ ((115 : Int32) = nI 115) ∧ ((116 : Int32) = nI 116) ∧ ((117 : Int32) = nI 117) ∧ ((119 : Int32) = nI 119) ∧ ((122 : Int32) = nI 122) ∧ ((127 : Int32) = nI 127) ∧ ((128 : Int32) = nI 128) ∧ ((132 : Int32) = nI 132) ∧ ((133 : Int32) = nI 133) ∧ ((134 : Int32) = nI 134) ∧ ((192 : Int32) = nI 192) ∧ ((255 : Int32) = nI 255) ∧ ((300 : Int32) = nI 300) ∧ ((410 : Int32) = nI 410) ∧ ((900 : Int32) = nI 900) ∧ ((999 : Int32) = nI 999) ∧ ((1000 : Int32) = nI 1000) ∧ ((1640 : Int32) = nI 1640) ∧ ((1641 : Int32) = nI 1641) ∧ ((1642 : Int32) = nI 1642) ∧ ((1643 : Int32) = nI 1643) ∧ ((1644 : Int32) = nI 1644) ∧ ((1648 : Int32) = nI 1648) ∧ ((1656 : Int32) = nI 1656) ∧ ((1664 : Int32) = nI 1664) ∧ ((1672 : Int32) = nI 1672) ∧ ((1680 : Int32) = nI 1680) ∧ ((1688 : Int32) = nI 1688) ∧ ((1696 : Int32) = nI 1696) ∧ ((1700 : Int32) = nI 1700) ∧ ((1724 : Int32) = nI 1724) ∧ ((1748 : Int32) = nI 1748) ∧ ((1774 : Int32) = nI 1774) ∧ ((2897 : Int32) = nI 2897) ∧ ((9999 : Int32) = nI 9999) ∧ ((10000 : Int32) = nI 10000) ∧ ((10529 : Int32) = nI 10529) ∧ ((65535 : Int32) = nI 65535) ∧ ((65536 : Int32) = nI 65536) ∧ ((99999 : Int32) = nI 99999) ∧ ((1000000 : Int32) = nI 1000000) ∧ ((1073741824 : Int32) = nI 1073741824) := ⟨rfl, rfl, rfl, rfl, rfl, rfl, rfl, rfl, rfl, rfl, rfl, rfl, rfl, rfl, rfl, rfl, rfl, rfl, rfl, rfl, rfl, rfl, rfl, rfl, rfl, rfl, rfl, rfl, rfl, rfl, rfl, rfl, rfl, rfl, rfl, rfl, rfl, rfl, rfl, rfl, rfl, rfl, rfl, rfl, rfl, rfl, rfl, rfl, rfl, rfl, rfl, rfl, rfl, rfl, rfl, rfl, rfl, rfl, rfl, rfl, rfl, rfl, rfl, rfl, rfl, rfl, rfl, rfl, rfl, rfl, rfl, rfl, rfl, rfl, rfl, rfl, rfl, rfl, rfl, rfl, rfl, rfl, rfl, rfl, rfl, rfl, rfl, rfl, rfl, rfl, rfl, rfl, rfl, rfl, rfl, rfl, rfl⟩
theorem lens : LN 12 0 = 900 ∧ LN 13 32 = 4 ∧ LN 13 33 = 4 ∧ LN 13 34 = 2050 ∧ LN 13 35 = 132 ∧ LN 13 36 = 24 ∧ LN 13 37 = 24 ∧ LN 13 38 = 4 ∧ LN 13 39 = 4 ∧ LN 13 40 = 256 ∧ LN 13 41 = 8 ∧ LN 13 42 = 8 ∧ LN 13 43 = 132 ∧ LN 13 44 = 5 ∧ LN 13 45 = 132 ∧ LN 13 31 = 900 ∧ LN 14 5 = 240 ∧ LN 14 6 = 240 ∧ LN 14 7 = 55 ∧ LN 15 0 = 3 := by decide +kernel
theorem nI_subN {a b : Nat} (h : b ≤ a) : nI a - nI b = nI (a - b) := pk_sub h
theorem nI_addm {a : Nat} (h : 0 < a) : nI a + -nI 1 = nI (a - 1) := by
  rw [← nI_subN (a := a) (b := 1) h, Int32.sub_eq_add_neg]
theorem m1_toInt : (-nI 1).toInt = -1 := by decide
theorem ne_m1 {a : Nat} (h : a < 2147483648) : ¬ nI a = -nI 1 := fun q => by
  have h1 := congrArg Int32.toInt q
  rw [nI_toInt h, m1_toInt] at h1
  omega
section IFS
variable {α : Type} {a b : Nat} {x y : α}
theorem le_t (h : a ≤ b) (hb : b < 2147483648) : (if nI a ≤ nI b then x else y) = x := if_pos (nI_le h hb)
theorem le_f (h : b < a) (ha : a < 2147483648) : (if nI a ≤ nI b then x else y) = y := if_neg (nI_ge h ha)
theorem lt_t (h : a < b) (hb : b < 2147483648) : (if nI a < nI b then x else y) = x := if_pos (nI_lt h hb)
theorem lt_f (h : b ≤ a) (ha : a < 2147483648) : (if nI a < nI b then x else y) = y := if_neg (nI_nlt h ha)
theorem eq_t (h : a = b) : (if nI a = nI b then x else y) = x := if_pos (by rw [h])
theorem eq_f (h : ¬ a = b) (ha : a < 2147483648) (hb : b < 2147483648) : (if nI a = nI b then x else y) = y := if_neg (fun q => h ((nI_eq ha hb).mp q))
theorem lz_f (ha : a < 2147483648) : (if nI a < 0 then x else y) = y := if_neg (nI_pos ha)
theorem zl_t (h : 0 < a) (ha : a < 2147483648) : (if (0 : Int32) < nI a then x else y) = x := if_pos (by rw [l0]; exact nI_lt h ha)
theorem zl_f (h : a = 0) : (if (0 : Int32) < nI a then x else y) = y := if_neg (by subst h; exact nI_nlt (Nat.le_refl _) (by decide))
theorem ez_t (h : a = 0) : (if nI a = 0 then x else y) = x := if_pos (by rw [h]; rfl)
theorem ez_f (h : 0 < a) (ha : a < 2147483648) : (if nI a = 0 then x else y) = y := if_neg (nI_ne0 h ha)
theorem em_f (ha : a < 2147483648) : (if nI a = -nI 1 then x else y) = y := if_neg (ne_m1 ha)
theorem me_f (hb : b < 2147483648) : (if -nI 1 = nI b then x else y) = y := if_neg (fun q => ne_m1 hb q.symm)
end IFS
theorem nI_lz {a : Nat} (h : a < 2147483648) : ¬ nI a < 0 := nI_pos h
theorem nI_add1 (a : Nat) : nI a + 1 = nI (a + 1) := nI_1 a
theorem nI_sub1 {a : Nat} (h : 0 < a) : nI a - 1 = nI (a - 1) := pk_sub (a := a) (b := 1) h
theorem ck_nI {len j : Nat} (h : j < len) (h2 : len < 2147483648) : ck len (nI j) = some j := by
  unfold ck
  rw [nI_clamp (by omega), if_neg]
  rintro (q | q)
  · exact nI_pos (by omega) q
  · omega
theorem zb_0 : zb 0 = some 0 := rfl
theorem zb_1 : zb 1 = some 1 := rfl
theorem zb_i {c : Prop} [Decidable c] : zb (if c then 1 else 0) = some (if c then 1 else 0) := by split <;> rfl
/-- a loop that is known step by step -/
theorem iter_for {S T : Type} {f : S → Option (S ⊕ T)} {s : S} (st : Nat → S) (N : Nat) {t : T} (h0 : s = st 0) (hN : N < 2000000) (hs : ∀ k, k < N → f (st k) = some (Sum.inl (st (k + 1)))) (he : f (st N) = some (Sum.inr t)) : iter f NF s = some t := by
  subst h0
  have key : ∀ j n, j + n = N → ∀ F, n < F → iter f F (st j) = some t := by
    intro j n
    induction n generalizing j with
    | zero =>
      intro hj F hF
      obtain ⟨F, rfl⟩ := Nat.exists_eq_succ_of_ne_zero (Nat.ne_of_gt hF)
      have : j = N := by omega
      subst this
      simp only [iter, he, Option.bind_some]
    | succ n ih =>
      intro hj F hF
      obtain ⟨F, rfl⟩ := Nat.exists_eq_succ_of_ne_zero (by omega : F ≠ 0)
      simp only [iter, hs j (by omega), Option.bind_some]
      exact ih (j + 1) (by omega) F (by omega)
  exact key 0 N (by omega) NF (by unfold NF; omega)
/-- a loop with an invariant and a measure -/
theorem iter_inv {S T : Type} {f : S → Option (S ⊕ T)} (I : S → Prop) (μ : S → Nat) (R : T → Prop) (hs : ∀ s, I s → (∃ s', f s = some (Sum.inl s') ∧ I s' ∧ μ s' < μ s) ∨ ∃ t, f s = some (Sum.inr t) ∧ R t) {s : S} (h0 : I s) (hm : μ s < 2000000) : ∃ t, iter f NF s = some t ∧ R t := by
  have key : ∀ F s, I s → μ s < F → ∃ t, iter f F s = some t ∧ R t := by
    intro F
    induction F with
    | zero => intro s _ h; omega
    | succ F ih =>
      intro s hI hF
      rcases hs s hI with ⟨s', e, hI', hl⟩ | ⟨t, e, hR⟩
      · obtain ⟨t, e2, hR⟩ := ih s' hI' (by omega)
        exact ⟨t, by simp only [iter, e, Option.bind_some]; exact e2, hR⟩
      · exact ⟨t, by simp only [iter, e, Option.bind_some], hR⟩
  exact key NF s h0 (by unfold NF; omega)
/-- a loop over k from 0 to N with an invariant -/
theorem iter_upto {S T : Type} {f : S → Option (S ⊕ T)} (I : Nat → S → Prop) (N : Nat) (R : T → Prop) (hs : ∀ k s, k < N → I k s → (∃ s', f s = some (Sum.inl s') ∧ I (k + 1) s') ∨ ∃ t, f s = some (Sum.inr t) ∧ R t) (he : ∀ s, I N s → ∃ t, f s = some (Sum.inr t) ∧ R t) {s : S} (h0 : I 0 s) (hN : N < 2000000 - 1) : ∃ t, iter f NF s = some t ∧ R t := by
  have key : ∀ n j s, j + n = N → I j s → ∀ F, n < F → ∃ t, iter f F s = some t ∧ R t := by
    intro n
    induction n with
    | zero =>
      intro j s hj hI F hF
      obtain ⟨F, rfl⟩ := Nat.exists_eq_succ_of_ne_zero (Nat.ne_of_gt hF)
      have : j = N := by omega
      subst this
      obtain ⟨t, e, hR⟩ := he s hI
      exact ⟨t, by simp only [iter, e, Option.bind_some], hR⟩
    | succ n ih =>
      intro j s hj hI F hF
      obtain ⟨F, rfl⟩ := Nat.exists_eq_succ_of_ne_zero (by omega : F ≠ 0)
      rcases hs j s (by omega) hI with ⟨s', e, hI'⟩ | ⟨t, e, hR⟩
      · obtain ⟨t, e2, hR⟩ := ih (j + 1) s' (by omega) hI' F (by omega)
        exact ⟨t, by simp only [iter, e, Option.bind_some]; exact e2, hR⟩
      · exact ⟨t, by simp only [iter, e, Option.bind_some], hR⟩
  exact key N 0 s (by omega) h0 NF (by unfold NF; omega)
/-- what is not of P stays -/
def Eqo (P : Nat → Nat → Nat → Prop) (σ τ : SS) : Prop := (∀ k n j, ¬ P k n j → τ.1 k n j = σ.1 k n j) ∧ ∀ k n j, ¬ P k n j → τ.2 k n j = σ.2 k n j
theorem Eqo.rf (P : Nat → Nat → Nat → Prop) (σ : SS) : Eqo P σ σ := ⟨fun _ _ _ _ => rfl, fun _ _ _ _ => rfl⟩
theorem Eqo.tr {P : Nat → Nat → Nat → Prop} {σ τ υ : SS} (a : Eqo P σ τ) (b : Eqo P τ υ) : Eqo P σ υ := ⟨fun k n j h => (b.1 k n j h).trans (a.1 k n j h), fun k n j h => (b.2 k n j h).trans (a.2 k n j h)⟩
theorem Eqo.mono {P P' : Nat → Nat → Nat → Prop} {σ τ : SS} (h : Eqo P σ τ) (hP : ∀ k n j, P k n j → P' k n j) : Eqo P' σ τ := ⟨fun k n j q => h.1 k n j (fun z => q (hP k n j z)), fun k n j q => h.2 k n j (fun z => q (hP k n j z))⟩
theorem Eqo.wI {P : Nat → Nat → Nat → Prop} {σ : SS} {k n j : Nat} {x : Int32} (h : P k n j) : Eqo P σ (wI σ k n j x) := ⟨fun a b c q => up3_ne _ _ (fun z => q (by obtain ⟨rfl, rfl, rfl⟩ := z; exact h)), fun _ _ _ _ => rfl⟩
theorem Eqo.wJ {P : Nat → Nat → Nat → Prop} {σ : SS} {k n j : Nat} {x : Int64} (h : P k n j) : Eqo P σ (wJ σ k n j x) := ⟨fun _ _ _ _ => rfl, fun a b c q => up3_ne _ _ (fun z => q (by obtain ⟨rfl, rfl, rfl⟩ := z; exact h))⟩
theorem wI_eq (σ : SS) (k n j : Nat) (x : Int32) : (wI σ k n j x).1 k n j = x := up3_eq _ _ _ _ _
theorem wI_ne (σ : SS) {k n j a b c : Nat} (x : Int32) (h : ¬ (a = k ∧ b = n ∧ c = j)) : (wI σ k n j x).1 a b c = σ.1 a b c := up3_ne _ _ h
theorem wI_2 (σ : SS) (k n j : Nat) (x : Int32) : (wI σ k n j x).2 = σ.2 := rfl
theorem wJ_eq (σ : SS) (k n j : Nat) (x : Int64) : (wJ σ k n j x).2 k n j = x := up3_eq _ _ _ _ _
theorem wJ_ne (σ : SS) {k n j a b c : Nat} (x : Int64) (h : ¬ (a = k ∧ b = n ∧ c = j)) : (wJ σ k n j x).2 a b c = σ.2 a b c := up3_ne _ _ h
theorem wJ_1 (σ : SS) (k n j : Nat) (x : Int64) : (wJ σ k n j x).1 = σ.1 := rfl
/-- tables -/
theorem T_len : ∀ t, t < 31 → LN 13 t = TR t * TW t ∧ TR t * TW t < 1000 ∧ TW t < 1000 ∧ TR t < 1000 ∧ 0 < TW t := by decide +kernel
theorem at_ok (σ : SS) {t r c : Nat} (ht : t < 31) (hr : r < TR t) (hc : c < TW t) : X4_at σ t (nI r) (nI c) = some (σ.1 13 t (r * TW t + c)) := by
  obtain ⟨h1, h2, h3, h4, h5⟩ := T_len t ht
  have h6 : r * TW t + c < TR t * TW t := by
    have : (r + 1) * TW t ≤ TR t * TW t := Nat.mul_le_mul_right _ hr
    rw [Nat.add_mul] at this
    omega
  unfold X4_at X4_at_j0
  simp (disch := omega) only [lz_f, le_f, lt_t, pk_mul, nI_add, Option.bind_some, h1, ck_nI]
theorem put_ok (σ : SS) {t r c : Nat} (x : Int32) (ht : t < 31) (hr : r < TR t) (hc : c < TW t) : X4_put σ t (nI r) (nI c) x = some (wI σ 13 t (r * TW t + c) x) := by
  obtain ⟨h1, h2, h3, h4, h5⟩ := T_len t ht
  have h6 : r * TW t + c < TR t * TW t := by
    have : (r + 1) * TW t ≤ TR t * TW t := Nat.mul_le_mul_right _ hr
    rw [Nat.add_mul] at this
    omega
  unfold X4_put X4_put_j0
  simp (disch := omega) only [lz_f, le_f, lt_t, pk_mul, nI_add, Option.bind_some, h1, ck_nI]
theorem T_d : ∀ d, d < 5 → TR (4 * d) = 4 ∧ TW (4 * d) = 60 ∧ TR (4 * d + 1) = 7 ∧ TW (4 * d + 1) = 8 ∧ TR (4 * d + 2) = 3 ∧ TW (4 * d + 2) = 24 ∧ TR (4 * d + 3) = 1 ∧ TW (4 * d + 3) = 3 := by decide +kernel
/-- bits of sets below 256 -/
theorem hb_ok : ∀ i, i < 256 → ∀ k, k < 8 → ((nI i >>> (nI k &&& nI 31)) &&& nI 1) = nI (if i.testBit k = true then 1 else 0) := by decide +kernel
theorem sh_ok : ∀ k, k < 8 → nI 1 <<< (nI k &&& nI 31) = nI (2 ^ k) := by decide +kernel
theorem nI_bv (a : Nat) : (nI a).toBitVec = BitVec.ofNat 32 a := rfl
theorem nI_and (a b : Nat) : nI a &&& nI b = nI (a &&& b) := by
  apply Int32.toBitVec_inj.mp
  rw [Int32.toBitVec_and, nI_bv, nI_bv, nI_bv]
  apply BitVec.eq_of_getLsbD_eq
  intro i hi
  simp [BitVec.getLsbD_ofNat]
theorem nI_or (a b : Nat) : nI a ||| nI b = nI (a ||| b) := by
  apply Int32.toBitVec_inj.mp
  rw [Int32.toBitVec_or, nI_bv, nI_bv, nI_bv]
  apply BitVec.eq_of_getLsbD_eq
  intro i hi
  simp [BitVec.getLsbD_ofNat]
theorem nI_andn {a b : Nat} (ha : a < 256) : nI a &&& (nI b ^^^ -nI 1) = nI (a &&& (255 ^^^ b)) := by
  apply Int32.toBitVec_inj.mp
  rw [Int32.toBitVec_and, Int32.toBitVec_xor, nI_bv, nI_bv, nI_bv, show (-nI 1).toBitVec = BitVec.allOnes 32 from by decide]
  apply BitVec.eq_of_getLsbD_eq
  intro i hi
  have h255 : (255 : Nat).testBit i = decide (i < 8) := by
    have : (255 : Nat) = 2 ^ 8 - 1 := rfl
    rw [this, Nat.testBit_two_pow_sub_one]
  rw [BitVec.getLsbD_and, BitVec.getLsbD_xor, BitVec.getLsbD_ofNat, BitVec.getLsbD_ofNat, BitVec.getLsbD_ofNat, BitVec.getLsbD_allOnes, Nat.testBit_and, Nat.testBit_xor, h255]
  by_cases h8 : i < 8
  · simp only [hi, h8, decide_true, Bool.true_and]
    cases a.testBit i <;> cases b.testBit i <;> rfl
  · have : a.testBit i = false := Nat.testBit_lt_two_pow (Nat.lt_of_lt_of_le ha (by
      have : (256 : Nat) = 2 ^ 8 := rfl
      rw [this]; exact Nat.pow_le_pow_right (by decide) (by omega)))
    simp only [this, Bool.and_false, Bool.false_and]
/-- how many bits -/
def popc (i : Nat) : Nat := ((List.range 8).filter (fun k => i.testBit k)).length
theorem bc_ok : ∀ (σ : SS) (i : Nat), i < 256 → J6_bitCount_0f7a4 σ (nI i) = some (nI (popc i)) := by
  have h : ∀ i, i < 256 → J6_bitCount_0f7a4 (fun _ _ _ => 0, fun _ _ _ => 0) (nI i) = some (nI (popc i)) := by decide +kernel
  intro σ i hi
  exact h i hi
theorem hbit {i k : Nat} (hi : i < 256) (hk : k < 8) : ((nI i >>> (nI k &&& nI 31)) &&& nI 1) = nI (if i.testBit k = true then 1 else 0) := hb_ok i hi k hk
theorem hsh {k : Nat} (hk : k < 8) : nI 1 <<< (nI k &&& nI 31) = nI (2 ^ k) := sh_ok k hk
