/-! ===== fractions ===== -/
theorem lN64 {n : Nat} (h : n < 2 ^ 63) : (lN n).toInt = (n : Int) := Int64.toInt_ofNat_of_lt h
theorem lN_rem {a d : Nat} (ha : a < 2 ^ 63) (hd : d < 2 ^ 63) : lN a - lN a / lN d * lN d = lN (a % d) := by
  have h1 : lN a / lN d = lN (a / d) := (Int64.ofNat_div ha hd).symm
  rw [h1, lN_mul]
  have h2 : lN a - lN (a / d * d) = lN (a - a / d * d) := (Int64.ofNat_sub _ _ (Nat.div_mul_le_self a d)).symm
  rw [h2]
  exact congrArg lN (by have := Nat.div_add_mod' a d; omega)
theorem lN_ne0 {n : Nat} (h : n < 2 ^ 63) (h0 : 0 < n) : ¬ lN n = 0 := fun q => by
  have := congrArg Int64.toInt q
  rw [lN64 h] at this
  have z : (0 : Int64).toInt = 0 := by decide
  omega
theorem nzL_lN {n : Nat} (h : n < 2 ^ 63) (h0 : 0 < n) : nzL (lN n) = some () := by
  unfold nzL
  rw [if_neg (lN_ne0 h h0)]
theorem cmp_0 : lg_cmp (lN 0) 0 = 0 := by decide
theorem cmp_p {n : Nat} (h : n < 2 ^ 63) (h0 : 0 < n) : lg_cmp (lN n) 0 = 1 := by
  unfold lg_cmp
  rw [if_pos]
  show (0 : Int64) < lN n
  rw [Int64.lt_iff_toInt_lt, lN64 h]
  have z : (0 : Int64).toInt = 0 := by decide
  omega
theorem half_mod {b r : Nat} (hr : 0 < r) (hb : r ≤ b) : 2 * (b % r) < b := by
  have h1 := Nat.mod_lt b hr
  have h2 := Nat.div_add_mod b r
  have h3 : 1 ≤ b / r := (Nat.one_le_div_iff hr).mpr hb
  have h4 : r ≤ r * (b / r) := Nat.le_mul_of_pos_right r h3
  omega
theorem gcd_step {a b : Nat} : Nat.gcd b (a % b) = Nat.gcd a b := by
  rw [Nat.gcd_comm b (a % b), Nat.gcd_comm a b]
  exact (Nat.gcd_rec b a).symm
theorem div_loop (σ : SS) : ∀ (k a b c F : Nat), a < 2 ^ 63 → b < 2 ^ k → k ≤ 40 → c + 2 * k + 1 ≤ 99 → 2 * k + 1 ≤ F → iter (X11_commonDivisor_l9b σ) F (lN a, lN b, nI c) = some (lN (Nat.gcd a b)) := by
  have stop : ∀ a c F, c ≤ 99 → 1 ≤ F → iter (X11_commonDivisor_l9b σ) F (lN a, lN 0, nI c) = some (lN (Nat.gcd a 0)) := fun a c F hc hF => by
    obtain ⟨F, rfl⟩ := Nat.exists_eq_succ_of_ne_zero (by omega : F ≠ 0)
    have e : X11_commonDivisor_l9b σ (lN a, lN 0, nI c) = some (Sum.inr (lN a)) := by
      show X11_commonDivisor_l9c σ (lN a) (lN 0) (nI c) = _
      unfold X11_commonDivisor_l9c
      rw [if_neg (show ¬ (100 : Int32) ≤ nI c from nI_ge (b := 100) (by omega) (by decide)), cmp_0, if_pos rfl]
    simp only [iter, e, Option.bind_some, Nat.gcd_zero_right]
  have step : ∀ a b c F, a < 2 ^ 63 → b < 2 ^ 63 → 0 < b → c ≤ 99 → iter (X11_commonDivisor_l9b σ) (F + 1) (lN a, lN b, nI c) = iter (X11_commonDivisor_l9b σ) F (lN b, lN (a % b), nI (c + 1)) := fun a b c F ha hb h0 hc => by
    have e : X11_commonDivisor_l9b σ (lN a, lN b, nI c) = some (Sum.inl (lN b, lN (a % b), nI (c + 1))) := by
      show X11_commonDivisor_l9c σ (lN a) (lN b) (nI c) = _
      unfold X11_commonDivisor_l9c
      rw [if_neg (show ¬ (100 : Int32) ≤ nI c from nI_ge (b := 100) (by omega) (by decide)), cmp_p hb h0, if_neg (by decide), nzL_lN hb h0, Option.bind_some, lN_rem ha hb, Option.bind_some, nI_1, Option.bind_some]
    simp only [iter, e, Option.bind_some]
  intro k
  induction k with
  | zero =>
    intro a b c F ha hb _ hc hF
    have : b = 0 := by omega
    subst this
    exact stop a c F (by omega) (by omega)
  | succ k ih =>
    intro a b c F ha hb hk hc hF
    have h63 : 2 ^ (k + 1) ≤ 2 ^ 63 := Nat.pow_le_pow_right (by decide) (by omega)
    by_cases z : b = 0
    · subst z
      exact stop a c F (by omega) (by omega)
    · obtain ⟨F, rfl⟩ := Nat.exists_eq_succ_of_ne_zero (by omega : F ≠ 0)
      have hm := Nat.mod_lt a (Nat.pos_of_ne_zero z)
      rw [show Nat.succ F = F + 1 from rfl, step a b c F ha (by omega) (Nat.pos_of_ne_zero z) (by omega), ← gcd_step]
      by_cases y : a % b = 0
      · rw [y]
        exact stop b (c + 1) F (by omega) (by omega)
      · obtain ⟨F, rfl⟩ := Nat.exists_eq_succ_of_ne_zero (by omega : F ≠ 0)
        have hh := half_mod (Nat.pos_of_ne_zero y) (Nat.le_of_lt hm)
        rw [show Nat.succ F = F + 1 from rfl, step b (a % b) (c + 1) F (by omega) (by omega) (Nat.pos_of_ne_zero y) (by omega), ← gcd_step]
        exact ih (a % b) (b % (a % b)) (c + 1 + 1) F (by omega) (by rw [Nat.pow_succ] at hb; omega) (by omega) (by omega) (by omega)
theorem xdiv_loop (σ : SS) (y1 y3 : Int64) : ∀ (k a b F : Nat), a < 2 ^ 63 → b < 2 ^ k → k ≤ 40 → 2 * k + 1 ≤ F → iter (X12_fraction_l9b σ y1 y3) F (lN a, lN b) = some (lN (Nat.gcd a b)) := by
  have stop : ∀ a F, 1 ≤ F → iter (X12_fraction_l9b σ y1 y3) F (lN a, lN 0) = some (lN (Nat.gcd a 0)) := fun a F hF => by
    obtain ⟨F, rfl⟩ := Nat.exists_eq_succ_of_ne_zero (by omega : F ≠ 0)
    have e : X12_fraction_l9b σ y1 y3 (lN a, lN 0) = some (Sum.inr (lN a)) := by
      show X12_fraction_l9c σ y1 y3 (lN a) (lN 0) = _
      unfold X12_fraction_l9c
      rw [cmp_0, if_pos rfl]
    simp only [iter, e, Option.bind_some, Nat.gcd_zero_right]
  have step : ∀ a b F, a < 2 ^ 63 → b < 2 ^ 63 → 0 < b → iter (X12_fraction_l9b σ y1 y3) (F + 1) (lN a, lN b) = iter (X12_fraction_l9b σ y1 y3) F (lN b, lN (a % b)) := fun a b F ha hb h0 => by
    have e : X12_fraction_l9b σ y1 y3 (lN a, lN b) = some (Sum.inl (lN b, lN (a % b))) := by
      show X12_fraction_l9c σ y1 y3 (lN a) (lN b) = _
      unfold X12_fraction_l9c
      rw [cmp_p hb h0, if_neg (by decide), nzL_lN hb h0, Option.bind_some, lN_rem ha hb, Option.bind_some]
    simp only [iter, e, Option.bind_some]
  intro k
  induction k with
  | zero =>
    intro a b F ha hb _ hF
    have : b = 0 := by omega
    subst this
    exact stop a F (by omega)
  | succ k ih =>
    intro a b F ha hb hk hF
    have h63 : 2 ^ (k + 1) ≤ 2 ^ 63 := Nat.pow_le_pow_right (by decide) (by omega)
    by_cases z : b = 0
    · subst z
      exact stop a F (by omega)
    · obtain ⟨F, rfl⟩ := Nat.exists_eq_succ_of_ne_zero (by omega : F ≠ 0)
      have hm := Nat.mod_lt a (Nat.pos_of_ne_zero z)
      rw [show Nat.succ F = F + 1 from rfl, step a b F ha (by omega) (Nat.pos_of_ne_zero z), ← gcd_step]
      by_cases y : a % b = 0
      · rw [y]
        exact stop b F (by omega)
      · obtain ⟨F, rfl⟩ := Nat.exists_eq_succ_of_ne_zero (by omega : F ≠ 0)
        have hh := half_mod (Nat.pos_of_ne_zero y) (Nat.le_of_lt hm)
        rw [show Nat.succ F = F + 1 from rfl, step b (a % b) F (by omega) (by omega) (Nat.pos_of_ne_zero y), ← gcd_step]
        exact ih (a % b) (b % (a % b)) F (by omega) (by rw [Nat.pow_succ] at hb; omega) (by omega) (by omega)
/-- both tell the same fraction -/
theorem tell_ok (σ : SS) {t : Int64} {X b : Nat} (hX : labs t = lN X) (hX2 : X < 2 ^ 63) (h0 : 0 < b) (hb : b < 256) : X11_tell σ t (lN b) = some (1, wJ (wJ σ 10 0 12 (t / lN (Nat.gcd X b))) 10 0 13 (lN b / lN (Nat.gcd X b))) := by
  have hg : 0 < Nat.gcd X b := Nat.gcd_pos_of_pos_right X h0
  have hgl : Nat.gcd X b ≤ b := Nat.le_of_dvd h0 (Nat.gcd_dvd_right X b)
  unfold X11_tell X11_tell_j0 X11_commonDivisor X11_commonDivisor_j0 X11_commonDivisor_l9
  rw [hX, show (0 : Int32) = nI 0 from rfl, div_loop σ 8 X b 0 NF hX2 (by omega) (by decide) (by decide) (by unfold NF; decide), Option.bind_some, Option.bind_some, cmp_p (by omega) hg, if_neg (by decide), nzL_lN (by omega) hg, Option.bind_some, Option.bind_some, Option.bind_some, Option.bind_some]
theorem xtell_ok (σ : SS) {t : Int64} {X b : Nat} (hX : labs t = lN X) (hX2 : X < 2 ^ 63) (h0 : 0 < b) (hb : b < 256) : X12_fraction σ t (lN b) = some (1, wJ (wJ σ 11 0 2 (t / lN (Nat.gcd X b))) 11 0 3 (lN b / lN (Nat.gcd X b))) := by
  have hg : 0 < Nat.gcd X b := Nat.gcd_pos_of_pos_right X h0
  have hgl : Nat.gcd X b ≤ b := Nat.le_of_dvd h0 (Nat.gcd_dvd_right X b)
  unfold X12_fraction X12_fraction_j0 X12_fraction_l9
  rw [hX, Option.bind_some, xdiv_loop σ t (lN b) 8 X b NF hX2 (by omega) (by decide) (by unfold NF; decide), Option.bind_some, nzL_lN (by omega) hg, Option.bind_some, Option.bind_some, Option.bind_some, Option.bind_some]
theorem labs_lN {n : Nat} (h : n < 2 ^ 63) : labs (lN n) = lN n := by
  unfold labs
  by_cases z : n = 0
  · subst z
    decide
  · rw [if_pos]
    rw [Int64.lt_iff_toInt_lt, lN64 h]
    have z : (0 : Int64).toInt = 0 := by decide
    omega
theorem labs_any (t : Int64) (h : (-(2 ^ 62) : Int) ≤ t.toInt) : ∃ X, labs t = lN X ∧ X < 2 ^ 63 := by
  have hlt := Int64.toInt_lt t
  have z0 : (0 : Int64).toInt = 0 := by decide
  unfold labs
  by_cases q : 0 < t
  · rw [if_pos q]
    rw [Int64.lt_iff_toInt_lt, z0] at q
    refine ⟨t.toInt.toNat, ?_, by omega⟩
    apply Int64.toInt_inj.mp
    rw [lN64 (by omega)]
    omega
  · rw [if_neg q]
    rw [Int64.lt_iff_toInt_lt, z0] at q
    refine ⟨(-t.toInt).toNat, ?_, by omega⟩
    apply Int64.toInt_inj.mp
    rw [lN64 (by omega), Int64.toInt_neg, Int.bmod_eq_of_le (by omega) (by omega)]
    omega
def FrC : Nat → Nat → Nat → Prop := fun k n j => (k = 10 ∧ n = 0 ∧ (j = 12 ∨ j = 13)) ∨ (k = 11 ∧ n = 0 ∧ (j = 2 ∨ j = 3))
theorem Fr.keep {σ τ : SS} {P : Nat → Nat → Nat → Prop} (h : Fr σ) (hE : Eqo P σ τ) (hP : ∀ k n j, P k n j → ¬ FrC k n j) : Fr τ := by
  have e : ∀ k n j, FrC k n j → τ.2 k n j = σ.2 k n j := fun k n j q => hE.2 k n j (fun z => hP k n j z q)
  unfold Fr
  rw [e _ _ _ (by unfold FrC; omega), e _ _ _ (by unfold FrC; omega), e _ _ _ (by unfold FrC; omega), e _ _ _ (by unfold FrC; omega)]
  exact h
