/-! ===== TEXTS: whose name it is ===== -/
/-- the first of n names that is y -/
def fnN (f : Nat → Int64) (n : Nat) (y : Int64) : Option Nat := (List.range n).find? (fun l => decide (f l = y))
theorem fnN_lt {f : Nat → Int64} {n : Nat} {y : Int64} {l : Nat} (h : fnN f n y = some l) : l < n := List.mem_range.mp (List.find?_range_eq_some.mp h).2.1
theorem fnN_congr {f g : Nat → Int64} {n : Nat} (y : Int64) (h : ∀ l, l < n → f l = g l) : fnN f n y = fnN g n y := by
  have main : ∀ (A : List Nat), (∀ l ∈ A, f l = g l) → A.find? (fun l => decide (f l = y)) = A.find? (fun l => decide (g l = y)) := by
    intro A
    induction A with
    | nil => intro _; rfl
    | cons a A ih =>
      intro hA
      rw [List.find?_cons, List.find?_cons, hA a List.mem_cons_self, ih (fun l hl => hA l (List.mem_cons_of_mem _ hl))]
  exact main _ (fun l hl => h l (List.mem_range.mp hl))
section ND
variable {σ υ : SS} {n : Nat}
theorem leadNamed_ok {d : Nat} (hd : d < 5) (h5 : σ.1 0 d 5 = nI n) (hn : n ≤ 8) (y : Int64) : X0_leadNamed σ d y = some (oI (fnN (fun l => σ.2 14 d l) n y)) := by
  have hl := (LN_d d hd).2.2.2.2
  have e := loop_find (f := X0_leadNamed_l2b σ d y) (b := 0) (N := n) (fun l => decide (σ.2 14 d l = y)) (by omega) (fun k hk => by
    rw [Nat.zero_add, Nat.zero_add]
    show X0_leadNamed_l2c σ d y (nI k) = _
    unfold X0_leadNamed_l2c
    rw [h5, if_neg (nI_ge hk (by omega)), hl, if_neg (nI_ge (by omega) (by decide)), ck_nI (by omega) (by decide), Option.bind_some, nI_1, Option.bind_some]
    by_cases q : σ.2 14 d k = y
    · rw [if_pos (lg_0.mpr q), if_pos (by simpa using q)]
    · rw [if_neg (fun z => q (lg_0.mp z)), if_neg (by simpa using q)]) (by
    rw [Nat.zero_add]
    show X0_leadNamed_l2c σ d y (nI n) = _
    unfold X0_leadNamed_l2c
    rw [h5, if_pos (nI_le (Nat.le_refl _) (by omega))])
  unfold X0_leadNamed X0_leadNamed_j0 X0_leadNamed_l2
  have e' : iter (X0_leadNamed_l2b σ d y) NF 0 = _ := e
  rw [e', Option.bind_some]
  show _ = some (oI ((List.range n).find? (fun l => decide (σ.2 14 d l = y))))
  cases (List.range n).find? (fun l => decide (σ.2 14 d l = y)) with
  | none => rfl
  | some k =>
    show some (nI (0 + k)) = some (nI k)
    rw [Nat.zero_add]
theorem xleadNamed_ok {b : Nat} (hb : b < 5) (h0 : υ.1 13 34 (410 * b) = nI n) (hn : n ≤ 8) : X12_leadNamed υ (nI b) = some (oI (fnN (fun l => υ.2 14 7 (11 * b + l)) n (υ.2 11 0 19))) := by
  have h410 : ck (LN 13 34) (410 * nI b) = some (410 * b) := by
    have : (410 : Int32) * nI b = nI (410 * b) := by
      show nI 410 * nI b = _
      rw [pk_mul]
    rw [this, ckc (by omega)]
  have h11 : ∀ k, k < 11 → ck (LN 14 7) (11 * nI b + nI k) = some (11 * b + k) := fun k hk => by
    have : (11 : Int32) * nI b + nI k = nI (11 * b + k) := by
      show nI 11 * nI b + nI k = _
      rw [pk_mul, nI_add]
    rw [this, show LN 14 7 = 55 by decide, ck_nI (by omega) (by decide)]
  have e := loop_find (f := X12_leadNamed_l2b υ (nI b)) (b := 0) (N := n) (fun l => decide (υ.2 14 7 (11 * b + l) = υ.2 11 0 19)) (by omega) (fun k hk => by
    rw [Nat.zero_add, Nat.zero_add]
    show X12_leadNamed_l2c υ (nI b) (nI k) = _
    unfold X12_leadNamed_l2c
    rw [h410, Option.bind_some, h0, if_neg (nI_ge hk (by omega)), h11 k (by omega), Option.bind_some, nI_1, Option.bind_some]
    by_cases q : υ.2 14 7 (11 * b + k) = υ.2 11 0 19
    · rw [if_pos (lg_0.mpr q), if_pos (by simpa using q)]
    · rw [if_neg (fun z => q (lg_0.mp z)), if_neg (by simpa using q)]) (by
    rw [Nat.zero_add]
    show X12_leadNamed_l2c υ (nI b) (nI n) = _
    unfold X12_leadNamed_l2c
    rw [h410, Option.bind_some, h0, if_pos (nI_le (Nat.le_refl _) (by omega))])
  unfold X12_leadNamed X12_leadNamed_j0 X12_leadNamed_l2
  have e' : iter (X12_leadNamed_l2b υ (nI b)) NF 0 = _ := e
  rw [e', Option.bind_some]
  show _ = some (oI ((List.range n).find? (fun l => decide (υ.2 14 7 (11 * b + l) = υ.2 11 0 19))))
  cases (List.range n).find? (fun l => decide (υ.2 14 7 (11 * b + l) = υ.2 11 0 19)) with
  | none => rfl
  | some k =>
    show some (nI (0 + k)) = some (nI k)
    rw [Nat.zero_add]
theorem loop_any {f : Int32 → Option (Int32 ⊕ (Unit ⊕ Unit))} {b N : Nat} (P : Nat → Bool) (hN : N < 10000) (hs : ∀ k, k < N → f (nI (b + k)) = if P k = true then some (Sum.inr (Sum.inl ())) else some (Sum.inl (nI (b + (k + 1))))) (he : f (nI (b + N)) = some (Sum.inr (Sum.inr ()))) : iter f NF (nI b) = some (match (List.range N).find? P with
    | some _ => Sum.inl ()
    | none => Sum.inr ()) := by
  cases e : (List.range N).find? P with
  | some k =>
    obtain ⟨h1, h2, h3⟩ := List.find?_range_eq_some.mp e
    have hk : k < N := List.mem_range.mp h2
    exact iter_for (s := nI b) (fun j => nI (b + j)) k rfl (by omega) (fun j hj => by
      have := h3 j hj
      rw [hs j (by omega), if_neg (by simpa using this)]) (by rw [hs k hk, if_pos h1])
  | none =>
    have h := List.find?_range_eq_none.mp e
    exact iter_for (s := nI b) (fun j => nI (b + j)) N rfl (by omega) (fun j hj => by
      have := h j hj
      rw [hs j hj, if_neg (by simpa using this)]) he
theorem oI_m1 {o : Option Nat} (h : ∀ l, o = some l → l < 1000) : (oI o = -1 ↔ o = none) ∧ (0 ≤ oI o ↔ o ≠ none) := by
  cases o with
  | none => exact ⟨⟨fun _ => rfl, fun _ => rfl⟩, fun z => absurd z (by decide), fun z => absurd rfl z⟩
  | some k =>
    have hk := h k rfl
    have h0 : (0 : Int32) ≤ nI k := nI_pos' (by omega)
    refine ⟨⟨fun z => ?_, fun z => (by cases z)⟩, fun _ z => (by cases z), fun _ => h0⟩
    have z' : nI k = -1 := z
    rw [z'] at h0
    exact absurd h0 (by decide)
theorem fnN_m1 {f : Nat → Int64} {n : Nat} {y : Int64} (hn : n ≤ 8) : (oI (fnN f n y) = -1 ↔ fnN f n y = none) ∧ (0 ≤ oI (fnN f n y) ↔ fnN f n y ≠ none) := oI_m1 (fun l hl => by
  have := fnN_lt hl
  omega)
/-- leads and looks -/
theorem isTaken_ok {d nk : Nat} (hd : d < 5) (h5 : σ.1 0 d 5 = nI n) (hn : n ≤ 8) (h7 : σ.1 0 d 7 = nI nk) (hk3 : nk ≤ 3) (y : Int64) : X0_isTaken σ d y = some (if fnN (fun k => σ.2 14 d (8 + k)) nk y = none ∧ fnN (fun l => σ.2 14 d l) n y = none then 0 else 1) := by
  have hl := (LN_d d hd).2.2.2.2
  have e87 : (8 : Int32) + nI nk = nI (8 + nk) := nI_add 8 nk
  have e := loop_any (f := X0_isTaken_l3b σ d y) (b := 8) (N := nk) (fun k => decide (σ.2 14 d (8 + k) = y)) (by omega) (fun k hk => by
    show X0_isTaken_l3c σ d y (nI (8 + k)) = _
    unfold X0_isTaken_l3c
    rw [h7, e87, if_neg (nI_ge (by omega) (by omega)), hl, if_neg (nI_ge (by omega) (by decide)), ck_nI (by omega) (by decide), Option.bind_some, nI_1, Option.bind_some]
    by_cases q : σ.2 14 d (8 + k) = y
    · rw [if_pos (lg_0.mpr q), if_pos (by simpa using q)]
    · rw [if_neg (fun z => q (lg_0.mp z)), if_neg (by simpa using q), Nat.add_assoc]) (by
    show X0_isTaken_l3c σ d y (nI (8 + nk)) = _
    unfold X0_isTaken_l3c
    rw [h7, e87, if_pos (nI_le (Nat.le_refl _) (by omega))])
  have e' : iter (X0_isTaken_l3b σ d y) NF 8 = _ := e
  by_cases q0 : fnN (fun k => σ.2 14 d (8 + k)) nk y = none
  · have q0' : (List.range nk).find? (fun k => decide (σ.2 14 d (8 + k) = y)) = none := q0
    rw [q0'] at e'
    unfold X0_isTaken X0_isTaken_j0 X0_isTaken_l3
    rw [e', Option.bind_some]
    show X0_isTaken_j42 σ d y = _
    unfold X0_isTaken_j42
    rw [leadNamed_ok hd h5 hn, Option.bind_some]
    by_cases q : fnN (fun l => σ.2 14 d l) n y = none
    · rw [if_pos ((fnN_m1 hn).1.mpr q), if_pos ⟨q0, q⟩]
    · rw [if_neg (fun z => q ((fnN_m1 hn).1.mp z)), if_neg (fun z => q z.2)]
  · obtain ⟨m, hm⟩ := Option.ne_none_iff_exists'.mp q0
    have hm' : (List.range nk).find? (fun k => decide (σ.2 14 d (8 + k) = y)) = some m := hm
    rw [hm'] at e'
    unfold X0_isTaken X0_isTaken_j0 X0_isTaken_l3
    rw [e', Option.bind_some, if_neg (fun z => q0 z.1)]
theorem xisLookNamed_ok {nk : Nat} (h2 : υ.1 13 34 1642 = nI nk) (hk3 : nk ≤ 3) : X12_isLookNamed υ = some (if fnN (fun k => υ.2 14 7 (52 + k)) nk (υ.2 11 0 19) = none then 0 else 1) := by
  have e := loop_any (f := X12_isLookNamed_l2b υ) (b := 0) (N := nk) (fun k => decide (υ.2 14 7 (52 + k) = υ.2 11 0 19)) (by omega) (fun k hk => by
    rw [Nat.zero_add, Nat.zero_add]
    show X12_isLookNamed_l2c υ (nI k) = _
    unfold X12_isLookNamed_l2c
    rw [show ck (LN 13 34) 1642 = some 1642 from ckc (j := 1642) (by decide), Option.bind_some, h2, if_neg (nI_ge hk (by omega)), show (52 : Int32) + nI k = nI (52 + k) from nI_add 52 k, show LN 14 7 = 55 by decide, ck_nI (by omega) (by decide), Option.bind_some, nI_1, Option.bind_some]
    by_cases q : υ.2 14 7 (52 + k) = υ.2 11 0 19
    · rw [if_pos (lg_0.mpr q), if_pos (by simpa using q)]
    · rw [if_neg (fun z => q (lg_0.mp z)), if_neg (by simpa using q)]) (by
    rw [Nat.zero_add]
    show X12_isLookNamed_l2c υ (nI nk) = _
    unfold X12_isLookNamed_l2c
    rw [show ck (LN 13 34) 1642 = some 1642 from ckc (j := 1642) (by decide), Option.bind_some, h2, if_pos (nI_le (Nat.le_refl _) (by omega))])
  have e' : iter (X12_isLookNamed_l2b υ) NF 0 = _ := e
  by_cases q0 : fnN (fun k => υ.2 14 7 (52 + k)) nk (υ.2 11 0 19) = none
  · have q0' : (List.range nk).find? (fun k => decide (υ.2 14 7 (52 + k) = υ.2 11 0 19)) = none := q0
    rw [q0'] at e'
    unfold X12_isLookNamed X12_isLookNamed_j0 X12_isLookNamed_l2
    rw [e', Option.bind_some, if_pos q0]
  · obtain ⟨m, hm⟩ := Option.ne_none_iff_exists'.mp q0
    have hm' : (List.range nk).find? (fun k => decide (υ.2 14 7 (52 + k) = υ.2 11 0 19)) = some m := hm
    rw [hm'] at e'
    unfold X12_isLookNamed X12_isLookNamed_j0 X12_isLookNamed_l2
    rw [e', Option.bind_some, if_neg q0]
end ND
