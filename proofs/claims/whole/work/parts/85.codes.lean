/-! ===== TEXTS: words as numbers ===== -/
def txt (B : Nat → Nat) : Nat → Nat → List Nat
  | _, 0 => []
  | a, k + 1 => B a :: txt B (a + 1) k
theorem txt_snoc (B : Nat → Nat) : ∀ k a, txt B a (k + 1) = txt B a k ++ [B (a + k)] := by
  intro k
  induction k with
  | zero => intro a; rfl
  | succ k ih =>
    intro a
    show B a :: txt B (a + 1) (k + 1) = B a :: txt B (a + 1) k ++ [B (a + (k + 1))]
    rw [ih, show a + 1 + k = a + (k + 1) by omega]
    rfl
theorem txt_len (B : Nat → Nat) : ∀ k a, (txt B a k).length = k := by
  intro k
  induction k with
  | zero => intro a; rfl
  | succ k ih =>
    intro a
    show (B a :: txt B (a + 1) k).length = _
    rw [List.length_cons, ih]
theorem txt_mem (B : Nat → Nat) : ∀ k a v, v ∈ txt B a k → ∃ i, i < k ∧ v = B (a + i) := by
  intro k
  induction k with
  | zero => intro a v h; cases h
  | succ k ih =>
    intro a v h
    rcases List.mem_cons.mp h with e | e
    · exact ⟨0, by omega, e⟩
    · obtain ⟨i, hi, e⟩ := ih (a + 1) v e
      exact ⟨i + 1, by omega, by rw [e]; congr 1; omega⟩
theorem mt_txt (B : Nat → Nat) (z : Nat) : ∀ (V : List Nat) (p : Nat), p ≤ z → ((mt B z p V && (p + V.length == z)) = true ↔ txt B p (z - p) = V) := by
  intro V
  induction V with
  | nil =>
    intro p hp
    unfold mt
    rw [Bool.true_and, List.length_nil, Nat.add_zero]
    constructor
    · intro h
      have : p = z := by simpa using h
      subst this
      rw [Nat.sub_self]
      rfl
    · intro h
      have h1 := txt_len B (z - p) p
      rw [h] at h1
      have : p = z := by
        have : (0 : Nat) = z - p := h1
        omega
      simpa using this
  | cons v V ih =>
    intro p hp
    by_cases q : p < z
    · have e : z - p = (z - (p + 1)) + 1 := by omega
      have ih' := ih (p + 1) (by omega)
      rw [e]
      show ((decide (p < z) && (B p == v) && mt B z (p + 1) V) && (p + (V.length + 1) == z)) = true ↔ B p :: txt B (p + 1) (z - (p + 1)) = v :: V
      rw [List.cons.injEq, ← ih', show p + (V.length + 1) = p + 1 + V.length by omega]
      simp [q, Bool.and_assoc, and_assoc]
    · have : z - p = 0 := by omega
      rw [this]
      constructor
      · intro h
        unfold mt at h
        simp [q] at h
      · intro h
        cases h
/-- letters, in base 32 -/
def rcd : List Nat → Nat
  | [] => 0
  | v :: t => rcd t * 32 + (v - 96)
def cdL (W : List Nat) : Nat := rcd W.reverse
theorem rcd_inj : ∀ (V W : List Nat), (∀ v ∈ V, 97 ≤ v ∧ v ≤ 122) → (∀ v ∈ W, 97 ≤ v ∧ v ≤ 122) → rcd V = rcd W → V = W := by
  intro V
  induction V with
  | nil =>
    intro W hV hW h
    cases W with
    | nil => rfl
    | cons w W =>
      have := hW w List.mem_cons_self
      have h2 : (0 : Nat) = rcd W * 32 + (w - 96) := h
      omega
  | cons v V ih =>
    intro W hV hW h
    have hv := hV v List.mem_cons_self
    cases W with
    | nil =>
      have h2 : rcd V * 32 + (v - 96) = 0 := h
      omega
    | cons w W =>
      have hw := hW w List.mem_cons_self
      have h2 : rcd V * 32 + (v - 96) = rcd W * 32 + (w - 96) := h
      have h3 : rcd V = rcd W := by omega
      have h4 : v = w := by omega
      rw [h4, ih W (fun x hx => hV x (List.mem_cons_of_mem _ hx)) (fun x hx => hW x (List.mem_cons_of_mem _ hx)) h3]
theorem cdL_inj {V W : List Nat} (hV : ∀ v ∈ V, 97 ≤ v ∧ v ≤ 122) (hW : ∀ v ∈ W, 97 ≤ v ∧ v ≤ 122) (h : cdL V = cdL W) : V = W := by
  have := rcd_inj V.reverse W.reverse (fun v hv => hV v (List.mem_reverse.mp hv)) (fun v hv => hW v (List.mem_reverse.mp hv)) h
  exact List.reverse_inj.mp this
theorem rcd_lt : ∀ (V : List Nat), (∀ v ∈ V, 97 ≤ v ∧ v ≤ 122) → rcd V < 32 ^ V.length := by
  intro V
  induction V with
  | nil => intro _; decide
  | cons v V ih =>
    intro hV
    have hv := hV v List.mem_cons_self
    have := ih (fun x hx => hV x (List.mem_cons_of_mem _ hx))
    show rcd V * 32 + (v - 96) < 32 ^ (V.length + 1)
    rw [Nat.pow_succ]
    omega
theorem cdL_lt {V : List Nat} (hV : ∀ v ∈ V, 97 ≤ v ∧ v ≤ 122) (h8 : V.length ≤ 8) : cdL V < 1099511627776 := by
  have h1 := rcd_lt V.reverse (fun v hv => hV v (List.mem_reverse.mp hv))
  rw [List.length_reverse] at h1
  have h2 : 32 ^ V.length ≤ 32 ^ 8 := Nat.pow_le_pow_right (by decide) h8
  unfold cdL
  exact Nat.lt_of_lt_of_le h1 (Nat.le_trans h2 (by decide))
theorem cdL_snoc (W : List Nat) (v : Nat) : cdL (W ++ [v]) = cdL W * 32 + (v - 96) := by
  unfold cdL
  rw [List.reverse_append]
  rfl
theorem cdF_txt (B : Nat → Nat) (a : Nat) : ∀ k, k ≤ 8 → (∀ i, i < k → 97 ≤ B (a + i) ∧ B (a + i) ≤ 122) → cdF B a k = lN (cdL (txt B a k)) := by
  intro k
  induction k with
  | zero => intro _ _; rfl
  | succ k ih =>
    intro hk hB
    have hb := hB k (by omega)
    rw [txt_snoc, cdL_snoc, show cdF B a (k + 1) = if 8 ≤ k then -1 else ((cdF B a k * 32) + Int32.toInt64 (nI (B (a + k)))) - 96 from rfl, if_neg (by omega), ih (by omega) (fun i hi => hB i (by omega)), nI_l (by omega)]
    generalize cdL (txt B a k) = c
    show ((lN c * lN 32) + lN (B (a + k))) - lN 96 = _
    have h1 : lN c * lN 32 = lN (c * 32) := lN_mul _ _
    rw [h1]
    apply Int64.toBitVec_inj.mp
    show ((BitVec.ofNat 64 (c * 32) + BitVec.ofNat 64 (B (a + k))) - BitVec.ofNat 64 96) = BitVec.ofNat 64 (c * 32 + (B (a + k) - 96))
    have h2 : c * 32 + (B (a + k) - 96) = (c * 32 + B (a + k)) - 96 := by omega
    rw [h2]
    have h3 : BitVec.ofNat 64 (c * 32 + B (a + k)) = BitVec.ofNat 64 ((c * 32 + B (a + k) - 96) + 96) := by
      congr 1
      omega
    rw [← BitVec.ofNat_add, h3, BitVec.ofNat_add, BitVec.add_sub_cancel]
