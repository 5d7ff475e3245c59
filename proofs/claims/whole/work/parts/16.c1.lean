/-! ===== the class: reading a drawer ===== -/
section C1
variable {σ : SS} {d n nk i c : Nat} {s p o : Int32} {nu : Nat → Nat → Nat} {lo : Nat → Nat} {L : List X3}
theorem cr_at (hd : d < 5) (r : Nat) (hr : r < 3) {k : Nat} (hk : k < 24) : X4_at σ (4 * d + 2) (nI r) (nI k) = some (σ.1 13 (4 * d + 2) (24 * r + k)) := by
  obtain ⟨_, _, _, _, e1, e2, _, _⟩ := T_d d hd
  rw [at_ok σ (by omega) (by rw [e1]; exact hr) (by rw [e2]; exact hk), e2, Nat.mul_comm r 24]
theorem cr_put (hd : d < 5) (r : Nat) (hr : r < 3) {k : Nat} (hk : k < 24) (x : Int32) : X4_put σ (4 * d + 2) (nI r) (nI k) x = some (wI σ 13 (4 * d + 2) (24 * r + k) x) := by
  obtain ⟨_, _, _, _, e1, e2, _, _⟩ := T_d d hd
  rw [put_ok σ x (by omega) (by rw [e1]; exact hr) (by rw [e2]; exact hk), e2, Nat.mul_comm r 24]
theorem nu_at (hd : d < 5) (r : Nat) (hr : r < 7) {k : Nat} (hk : k < 8) : X4_at σ (4 * d + 1) (nI r) (nI k) = some (σ.1 13 (4 * d + 1) (r * 8 + k)) := by
  obtain ⟨_, _, e1, e2, _, _, _, _⟩ := T_d d hd
  rw [at_ok σ (by omega) (by rw [e1]; exact hr) (by rw [e2]; exact hk), e2]
theorem lo_at (hd : d < 5) {k : Nat} (hk : k < 3) : X4_at σ (4 * d + 3) (nI 0) (nI k) = some (σ.1 13 (4 * d + 3) k) := by
  obtain ⟨_, _, _, _, _, _, e1, e2⟩ := T_d d hd
  rw [at_ok σ (by omega) (by rw [e1]; decide) (by rw [e2]; exact hk), Nat.zero_mul, Nat.zero_add]
theorem RV.x (h : RV σ d n i c s p o L) {k : Nat} {x : X3} (hk : L[k]? = some x) : k < 24 ∧ k < L.length ∧ x.1 < n ∧ x.2.1 < n ∧ x.1 ≠ x.2.1 ∧ x.2.2 ≤ 3 ∧ σ.1 13 (4 * d + 2) (24 * 0 + k) = nI x.1 ∧ σ.1 13 (4 * d + 2) (24 * 1 + k) = nI x.2.1 ∧ σ.1 13 (4 * d + 2) (24 * 2 + k) = nI x.2.2 := by
  obtain ⟨-, -, -, -, -, -, h7, -, h9, h10⟩ := h
  have hl := (List.getElem?_eq_some_iff.mp hk).1
  have hm := h10 x (List.mem_of_getElem? hk)
  exact ⟨by omega, hl, hm.1, hm.2.1, hm.2.2.1, hm.2.2.2, h7 k x hk⟩
theorem RV.len (h : RV σ d n i c s p o L) : σ.1 0 d 6 = nI L.length := h.1
theorem RV.l24 (h : RV σ d n i c s p o L) : L.length ≤ 24 := h.2.2.2.2.2.2.2.2.1
theorem RV.ins (h : RV σ d n i c s p o L) : σ.1 0 d 8 = nI i := h.2.1
theorem RV.ilt (h : RV σ d n i c s p o L) : i < 2 ^ n := h.2.2.2.2.2.2.2.1
theorem RS.n8 (h : RS σ d n nk nu lo) : n ≤ 8 := h.2.2.2.2.2.1
theorem RS.k3 (h : RS σ d n nk nu lo) : nk ≤ 3 := h.2.2.2.2.2.2.1
theorem RS.wf (h : RS σ d n nk nu lo) : wfS n nk nu lo := h.2.2.2.2.2
theorem p256 {n i : Nat} (hn : n ≤ 8) (h : i < 2 ^ n) : i < 256 := Nat.lt_of_lt_of_le h (by have : (256 : Nat) = 2 ^ 8 := rfl; rw [this]; exact Nat.pow_le_pow_right (by decide) hn)
theorem tb_out {n i l : Nat} (h : i < 2 ^ n) (hl : n ≤ l) : i.testBit l = false := Nat.testBit_lt_two_pow (Nat.lt_of_lt_of_le h (Nat.pow_le_pow_right (by decide) hl))
theorem stateAt_ok (hd : d < 5) (h : RV σ d n i c s p o L) {k : Nat} {x : X3} (hk : L[k]? = some x) : X0_stateAt σ d (nI k) = some (nI x.2.2) := by
  obtain ⟨h1, h2, h3, h4, h5, h6, h7, h8, h9⟩ := h.x hk
  unfold X0_stateAt X0_stateAt_j0
  simp (disch := omega) only [lits, le_t, le_f, lt_t, lt_f, eq_t, eq_f, em_f, me_f, nI_add, nI_subN, pk_mul, Option.bind_some, ck_nI, lens, wI_eq, wI_ne, if_true, if_false, ite_true, ite_false, eq_self, Bool.false_eq_true, Nat.zero_add, Nat.add_zero, cr_at hd, h9]
theorem oth_lt {x : X3} {l : Nat} (h3 : x.1 < n) (h4 : x.2.1 < n) : oth l x < n := by
  unfold oth
  split <;> assumption
theorem otherAt_c (hd : d < 5) {k : Nat} (hk : k < 24) {x : X3} (a1 : x.1 < 8) (a2 : x.2.1 < 8) (h7 : σ.1 13 (4 * d + 2) (24 * 0 + k) = nI x.1) (h8 : σ.1 13 (4 * d + 2) (24 * 1 + k) = nI x.2.1) {l : Nat} (hl : l < 8) : X0_otherAt σ d (nI k) (nI l) = some (if qO l x = true then nI (oth l x) else -nI 1) := by
  unfold X0_otherAt X0_otherAt_j0
  by_cases a : x.1 = l
  · have hq : qO l x = true := by simp [qO, a]
    simp (disch := omega) only [lits, le_t, le_f, lt_t, lt_f, eq_t, eq_f, em_f, me_f, nI_add, nI_subN, pk_mul, Option.bind_some, ck_nI, lens, wI_eq, wI_ne, if_true, if_false, ite_true, ite_false, eq_self, Bool.false_eq_true, Nat.zero_add, Nat.add_zero, cr_at hd, h7, h8, hq, oth, a]
  · by_cases b : x.2.1 = l
    · have hq : qO l x = true := by simp [qO, b]
      simp (disch := omega) only [lits, le_t, le_f, lt_t, lt_f, eq_t, eq_f, em_f, me_f, nI_add, nI_subN, pk_mul, Option.bind_some, ck_nI, lens, wI_eq, wI_ne, if_true, if_false, ite_true, ite_false, eq_self, Bool.false_eq_true, Nat.zero_add, Nat.add_zero, cr_at hd, h7, h8, hq, oth, a]
    · have hq : qO l x = false := by simp [qO, a, b]
      simp (disch := omega) only [lits, le_t, le_f, lt_t, lt_f, eq_t, eq_f, em_f, me_f, nI_add, nI_subN, pk_mul, Option.bind_some, ck_nI, lens, wI_eq, wI_ne, if_true, if_false, ite_true, ite_false, eq_self, Bool.false_eq_true, Nat.zero_add, Nat.add_zero, cr_at hd, h7, h8, hq, Bool.false_eq_true]
theorem otherAt_ok (hd : d < 5) (hn : n ≤ 8) (h : RV σ d n i c s p o L) {k l : Nat} {x : X3} (hk : L[k]? = some x) (hl : l < 8) : X0_otherAt σ d (nI k) (nI l) = some (if qO l x = true then nI (oth l x) else -nI 1) := by
  obtain ⟨h1, h2, h3, h4, h5, h6, h7, h8, h9⟩ := h.x hk
  exact otherAt_c hd h1 (Nat.lt_of_lt_of_le h3 hn) (Nat.lt_of_lt_of_le h4 hn) h7 h8 hl
theorem countOn_ok (hd : d < 5) (hn : n ≤ 8) (h : RV σ d n i c s p o L) {l : Nat} (hl : l < 8) : X0_countOn σ d (nI l) = some (nI (cnt L l)) := by
  have h24 := h.l24
  unfold X0_countOn X0_countOn_j0 X0_countOn_l4
  rw [iter_scan (s := (0, 0)) L (fun a _ x => Sum.inl (a + (if qO l x = true then 1 else 0))) (fun a => a) (fun a k => (a, nI k)) 0 rfl (by omega) (fun k x acc hk => ?_) (fun acc => ?_), scan_fold, foldl_cnt0]
  · rfl
  · obtain ⟨h1, h2, h3, h4, -⟩ := h.x hk
    have ho := oth_lt (l := l) h3 h4
    unfold X0_countOn_l4b X0_countOn_l4c X0_countOn_j28
    by_cases q : qO l x = true
    · simp (disch := omega) only [lits, le_t, le_f, lt_t, lt_f, eq_t, eq_f, em_f, me_f, nI_add, nI_subN, pk_mul, Option.bind_some, ck_nI, lens, wI_eq, wI_ne, if_true, if_false, ite_true, ite_false, eq_self, Bool.false_eq_true, Nat.zero_add, Nat.add_zero, h.len, otherAt_ok hd hn h hk hl, q]
    · simp (disch := omega) only [lits, le_t, le_f, lt_t, lt_f, eq_t, eq_f, em_f, me_f, nI_add, nI_subN, pk_mul, Option.bind_some, ck_nI, lens, wI_eq, wI_ne, if_true, if_false, ite_true, ite_false, eq_self, Bool.false_eq_true, Nat.zero_add, Nat.add_zero, h.len, otherAt_ok hd hn h hk hl, q]
  · unfold X0_countOn_l4b X0_countOn_l4c
    simp (disch := omega) only [lits, le_t, le_f, lt_t, lt_f, eq_t, eq_f, em_f, me_f, nI_add, nI_subN, pk_mul, Option.bind_some, ck_nI, lens, wI_eq, wI_ne, if_true, if_false, ite_true, ite_false, eq_self, Bool.false_eq_true, Nat.zero_add, Nat.add_zero, h.len]
theorem countBetween_ok (hd : d < 5) (hn : n ≤ 8) (h : RV σ d n i c s p o L) {a b : Nat} (hl : a < 8) (hb : b < 8) : X0_countBetween σ d (nI a) (nI b) = some (nI (L.countP (fun x => qO a x && oth a x == b))) := by
  have h24 := h.l24
  unfold X0_countBetween X0_countBetween_j0 X0_countBetween_l5
  rw [iter_scan (s := (0, 0)) L (fun acc _ x => Sum.inl (acc + (if (qO a x && oth a x == b) = true then 1 else 0))) (fun a => a) (fun a k => (a, nI k)) 0 rfl (by omega) (fun k x acc hk => ?_) (fun acc => ?_), scan_fold, foldl_cnt0]
  · rfl
  · obtain ⟨h1, h2, h3, h4, -⟩ := h.x hk
    have ho := oth_lt (l := a) h3 h4
    unfold X0_countBetween_l5b X0_countBetween_l5c X0_countBetween_j31
    by_cases q : qO a x = true
    · by_cases q2 : oth a x = b
      · simp (disch := omega) only [lits, le_t, le_f, lt_t, lt_f, eq_t, eq_f, em_f, me_f, nI_add, nI_subN, pk_mul, Option.bind_some, ck_nI, lens, wI_eq, wI_ne, if_true, if_false, ite_true, ite_false, eq_self, Bool.false_eq_true, Nat.zero_add, Nat.add_zero, h.len, otherAt_ok hd hn h hk hl, q, q2, Bool.true_and, beq_self_eq_true]
      · simp (disch := omega) only [lits, le_t, le_f, lt_t, lt_f, eq_t, eq_f, em_f, me_f, nI_add, nI_subN, pk_mul, Option.bind_some, ck_nI, lens, wI_eq, wI_ne, if_true, if_false, ite_true, ite_false, eq_self, Bool.false_eq_true, Nat.zero_add, Nat.add_zero, h.len, otherAt_ok hd hn h hk hl, q, q2, Bool.true_and, beq_iff_eq]
    · simp (disch := omega) only [lits, le_t, le_f, lt_t, lt_f, eq_t, eq_f, em_f, me_f, nI_add, nI_subN, pk_mul, Option.bind_some, ck_nI, lens, wI_eq, wI_ne, if_true, if_false, ite_true, ite_false, eq_self, Bool.false_eq_true, Nat.zero_add, Nat.add_zero, h.len, otherAt_ok hd hn h hk hl, q, Bool.false_and, Bool.not_eq_true, Bool.and_eq_true, false_and]
  · unfold X0_countBetween_l5b X0_countBetween_l5c
    simp (disch := omega) only [lits, le_t, le_f, lt_t, lt_f, eq_t, eq_f, em_f, me_f, nI_add, nI_subN, pk_mul, Option.bind_some, ck_nI, lens, wI_eq, wI_ne, if_true, if_false, ite_true, ite_false, eq_self, Bool.false_eq_true, Nat.zero_add, Nat.add_zero, h.len]
theorem countInState_ok (hd : d < 5) (h : RV σ d n i c s p o L) {w : Nat} (hw : w < 4) : X0_countInState σ d (nI w) = some (nI (L.countP (fun x => x.2.2 == w))) := by
  have h24 := h.l24
  unfold X0_countInState X0_countInState_j0 X0_countInState_l4
  rw [iter_scan (s := (0, 0)) L (fun acc _ x => Sum.inl (acc + (if (x.2.2 == w) = true then 1 else 0))) (fun a => a) (fun a k => (a, nI k)) 0 rfl (by omega) (fun k x acc hk => ?_) (fun acc => ?_), scan_fold, foldl_cnt0]
  · rfl
  · obtain ⟨h1, h2, h3, h4, h5, h6, -⟩ := h.x hk
    unfold X0_countInState_l4b X0_countInState_l4c X0_countInState_j27
    by_cases q : x.2.2 = w
    · simp (disch := omega) only [lits, le_t, le_f, lt_t, lt_f, eq_t, eq_f, em_f, me_f, nI_add, nI_subN, pk_mul, Option.bind_some, ck_nI, lens, wI_eq, wI_ne, if_true, if_false, ite_true, ite_false, eq_self, Bool.false_eq_true, Nat.zero_add, Nat.add_zero, h.len, stateAt_ok hd h hk, q, beq_self_eq_true]
    · simp (disch := omega) only [lits, le_t, le_f, lt_t, lt_f, eq_t, eq_f, em_f, me_f, nI_add, nI_subN, pk_mul, Option.bind_some, ck_nI, lens, wI_eq, wI_ne, if_true, if_false, ite_true, ite_false, eq_self, Bool.false_eq_true, Nat.zero_add, Nat.add_zero, h.len, stateAt_ok hd h hk, q, beq_iff_eq]
  · unfold X0_countInState_l4b X0_countInState_l4c
    simp (disch := omega) only [lits, le_t, le_f, lt_t, lt_f, eq_t, eq_f, em_f, me_f, nI_add, nI_subN, pk_mul, Option.bind_some, ck_nI, lens, wI_eq, wI_ne, if_true, if_false, ite_true, ite_false, eq_self, Bool.false_eq_true, Nat.zero_add, Nat.add_zero, h.len]
/-- the place of the m-th crossing of a lead -/
def nth (l : Nat) : List X3 → Nat → Nat → Option Nat
  | [], _, _ => none
  | x :: t, m, b => if qO l x = true then (match m with
    | 0 => some b
    | m + 1 => nth l t m (b + 1)) else nth l t m (b + 1)
theorem nth_scan (l : Nat) (L : List X3) (m b : Nat) : scan (fun (a : Nat) k x => if qO l x = true then (if a = 0 then Sum.inr (Sum.inl (nI k)) else Sum.inl (a - 1)) else Sum.inl a) (fun _ => (Sum.inr () : Int32 ⊕ Unit)) L m b = (match nth l L m b with
    | some k => Sum.inl (nI k)
    | none => Sum.inr ()) := by
  induction L generalizing m b with
  | nil => rfl
  | cons x t ih =>
    unfold scan nth
    by_cases q : qO l x = true
    · rw [if_pos q, if_pos q]
      cases m with
      | zero => rfl
      | succ m => exact ih m (b + 1)
    · rw [if_neg q, if_neg q]
      exact ih m (b + 1)
theorem crossingOn_ok (hd : d < 5) (hn : n ≤ 8) (h : RV σ d n i c s p o L) {l m : Nat} (hl : l < 8) (hm : m < 100) : X0_crossingOn σ d (nI l) (nI m) = some (match nth l L m 0 with
    | some k => nI k
    | none => -nI 1) := by
  have h24 := h.l24
  unfold X0_crossingOn X0_crossingOn_j0 X0_crossingOn_l5
  have key : iter (X0_crossingOn_l5b σ d (nI l)) NF (nI m, 0) = some (match nth l L m 0 with
    | some k => Sum.inl (nI k)
    | none => Sum.inr ()) := by
    rw [← nth_scan]
    refine iter_scanI (s := (nI m, 0)) L (fun _ a => a < 100) _ _ (fun a k => (nI a, nI k)) m rfl hm (by omega) (fun k x acc hk hI => ?_) (fun k x acc a hk hI hg => ?_) (fun acc hI => ?_)
    · obtain ⟨h1, h2, h3, h4, -⟩ := h.x hk
      have ho := oth_lt (l := l) h3 h4
      unfold X0_crossingOn_l5b X0_crossingOn_l5c X0_crossingOn_j35
      by_cases q : qO l x = true
      · by_cases z : acc = 0
        · simp (disch := omega) only [lits, le_t, le_f, lt_t, lt_f, eq_t, eq_f, em_f, me_f, nI_add, nI_subN, pk_mul, Option.bind_some, ck_nI, lens, wI_eq, wI_ne, if_true, if_false, ite_true, ite_false, eq_self, Bool.false_eq_true, Nat.zero_add, Nat.add_zero, h.len, otherAt_ok hd hn h hk hl, q, z]
        · simp (disch := omega) only [lits, le_t, le_f, lt_t, lt_f, eq_t, eq_f, em_f, me_f, nI_add, nI_subN, pk_mul, Option.bind_some, ck_nI, lens, wI_eq, wI_ne, if_true, if_false, ite_true, ite_false, eq_self, Bool.false_eq_true, Nat.zero_add, Nat.add_zero, h.len, otherAt_ok hd hn h hk hl, q, z, nI_addm]
      · simp (disch := omega) only [lits, le_t, le_f, lt_t, lt_f, eq_t, eq_f, em_f, me_f, nI_add, nI_subN, pk_mul, Option.bind_some, ck_nI, lens, wI_eq, wI_ne, if_true, if_false, ite_true, ite_false, eq_self, Bool.false_eq_true, Nat.zero_add, Nat.add_zero, h.len, otherAt_ok hd hn h hk hl, q]
    · by_cases q : qO l x = true
      · rw [if_pos q] at hg
        split at hg
        · cases hg
        · cases hg; omega
      · rw [if_neg q] at hg
        cases hg; exact hI
    · clear hI hm
      have e : X0_crossingOn_l5c σ d (nI l) (nI acc) (nI L.length) = some (Sum.inr (Sum.inr ())) := by
        unfold X0_crossingOn_l5c
        rw [h.len]
        exact le_t (Nat.le_refl _) (Nat.lt_of_le_of_lt h24 (by decide))
      exact e
  rw [key]
  cases nth l L m 0 <;> rfl
end C1
