/-! ===== loops, once more ===== -/
theorem loopI {S T B W : Type} {f : S → Option (S ⊕ T)} (N : Nat) (mk : Nat → B → W → S) (fin : B → W → T) (I : Nat → B → W → Prop) {s : S} (b0 : B) (w0 : W) (h0 : s = mk 0 b0 w0) (hI : I 0 b0 w0) (hN : N < 1999999) (hs : ∀ k b w, k < N → I k b w → ∃ b' w', f (mk k b w) = some (Sum.inl (mk (k + 1) b' w')) ∧ I (k + 1) b' w') (he : ∀ b w, I N b w → f (mk N b w) = some (Sum.inr (fin b w))) : ∃ b w, iter f NF s = some (fin b w) ∧ I N b w := by
  subst h0
  obtain ⟨t, e, b, w, rfl, h⟩ := iter_upto (f := f) (fun k s => ∃ b w, s = mk k b w ∧ I k b w) N (fun t => ∃ b w, t = fin b w ∧ I N b w) (fun k s hk ⟨b, w, e, h⟩ => by
    subst e
    obtain ⟨b', w', e, h'⟩ := hs k b w hk h
    exact Or.inl ⟨_, e, b', w', rfl, h'⟩) (fun s ⟨b, w, e, h⟩ => by
    subst e
    exact ⟨_, he b w h, b, w, rfl, h⟩) ⟨b0, w0, rfl, hI⟩ hN
  exact ⟨b, w, e, h⟩
theorem fold_succ {B : Type} (g : B → Nat → B) (b : B) (k : Nat) : (List.range (k + 1)).foldl g b = g ((List.range k).foldl g b) k := by
  rw [List.range_succ, List.foldl_append]
  rfl
theorem sum_le {A : List Nat} {c : Nat} (h : ∀ y ∈ A, y ≤ c) : A.sum ≤ A.length * c := by
  induction A with
  | nil => simp
  | cons y t ih =>
    have h1 := ih (fun z hz => h z (List.mem_cons_of_mem _ hz))
    have h2 := h y List.mem_cons_self
    rw [List.sum_cons, List.length_cons, Nat.add_mul]
    omega
theorem sum_take {A : List Nat} {k y : Nat} (h : A[k]? = some y) : (A.take (k + 1)).sum = (A.take k).sum + y := by
  obtain ⟨hk, e⟩ := List.getElem?_eq_some_iff.mp h
  rw [← List.take_append_getElem hk, List.sum_append, e]
  simp
theorem sum_drop {A : List Nat} {k y : Nat} (h : A[k]? = some y) : (A.drop k).sum = (A.drop (k + 1)).sum + y := by
  obtain ⟨hk, e⟩ := List.getElem?_eq_some_iff.mp h
  rw [List.drop_eq_getElem_cons hk, List.sum_cons, e]
  omega
/-! ===== WAYS, pure: a row of costs and states ===== -/
abbrev RW : Type := List (Nat × Nat)
def aft (k s : Nat) : Option Nat := if s = 3 then some 3 else if k ≤ s then some (s - k) else none
def rowF (nu : Nat → Nat → Nat) (l dn k : Nat) (x : X3) : Option (Nat × Nat) := if qO l x = true ∧ dn.testBit (oth l x) = false then (aft k x.2.2).map (fun s => (sUndo s + nu 1 (oth l x), s)) else none
def rowL (nu : Nat → Nat → Nat) (l dn k : Nat) (L : List X3) : RW := L.filterMap (rowF nu l dn k)
def rsum (A : RW) : Nat := (A.map (fun y => y.1)).sum
theorem rsum_take {A : RW} {k : Nat} {y : Nat × Nat} (h : A[k]? = some y) : rsum (A.take (k + 1)) = rsum (A.take k) + y.1 := by
  unfold rsum
  rw [List.map_take, List.map_take]
  exact sum_take (by rw [List.getElem?_map, h]; rfl)
theorem rsum_drop {A : RW} {k : Nat} {y : Nat × Nat} (h : A[k]? = some y) : rsum (A.drop k) = rsum (A.drop (k + 1)) + y.1 := by
  unfold rsum
  rw [List.map_drop, List.map_drop]
  exact sum_drop (by rw [List.getElem?_map, h]; rfl)
def RWb (R : RW) : Prop := R.length ≤ 24 ∧ ∀ y ∈ R, y.1 ≤ 30
theorem rsum_le {R A : RW} (h : RWb R) (hA : ∀ y ∈ A, y ∈ R) (hl : A.length ≤ 24) : rsum A ≤ 720 := by
  have h1 : rsum A ≤ (A.map (fun y => y.1)).length * 30 := sum_le (fun y hy => by
    obtain ⟨z, hz, rfl⟩ := List.mem_map.mp hy
    exact h.2 z (hA z hz))
  rw [List.length_map] at h1
  omega
theorem rsum_lt {R : RW} (h : RWb R) (k : Nat) : rsum (R.take k) ≤ 720 := rsum_le h (fun _ hy => List.mem_of_mem_take hy) (by rw [List.length_take]; have := h.1; omega)
theorem rsum_ld {R : RW} (h : RWb R) (k : Nat) : rsum (R.drop k) ≤ 720 := rsum_le h (fun _ hy => List.mem_of_mem_drop hy) (by rw [List.length_drop]; have := h.1; omega)
/-- how many are loose, from the beginning on -/
def twl : RW → Nat
  | [] => 0
  | y :: t => if y.2 = 0 then twl t + 1 else 0
theorem twl_le (A : RW) : twl A ≤ A.length := by
  induction A with
  | nil => exact Nat.le_refl _
  | cons y t ih =>
    unfold twl
    rw [List.length_cons]
    split <;> omega
theorem twl_lt : ∀ (A : RW) (k : Nat), k < twl A → ∃ y, A[k]? = some y ∧ y.2 = 0 := by
  intro A
  induction A with
  | nil => intro k h; exact absurd h (Nat.not_lt_zero _)
  | cons y t ih =>
    intro k h
    unfold twl at h
    split at h
    · rename_i q
      cases k with
      | zero => exact ⟨y, rfl, q⟩
      | succ k => exact ih k (by omega)
    · exact absurd h (Nat.not_lt_zero _)
theorem twl_end : ∀ (A : RW), twl A < A.length → ∃ y, A[twl A]? = some y ∧ y.2 ≠ 0 := by
  intro A
  induction A with
  | nil => intro h; exact absurd h (Nat.not_lt_zero _)
  | cons y t ih =>
    intro h
    unfold twl at h ⊢
    split
    · rename_i q
      rw [if_pos q, List.length_cons] at h
      obtain ⟨z, h1, h2⟩ := ih (by omega)
      exact ⟨z, by rw [List.getElem?_cons_succ]; exact h1, h2⟩
    · rename_i q
      exact ⟨y, rfl, q⟩
theorem twl_step {A : RW} {k : Nat} {y : Nat × Nat} (h : A[k]? = some y) : k + 1 ≤ twl A ↔ k ≤ twl A ∧ y.2 = 0 := by
  constructor
  · intro q
    obtain ⟨z, h1, h2⟩ := twl_lt A k q
    rw [h] at h1
    cases h1
    exact ⟨by omega, h2⟩
  · intro ⟨q1, q2⟩
    rcases Nat.lt_or_ge k (twl A) with z | z
    · exact z
    · have e : twl A = k := by omega
      obtain ⟨w, h1, h2⟩ := twl_end A (by rw [e]; exact (List.getElem?_eq_some_iff.mp h).1)
      rw [e, h] at h1
      cases h1
      exact absurd q2 h2
/-- what a way costs; whether it is one; the fewest -/
def fwV (R : RW) (i j : Nat) : Nat := rsum (R.take i) + rsum (R.drop (R.length - j)) + (if i + j < R.length then 2 else 0)
def tied (R : RW) (i : Nat) : Nat := i + twl (R.drop i)
def fwS (R : RW) (i : Nat) (a : Nat × Nat × Nat) (j : Nat) : Nat × Nat × Nat := if R.length - j ≤ tied R i ∧ fwV R i j < a.1 then (fwV R i j, i, j) else a
def fwI (R : RW) (a : Nat × Nat × Nat) (i : Nat) : Nat × Nat × Nat := (List.range (R.length - i + 1)).foldl (fwS R i) a
def few (R : RW) : Nat × Nat × Nat := (List.range (R.length + 1)).foldl (fwI R) (1073741824, 0, 0)
def fwP (R : RW) : Nat := if (few R).2.1 + (few R).2.2 < R.length then 1 else 0
theorem tied_le (R : RW) {i : Nat} (hi : i ≤ R.length) : i ≤ tied R i ∧ tied R i ≤ R.length := by
  unfold tied
  have := twl_le (R.drop i)
  rw [List.length_drop] at this
  omega
theorem fwV_le {R : RW} (h : RWb R) (i j : Nat) : fwV R i j ≤ 1442 := by
  unfold fwV
  have h1 := rsum_lt h i
  have h2 := rsum_ld h (R.length - j)
  split <;> omega
theorem fwS_ok {R : RW} {i : Nat} {a : Nat × Nat × Nat} {j : Nat} (ha : a.1 < 1073741824 → a.2.1 + a.2.2 ≤ R.length) (hj : i + j ≤ R.length) : (fwS R i a j).1 ≤ a.1 ∧ ((fwS R i a j).1 < 1073741824 → (fwS R i a j).2.1 + (fwS R i a j).2.2 ≤ R.length) := by
  unfold fwS
  split
  · rename_i q
    exact ⟨Nat.le_of_lt q.2, fun _ => hj⟩
  · exact ⟨Nat.le_refl _, ha⟩
theorem fwI_ok {R : RW} {i : Nat} {a : Nat × Nat × Nat} (ha : a.1 < 1073741824 → a.2.1 + a.2.2 ≤ R.length) (hi : i ≤ R.length) : ∀ k, k ≤ R.length - i + 1 → ((List.range k).foldl (fwS R i) a).1 ≤ a.1 ∧ (((List.range k).foldl (fwS R i) a).1 < 1073741824 → ((List.range k).foldl (fwS R i) a).2.1 + ((List.range k).foldl (fwS R i) a).2.2 ≤ R.length) := by
  intro k
  induction k with
  | zero => intro _; exact ⟨Nat.le_refl _, ha⟩
  | succ k ih =>
    intro hk
    obtain ⟨h1, h2⟩ := ih (by omega)
    rw [fold_succ]
    obtain ⟨h3, h4⟩ := fwS_ok (i := i) (j := k) h2 (by omega)
    exact ⟨Nat.le_trans h3 h1, h4⟩
theorem few_k (R : RW) : ∀ k, k ≤ R.length + 1 → ((List.range k).foldl (fwI R) (1073741824, 0, 0)).1 ≤ 1073741824 ∧ (((List.range k).foldl (fwI R) (1073741824, 0, 0)).1 < 1073741824 → ((List.range k).foldl (fwI R) (1073741824, 0, 0)).2.1 + ((List.range k).foldl (fwI R) (1073741824, 0, 0)).2.2 ≤ R.length) := by
  intro k
  induction k with
  | zero => intro _; exact ⟨Nat.le_refl _, fun h => absurd h (Nat.lt_irrefl _)⟩
  | succ k ih =>
    intro hk
    obtain ⟨h1, h2⟩ := ih (by omega)
    rw [fold_succ]
    obtain ⟨h3, h4⟩ := fwI_ok (i := k) h2 (by omega) _ (Nat.le_refl _)
    exact ⟨Nat.le_trans h3 h1, h4⟩
theorem few_lt {R : RW} (h : RWb R) : (few R).1 ≤ 1442 ∧ (few R).2.1 + (few R).2.2 ≤ R.length := by
  have h0 := few_k R R.length (by omega)
  have e : few R = fwI R ((List.range R.length).foldl (fwI R) (1073741824, 0, 0)) R.length := fold_succ _ _ _
  generalize (List.range R.length).foldl (fwI R) (1073741824, 0, 0) = a at e h0
  have e2 : fwI R a R.length = fwS R R.length a 0 := by
    unfold fwI
    rw [Nat.sub_self]
    rfl
  have hv := fwV_le h R.length 0
  have ht := tied_le R (Nat.le_refl R.length)
  rw [e, e2]
  unfold fwS
  split
  · exact ⟨hv, Nat.le_refl _⟩
  · rename_i q
    have : a.1 ≤ fwV R R.length 0 := by
      rcases Nat.lt_or_ge (fwV R R.length 0) a.1 with z | z
      · exact absurd ⟨by omega, z⟩ q
      · exact z
    exact ⟨by omega, h0.2 (by omega)⟩
/-- loosened k times -/
def lsn (k : Nat) (L : List X3) : List X3 := L.filterMap (fun x => (aft k x.2.2).map (fun s => (x.1, x.2.1, s)))
def st3 (L : List X3) : Prop := ∀ x ∈ L, x.2.2 ≤ 3
theorem lsn_0 {L : List X3} (h : st3 L) : lsn 0 L = L := by
  unfold lsn
  induction L with
  | nil => rfl
  | cons x t ih =>
    have hx := h x List.mem_cons_self
    have e : aft 0 x.2.2 = some x.2.2 := by
      unfold aft
      split
      · rename_i q; rw [q]
      · rw [if_pos (Nat.zero_le _)]; rfl
    rw [List.filterMap_cons, e]
    simp only [Option.map_some]
    rw [ih (fun y hy => h y (List.mem_cons_of_mem _ hy))]
theorem lsn_s {L : List X3} (h : st3 L) (k : Nat) : updL gL (lsn k L) = lsn (k + 1) L := by
  unfold lsn
  induction L with
  | nil => rfl
  | cons x t ih =>
    have hx := h x List.mem_cons_self
    have ih' := ih (fun y hy => h y (List.mem_cons_of_mem _ hy))
    rw [List.filterMap_cons, List.filterMap_cons]
    by_cases q3 : x.2.2 = 3
    · have e1 : ∀ k, aft k x.2.2 = some 3 := fun k => if_pos q3
      rw [e1, e1]
      simp only [Option.map_some]
      rw [updL_cons, ih']
      rfl
    · by_cases q : k ≤ x.2.2
      · have e1 : aft k x.2.2 = some (x.2.2 - k) := by unfold aft; rw [if_neg q3, if_pos q]
        rw [e1]
        simp only [Option.map_some]
        rw [updL_cons, ih']
        by_cases z : k = x.2.2
        · have e2 : aft (k + 1) x.2.2 = none := by unfold aft; rw [if_neg q3, if_neg (by omega)]
          rw [e2, if_pos (show (gL (x.1, x.2.1, x.2.2 - k)).2 = true by unfold gL; simp; omega)]
          rfl
        · have e2 : aft (k + 1) x.2.2 = some (x.2.2 - (k + 1)) := by unfold aft; rw [if_neg q3, if_pos (by omega)]
          rw [e2, if_neg (show ¬ (gL (x.1, x.2.1, x.2.2 - k)).2 = true by unfold gL; simp; omega)]
          simp only [Option.map_some]
          rw [show (gL (x.1, x.2.1, x.2.2 - k)).1 = x.2.2 - (k + 1) by
            unfold gL
            simp only
            rw [if_neg (by omega)]
            omega]
      · have e1 : aft k x.2.2 = none := by unfold aft; rw [if_neg q3, if_neg q]
        have e2 : aft (k + 1) x.2.2 = none := by unfold aft; rw [if_neg q3, if_neg (by omega)]
        rw [e1, e2]
        exact ih'
theorem lsn_len (k : Nat) (L : List X3) : (lsn k L).length = L.countP (fun x => x.2.2 == 3 || decide (k ≤ x.2.2)) := by
  unfold lsn
  induction L with
  | nil => rfl
  | cons x t ih =>
    rw [List.filterMap_cons, List.countP_cons]
    by_cases q3 : x.2.2 = 3
    · have e1 : aft k x.2.2 = some 3 := if_pos q3
      rw [e1, if_pos (by simp [q3])]
      simp only [Option.map_some, List.length_cons]
      rw [ih]
    · by_cases q : k ≤ x.2.2
      · have e1 : aft k x.2.2 = some (x.2.2 - k) := by unfold aft; rw [if_neg q3, if_pos q]
        rw [e1, if_pos (by simp [q])]
        simp only [Option.map_some, List.length_cons]
        rw [ih]
      · have e1 : aft k x.2.2 = none := by unfold aft; rw [if_neg q3, if_neg q]
        rw [e1, if_neg (by simp [q3]; omega)]
        simp only [Option.map_none]
        rw [ih]
        rfl
/-- seconds of loosening k times -/
def sLo (k : Nat) (L : List X3) : Nat := (L.map (fun x => if x.2.2 = 3 then k else min k (x.2.2 + 1))).sum
theorem sLo_0 (L : List X3) : sLo 0 L = 0 := by
  unfold sLo
  induction L with
  | nil => rfl
  | cons x t ih =>
    rw [List.map_cons, List.sum_cons, ih]
    split <;> simp
theorem sLo_s (k : Nat) (L : List X3) : sLo (k + 1) L = sLo k L + (lsn k L).length := by
  rw [lsn_len]
  unfold sLo
  induction L with
  | nil => rfl
  | cons x t ih =>
    rw [List.map_cons, List.map_cons, List.sum_cons, List.sum_cons, List.countP_cons, ih]
    by_cases q3 : x.2.2 = 3
    · rw [if_pos q3, if_pos q3, if_pos (by simp [q3])]
      omega
    · rw [if_neg q3, if_neg q3]
      by_cases q : k ≤ x.2.2
      · rw [if_pos (by simp [q])]
        omega
      · rw [if_neg (by simp [q3]; omega)]
        omega
theorem sLo_le {k : Nat} (hk : k ≤ 3) {L : List X3} (hL : L.length ≤ 24) : sLo k L ≤ 72 := by
  unfold sLo
  have := sum_le (A := L.map (fun x => if x.2.2 = 3 then k else min k (x.2.2 + 1))) (c := 3) (fun y hy => by
    obtain ⟨x, -, rfl⟩ := List.mem_map.mp hy
    split <;> omega)
  rw [List.length_map] at this
  omega
theorem rowL_lsn (nu : Nat → Nat → Nat) (l dn k : Nat) (L : List X3) (h : st3 L) : rowL nu l dn 0 (lsn k L) = rowL nu l dn k L := by
  unfold rowL lsn
  rw [List.filterMap_filterMap]
  congr 1
  funext x
  unfold rowF
  by_cases q : qO l x = true ∧ dn.testBit (oth l x) = false
  · rw [if_pos q]
    cases e : aft k x.2.2 with
    | none => rfl
    | some s =>
      have e0 : aft 0 s = some s := by
        unfold aft
        split
        · rename_i z; rw [z]
        · rw [if_pos (Nat.zero_le _)]; rfl
      simp only [Option.map_some, Option.bind_some]
      rw [if_pos (show qO l (x.1, x.2.1, s) = true ∧ dn.testBit (oth l (x.1, x.2.1, s)) = false from q), e0]
      rfl
  · rw [if_neg q]
    cases e : aft k x.2.2 with
    | none => rfl
    | some s =>
      simp only [Option.map_some, Option.bind_some]
      exact if_neg q
/-- without those of leads that are done -/
theorem rowL_cut (nu : Nat → Nat → Nat) {l e : Nat} (dn k : Nat) (L : List X3) (hne : l ≠ e) (he : e < 8) (hd : dn.testBit e = false) : rowL nu l (dn ||| 2 ^ e) k L = rowL nu l dn k (updL (gC e) L) := by
  unfold rowL
  induction L with
  | nil => rfl
  | cons x t ih =>
    rw [updL_cons, List.filterMap_cons, ih]
    by_cases q : qO e x = true
    · have hn : rowF nu l (dn ||| 2 ^ e) k x = none := by
        unfold rowF
        rw [if_neg]
        rintro ⟨h1, h2⟩
        have h3 : oth l x = e := by
          unfold qO at q h1
          unfold oth
          simp only [Bool.or_eq_true, beq_iff_eq] at q h1
          split <;> omega
        rw [h3, Nat.testBit_or, Nat.testBit_two_pow_self] at h2
        simp at h2
      rw [hn, if_pos (show (gC e x).2 = true from q)]
    · have hn : rowF nu l (dn ||| 2 ^ e) k x = rowF nu l dn k x := by
        unfold rowF
        by_cases h1 : qO l x = true
        · have h3 : oth l x ≠ e := by
            unfold qO at q h1
            unfold oth
            simp only [Bool.or_eq_true, beq_iff_eq] at q h1
            split <;> omega
          rw [Nat.testBit_or, Nat.testBit_two_pow, show decide (e = oth l x) = false by simp; omega, Bool.or_false]
        · rw [if_neg (fun z => h1 z.1), if_neg (fun z => h1 z.1)]
      rw [hn, if_neg (show ¬ (gC e x).2 = true from q), List.filterMap_cons]
      rfl
theorem rowF_b {n nk : Nat} {nu : Nat → Nat → Nat} {lo : Nat → Nat} (hw : wfS n nk nu lo) {l dn k : Nat} {x : X3} {y : Nat × Nat} (h0 : x.1 < n) (h1 : x.2.1 < n) (hx : x.2.2 ≤ 3) (h : rowF nu l dn k x = some y) : y.1 ≤ 24 ∧ y.2 ≤ 3 := by
  unfold rowF at h
  split at h
  · unfold aft at h
    have ho := hw.2.2.1 (oth l x) (oth_lt h0 h1)
    have hs : ∀ s, sUndo s ≤ 15 := fun s => by unfold sUndo; split <;> (try omega) <;> split <;> (try omega) <;> split <;> omega
    split at h
    · cases h
      exact ⟨by have := hs 3; show sUndo 3 + nu 1 (oth l x) ≤ 24; omega, Nat.le_refl 3⟩
    · split at h
      · cases h
        exact ⟨by have := hs (x.2.2 - k); show sUndo (x.2.2 - k) + nu 1 (oth l x) ≤ 24; omega, by show x.2.2 - k ≤ 3; omega⟩
      · cases h
  · cases h
theorem rowL_b {n nk : Nat} {nu : Nat → Nat → Nat} {lo : Nat → Nat} (hw : wfS n nk nu lo) {l dn k : Nat} {L : List X3} (hL : wfL n L) : RWb (rowL nu l dn k L) ∧ ∀ y ∈ rowL nu l dn k L, y.2 ≤ 3 := by
  have key : ∀ y ∈ rowL nu l dn k L, y.1 ≤ 24 ∧ y.2 ≤ 3 := fun y hy => by
    obtain ⟨x, hx, e⟩ := List.mem_filterMap.mp hy
    have := hL.2 x hx
    exact rowF_b hw this.1 this.2.1 this.2.2.2 e
  refine ⟨⟨Nat.le_trans (List.length_filterMap_le _ _) hL.1, fun y hy => ?_⟩, fun y hy => (key y hy).2⟩
  have := (key y hy).1
  omega
