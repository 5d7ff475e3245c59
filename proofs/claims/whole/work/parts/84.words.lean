/-! ===== TEXTS: which word it is ===== -/
/-- the words, letter by letter -/
def WDS : List (List Nat) := [[108, 101, 97, 100], [108, 111, 110, 103], [115, 116, 105, 102, 102], [101, 110, 100, 115], [99, 111, 115, 116, 115], [117, 115, 101, 100], [99, 108, 105, 112], [99, 114, 111, 115, 115], [116, 104, 114, 101, 97, 100, 101, 100], [116, 105, 103, 104, 116], [107, 110, 111, 116], [108, 111, 111, 107], [111, 112, 101, 110], [116, 97, 107, 101], [108, 111, 111, 115, 101, 110], [112, 117, 108, 108], [102, 114, 111, 109], [99, 117, 116], [119, 104, 101, 110], [108, 117, 109, 112], [102, 114, 101, 101], [108, 111, 111, 112], [101, 110, 100], [115, 116, 111, 112]]
def flW : List (List Nat) → List Nat
  | [] => []
  | W :: Ws => W ++ 32 :: flW Ws
theorem WBY_flW : WBY = (flW WDS).map nI := by decide +kernel
def mt (B : Nat → Nat) (z : Nat) : Nat → List Nat → Bool
  | _, [] => true
  | p, v :: V => decide (p < z) && (B p == v) && mt B z (p + 1) V
/-- the first word that stands there -/
def fndW (B : Nat → Nat) (a z : Nat) : List (List Nat) → Nat → Option Nat
  | [], _ => none
  | W :: Ws, k => if (mt B z a W && (a + W.length == z)) = true then some k else fndW B a z Ws (k + 1)
def wnI : Option Nat → Int32
  | none => -1
  | some k => nI k
theorem drop_at {i : Nat} {y : Int32} {t : List Int32} (h : WBY.drop i = y :: t) : WBY.getD i 0 = y ∧ WBY.drop (i + 1) = t ∧ i < 128 := by
  have hl : WBY.length = 128 := by decide +kernel
  have h1 : (WBY.drop i)[0]? = some y := by rw [h]; rfl
  rw [List.getElem?_drop, Nat.add_zero] at h1
  have h2 := (List.getElem?_eq_some_iff.mp h1).1
  refine ⟨?_, ?_, by omega⟩
  · rw [List.getD_eq_getElem?_getD, h1]
    rfl
  · rw [← List.drop_drop, h]
    rfl
section WD
variable {σ : SS} {B : Nat → Nat} {S a z : Nat}
theorem word_in (h : TxC B S σ) (h5 : σ.1 4 0 5 = nI z) (hz : z ≤ S) : ∀ (V X : List Nat) (k p i : Nat) (fl : Bool) (R : Nat), WBY.drop i = (V ++ X).map nI → (∀ v ∈ V, v < 128 ∧ v ≠ 32) → p < 2000 → p + V.length < 2000 → iter (X5_numberOfWord_l12b σ) (R + V.length) (nI k, nI p, (if fl = true then 1 else 0), nI i) = iter (X5_numberOfWord_l12b σ) R (nI k, nI (p + V.length), (if (fl && mt B z p V) = true then 1 else 0), nI (i + V.length)) := by
  intro V
  induction V with
  | nil =>
    intro X k p i fl R hd hV hp hp2
    rw [List.length_nil, Nat.add_zero, Nat.add_zero, Nat.add_zero]
    unfold mt
    rw [Bool.and_true]
  | cons v V ih =>
    intro X k p i fl R hd hV hp hp2
    rw [List.length_cons] at hp2
    have hS := h.1
    obtain ⟨g1, g2, g3⟩ := drop_at (i := i) (y := nI v) (t := (V ++ X).map nI) hd
    obtain ⟨hv, hv2⟩ := hV v List.mem_cons_self
    have hst : X5_numberOfWord_l12b σ (nI k, nI p, (if fl = true then 1 else 0), nI i) = some (Sum.inl (nI k, nI (p + 1), (if (fl && (decide (p < z) && (B p == v))) = true then 1 else 0), nI (i + 1))) := by
      show X5_numberOfWord_l12c σ (nI k) (nI p) (if fl = true then 1 else 0) (nI i) = _
      unfold X5_numberOfWord_l12c X5_numberOfWord_j64 X5_numberOfWord_j65 X5_numberOfWord_j96
      rw [if_neg (nI_ge g3 (by decide)), ck_nI g3 (by decide), Option.bind_some, g1, Option.bind_some, if_neg (show ¬ nI v = 32 from wne hv2 (by omega) (by decide)), nI_1, nI_1, Option.bind_some, Option.bind_some, Option.bind_some, Option.bind_some, h5]
      cases fl with
      | false =>
        rw [if_neg Bool.false_ne_true, if_pos rfl, Bool.false_and, if_neg Bool.false_ne_true]
      | true =>
        rw [if_pos rfl, if_neg neg1_0, Bool.true_and]
        by_cases q : p < z
        · rw [if_neg (nI_ge q (by omega)), h.at (by omega), Option.bind_some]
          have hb := (h.2.2 p (by omega)).1
          by_cases y : B p = v
          · rw [if_pos (by rw [y]), if_pos (by simp [q, y])]
          · rw [if_neg (wne y (by omega) (by omega)), if_neg (by simp [q, y])]
        · rw [if_pos (nI_le (by omega) (by omega)), if_neg (by simp [q])]
    rw [List.length_cons, show R + (V.length + 1) = (R + V.length) + 1 by omega, it_l hst, ih X k (p + 1) (i + 1) _ R g2 (fun w hw => hV w (List.mem_cons_of_mem _ hw)) (by omega) (by omega), show p + 1 + V.length = p + (V.length + 1) by omega, show i + 1 + V.length = i + (V.length + 1) by omega]
    have em : (fl && (decide (p < z) && (B p == v)) && mt B z (p + 1) V) = (fl && mt B z p (v :: V)) := by
      show _ = (fl && (decide (p < z) && (B p == v) && mt B z (p + 1) V))
      rw [Bool.and_assoc]
    rw [em]
theorem words_in (h : TxC B S σ) (h4 : σ.1 4 0 4 = nI a) (h5 : σ.1 4 0 5 = nI z) (hz : z ≤ S) (ha : a ≤ S) : ∀ (Ws : List (List Nat)) (k i : Nat), WBY.drop i = (flW Ws).map nI → (∀ W ∈ Ws, W.length ≤ 8 ∧ ∀ v ∈ W, v < 128 ∧ v ≠ 32) → i ≤ 128 → ∀ R, (flW Ws).length < R → iter (X5_numberOfWord_l12b σ) R (nI k, nI a, 1, nI i) = some (match fndW B a z Ws k with
    | some m => Sum.inl (nI m)
    | none => Sum.inr ()) := by
  have hS := h.1
  intro Ws
  induction Ws with
  | nil =>
    intro k i hd hW hi R hR
    obtain ⟨R, rfl⟩ := Nat.exists_eq_succ_of_ne_zero (by omega : R ≠ 0)
    have hl : WBY.length = 128 := by decide +kernel
    have hi2 : 128 ≤ i := by
      have : (WBY.drop i).length = 0 := by rw [hd]; rfl
      rw [List.length_drop] at this
      omega
    refine it_r ?_ R
    show X5_numberOfWord_l12c σ (nI k) (nI a) 1 (nI i) = _
    unfold X5_numberOfWord_l12c
    rw [if_pos (nI_le hi2 (by omega))]
    rfl
  | cons W Ws ih =>
    intro k i hd hW hi R hR
    obtain ⟨hw8, hw⟩ := hW W List.mem_cons_self
    have hlen : (flW (W :: Ws)).length = W.length + 1 + (flW Ws).length := by
      show (W ++ 32 :: flW Ws).length = _
      rw [List.length_append, List.length_cons]
      omega
    rw [hlen] at hR
    obtain ⟨R', rfl⟩ : ∃ R', R = (R' + 1) + W.length := ⟨R - 1 - W.length, by omega⟩
    have hin := word_in h h5 hz W (32 :: flW Ws) k a i true (R' + 1) hd hw (by omega) (by omega)
    rw [if_pos rfl, Bool.true_and] at hin
    rw [hin]
    have hd2 : WBY.drop (i + W.length) = nI 32 :: (flW Ws).map nI := by
      have hd' : WBY.drop i = W.map nI ++ (nI 32 :: (flW Ws).map nI) := by
        rw [hd]
        show (W ++ 32 :: flW Ws).map nI = _
        rw [List.map_append]
        rfl
      rw [← List.drop_drop, hd']
      have := List.drop_left (l₁ := W.map nI) (l₂ := nI 32 :: (flW Ws).map nI)
      rw [List.length_map] at this
      exact this
    obtain ⟨g1, g2, g3⟩ := drop_at hd2
    have hst : X5_numberOfWord_l12b σ (nI k, nI (a + W.length), (if mt B z a W = true then 1 else 0), nI (i + W.length)) = some (if (mt B z a W && (a + W.length == z)) = true then Sum.inr (Sum.inl (nI k)) else Sum.inl (nI (k + 1), nI a, 1, nI (i + W.length + 1))) := by
      show X5_numberOfWord_l12c σ (nI k) (nI (a + W.length)) (if mt B z a W = true then 1 else 0) (nI (i + W.length)) = _
      unfold X5_numberOfWord_l12c X5_numberOfWord_j86 X5_numberOfWord_j96
      rw [if_neg (nI_ge g3 (by decide)), ck_nI g3 (by decide), Option.bind_some, g1, Option.bind_some, if_pos (show nI 32 = 32 from rfl), h4, h5, nI_1, nI_1, Option.bind_some, Option.bind_some, Option.bind_some]
      by_cases q : mt B z a W = true
      · rw [if_pos q, if_neg neg1_0, q, Bool.true_and]
        by_cases y : a + W.length = z
        · rw [if_pos (by rw [y]), if_pos (by simp [y])]
        · rw [if_neg (fun w => y ((nI_eq (by omega) (by omega)).mp w)), if_neg (by simp [y])]
      · rw [if_neg q, if_pos rfl, if_neg (by simp [q])]
    show _ = some (match (if (mt B z a W && (a + W.length == z)) = true then some k else fndW B a z Ws (k + 1)) with
      | some m => Sum.inl (nI m)
      | none => Sum.inr ())
    by_cases q : (mt B z a W && (a + W.length == z)) = true
    · rw [if_pos q] at hst ⊢
      exact it_r hst R'
    · rw [if_neg q] at hst ⊢
      rw [it_l hst]
      exact ih (k + 1) (i + W.length + 1) g2 (fun X hX => hW X (List.mem_cons_of_mem _ hX)) (by omega) R' (by omega)
theorem numberOfWord_ok (h : TxC B S σ) (h4 : σ.1 4 0 4 = nI a) (h5 : σ.1 4 0 5 = nI z) (hz : z ≤ S) (ha : a ≤ S) : X5_numberOfWord σ = some (wnI (fndW B a z WDS 0)) := by
  have := words_in h h4 h5 hz ha WDS 0 0 (by rw [List.drop_zero]; exact WBY_flW) (by decide +kernel) (by decide) NF (by
    rw [show (flW WDS).length = 128 by decide +kernel]
    unfold NF
    omega)
  have h2 : iter (X5_numberOfWord_l12b σ) NF (0, nI a, 1, 0) = _ := this
  unfold X5_numberOfWord X5_numberOfWord_j0 X5_numberOfWord_l12
  rw [h4, Option.bind_some, h2, Option.bind_some]
  cases fndW B a z WDS 0 <;> rfl
end WD
