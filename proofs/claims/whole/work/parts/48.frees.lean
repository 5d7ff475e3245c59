/-! ===== ALONE: the reference ===== -/
def LsIs (σ : SS) (R : RW) (m : Nat) : Prop := ∀ j y, j < m → R[j]? = some y → σ.1 13 36 j = nI y.1 ∧ σ.1 13 37 j = nI (if y.2 = 0 then 1 else 0)
/-- what a try writes beside the row -/
def FX : Nat → Nat → Nat → Prop := fun k n j => (k = 11 ∧ n = 0 ∧ 26 ≤ j ∧ j ≤ 28) ∨ (k = 13 ∧ (n = 36 ∨ n = 37))
def FX2 : Nat → Nat → Nat → Prop := fun k n j => k = 11 ∧ n = 0 ∧ 26 ≤ j ∧ j ≤ 28
theorem ck36 {t : Nat} (ht : t < 24) : ck (LN 13 36) (nI t) = some t := by
  rw [lens.2.2.2.2.2.1]
  exact ck_nI ht (by decide)
theorem ck37 {t : Nat} (ht : t < 24) : ck (LN 13 37) (nI t) = some t := by
  rw [lens.2.2.2.2.2.2.1]
  exact ck_nI ht (by decide)
theorem LsIs.keep {σ τ : SS} {R : RW} {m : Nat} {P : Nat → Nat → Nat → Prop} (h : LsIs σ R m) (hE : Eqo P σ τ) (hP : ∀ k n j, P k n j → ¬ (k = 13 ∧ (n = 36 ∨ n = 37))) : LsIs τ R m := by
  intro j y hj hy
  have e : ∀ k m j, (k = 13 ∧ (m = 36 ∨ m = 37)) → τ.1 k m j = σ.1 k m j := fun k m j q => hE.1 k m j (fun z => hP k m j z q)
  rw [e _ _ _ (by omega), e _ _ _ (by omega)]
  exact h j y hj hy
/-- from: the first i -/
theorem xfrom {σ : SS} {R : RW} (h : LsIs σ R R.length) (hl : R.length ≤ 24) {i : Nat} (hi : i ≤ R.length) (x2 x3 : Int32) : iter (X12_frees_l102b σ x2 x3 (nI i)) NF (0, 0) = some (nI (rsum (R.take i))) := by
  obtain ⟨b, w, e, h1⟩ := loopI (f := X12_frees_l102b σ x2 x3 (nI i)) (s := (0, 0)) i (fun k (b : Int32) (_ : Unit) => ((b, nI k) : Int32 × Int32)) (fun b _ => b) (fun k b _ => b = nI (rsum (R.take k))) 0 () rfl rfl (by omega) (fun k b w hk hI => by
      subst hI
      obtain ⟨y, hy⟩ : ∃ y, R[k]? = some y := ⟨R[k], List.getElem?_eq_getElem (by omega)⟩
      show ∃ b' w', X12_frees_l102c σ x2 x3 (nI i) (nI (rsum (R.take k))) (nI k) = _ ∧ _
      unfold X12_frees_l102c
      rw [if_neg (nI_ge hk (by omega)), ck36 (by omega), Option.bind_some, (h k y (by omega) hy).1, nI_add, Option.bind_some, nI_1, Option.bind_some]
      exact ⟨_, (), rfl, by rw [rsum_take hy]⟩) (fun b w hI => by
      subst hI
      show X12_frees_l102c σ x2 x3 (nI i) (nI (rsum (R.take i))) (nI i) = _
      unfold X12_frees_l102c
      rw [if_pos (nI_le (Nat.le_refl _) (by omega))])
  subst h1
  exact e
/-- whether all between are loose -/
theorem xloose {σ : SS} {R : RW} (h : LsIs σ R R.length) (hl : R.length ≤ 24) {i j : Nat} (hij : i + j ≤ R.length) (x3 x5 x6 : Int32) : iter (X12_frees_l172b σ (nI R.length) x3 (nI i) x5 x6 (nI j)) NF (1, nI i) = some (if R.length - j ≤ tied R i then 1 else 0) := by
  obtain ⟨b, w, e, h1⟩ := loopI (f := X12_frees_l172b σ (nI R.length) x3 (nI i) x5 x6 (nI j)) (s := (1, nI i)) (R.length - j - i) (fun k (b : Int32) (_ : Unit) => ((b, nI (i + k)) : Int32 × Int32)) (fun b _ => b) (fun k b _ => b = if k ≤ twl (R.drop i) then 1 else 0) 1 () rfl rfl (by omega) (fun k b w hk hI => by
      subst hI
      obtain ⟨y, hy⟩ : ∃ y, R[i + k]? = some y := ⟨R[i + k], List.getElem?_eq_getElem (by omega)⟩
      have hst := twl_step (A := R.drop i) (k := k) (y := y) (by rw [List.getElem?_drop]; exact hy)
      show ∃ b' w', X12_frees_l172c σ (nI R.length) x3 (nI i) x5 x6 (nI j) (if k ≤ twl (R.drop i) then 1 else 0) (nI (i + k)) = _ ∧ _
      unfold X12_frees_l172c X12_frees_j201 X12_frees_j202
      rw [nI_subN (by omega), if_neg (nI_ge (by omega) (by omega)), v01]
      by_cases q : k ≤ twl (R.drop i)
      · rw [if_pos q, ck37 (by omega), Option.bind_some, (h (i + k) y (by omega) hy).2]
        by_cases z : y.2 = 0
        · rw [if_pos z, if_pos (show nI 1 = 1 from rfl), nI_1, Option.bind_some]
          exact ⟨1, (), rfl, by rw [if_pos (hst.mpr ⟨q, z⟩)]⟩
        · rw [if_neg z, if_neg (by decide), nI_1, Option.bind_some]
          exact ⟨0, (), rfl, by rw [if_neg (fun w => z (hst.mp w).2)]⟩
      · rw [if_neg q, nI_1, Option.bind_some]
        exact ⟨0, (), rfl, by rw [if_neg (fun w => q (hst.mp w).1)]⟩) (fun b w hI => by
      show X12_frees_l172c σ (nI R.length) x3 (nI i) x5 x6 (nI j) b (nI (i + (R.length - j - i))) = _
      unfold X12_frees_l172c
      rw [nI_subN (by omega), if_pos (nI_le (by omega) (by omega))])
  subst h1
  rw [e]
  unfold tied
  by_cases q : R.length - j - i ≤ twl (R.drop i)
  · rw [if_pos q, if_pos (by omega)]
  · rw [if_neg q, if_neg (by omega)]
def bI (a : Nat × Nat × Nat) : Int32 := if a.1 = 1073741824 then -1 else nI a.1
def FXs (σ : SS) (m : Nat) (a : Nat × Nat × Nat) : Prop := a.1 < 1073741824 → σ.1 11 0 26 = nI a.2.1 ∧ σ.1 11 0 27 = nI a.2.2 ∧ σ.1 11 0 28 = nI (if a.2.1 + a.2.2 < m then 1 else 0)
theorem bI_lt {a : Nat × Nat × Nat} (ha : a.1 ≤ 1073741824) {v : Nat} (hv : v < 1073741824) {α : Type} {x y : α} : (if bI a < 0 then x else (if nI v < bI a then x else y)) = if v < a.1 then x else y := by
  unfold bI
  by_cases q : a.1 = 1073741824
  · rw [if_pos q, if_pos (by decide), if_pos (by omega)]
  · rw [if_neg q, if_neg (nI_pos (by omega))]
    by_cases z : v < a.1
    · rw [if_pos z, if_pos (nI_lt z (by omega))]
    · rw [if_neg z, if_neg (nI_nlt (by omega) (by omega))]
theorem xfewJ {σ : SS} {R : RW} (h : LsIs σ R R.length) (hb : RWb R) {i : Nat} (hi : i ≤ R.length) {a : Nat × Nat × Nat} (ha : a.1 ≤ 1073741824) (hF : FXs σ R.length a) : ∃ τ, iter (X12_frees_l133b (nI R.length) (nI i) (nI (rsum (R.take i)))) NF (bI a, 0, 0, σ) = some (bI (fwI R a i), τ) ∧ FXs τ R.length (fwI R a i) ∧ Eqo FX2 σ τ := by
  have hl := hb.1
  have hr1 := rsum_lt hb i
  obtain ⟨b, w, e, h1, -, h3, h4, h5⟩ := loopI (f := X12_frees_l133b (nI R.length) (nI i) (nI (rsum (R.take i)))) (s := (bI a, 0, 0, σ)) (R.length - i + 1) (fun k (b : (Nat × Nat × Nat) × Int32) (w : SS) => ((bI b.1, b.2, nI k, w) : Int32 × Int32 × Int32 × SS)) (fun b w => ((bI b.1, w) : Int32 × SS)) (fun k b w => b.1 = (List.range k).foldl (fwS R i) a ∧ ((k = 0 ∧ b.2 = 0) ∨ b.2 = nI (rsum (R.drop (R.length - (k - 1))))) ∧ b.1.1 ≤ 1073741824 ∧ FXs w R.length b.1 ∧ Eqo FX2 σ w) (a, 0) σ rfl ⟨rfl, .inl ⟨rfl, rfl⟩, ha, hF, Eqo.rf _ _⟩ (by omega) (fun k b w hk hI => by
      obtain ⟨a', x5⟩ := b
      obtain ⟨h1, h2, h3, h4, h5⟩ := hI
      simp only at h1 h2 h3 h4
      have hk2 : k ≤ R.length - i := by omega
      have hls : LsIs w R R.length := h.keep h5 (fun k n j q => by unfold FX2 at q; omega)
      have hr2 := rsum_ld hb (R.length - k)
      have hv := fwV_le hb i k
      have hset : (fwS R i a' k).1 ≤ 1073741824 := by
        unfold fwS
        split
        · show fwV R i k ≤ _
          omega
        · exact h3
      have body : X12_frees_l172 w (nI R.length) (bI a') (nI i) (nI (rsum (R.take i))) (nI (rsum (R.drop (R.length - k)))) (nI k) 1 (nI i) = (if R.length - k ≤ tied R i ∧ fwV R i k < a'.1 then X12_frees_j250 w (nI R.length) (nI i) (nI (rsum (R.take i))) (nI (rsum (R.drop (R.length - k)))) (nI k) (nI (fwV R i k)) else X12_frees_j283 w (nI R.length) (bI a') (nI i) (nI (rsum (R.take i))) (nI (rsum (R.drop (R.length - k)))) (nI k)) := by
        unfold X12_frees_l172
        rw [xloose hls hl (by omega), Option.bind_some]
        unfold X12_frees_j229
        have e8 : (nI (rsum (R.take i)) + nI (rsum (R.drop (R.length - k)))) + (if nI R.length ≤ nI i + nI k then 0 else 2) = nI (fwV R i k) := by
          unfold fwV
          rw [nI_add, nI_add]
          by_cases z : i + k < R.length
          · rw [if_neg (nI_ge (by omega) (by omega)), if_pos z]
            exact nI_add _ _
          · rw [if_pos (nI_le (by omega) (by omega)), if_neg z]
            exact nI_add _ _
        rw [e8, Option.bind_some, v01, bI_lt h3 (by omega)]
        by_cases t1 : R.length - k ≤ tied R i
        · by_cases t2 : fwV R i k < a'.1
          · rw [if_pos t1, if_pos t2, if_pos ⟨t1, t2⟩]
          · rw [if_pos t1, if_neg t2, if_neg (fun z => t2 z.2)]
        · rw [if_neg t1, if_neg (fun z => t1 z.1)]
      show ∃ b' w', X12_frees_l133c w (nI R.length) (nI i) (nI (rsum (R.take i))) (bI a') x5 (nI k) = _ ∧ _
      have head : X12_frees_l133c w (nI R.length) (nI i) (nI (rsum (R.take i))) (bI a') x5 (nI k) = X12_frees_l172 w (nI R.length) (bI a') (nI i) (nI (rsum (R.take i))) (nI (rsum (R.drop (R.length - k)))) (nI k) 1 (nI i) := by
        unfold X12_frees_l133c X12_frees_j162
        rw [nI_subN (by omega), if_neg (nI_nlt (by omega) (by omega))]
        by_cases z : k = 0
        · subst z
          have e5 : x5 + 0 = nI (rsum (R.drop (R.length - 0))) := by
            rw [Nat.sub_zero, List.drop_length]
            rcases h2 with ⟨-, y⟩ | y
            · rw [y]; rfl
            · rw [y, Nat.zero_sub, Nat.sub_zero, List.drop_length]; rfl
          rw [if_pos (show nI 0 = 0 from rfl), e5, Option.bind_some]
        · rcases h2 with ⟨y, -⟩ | y
          · exact absurd y z
          · obtain ⟨u, hu1, hu2⟩ := lastSum (R := R) (k := k - 1) (by omega)
            rw [show R.length - (k - 1) - 1 = R.length - k by omega] at hu1
            rw [show k - 1 + 1 = k by omega] at hu2
            rw [if_neg (nI_ne0 (by omega) (by omega)), nI_subN (by omega), ck36 (by omega), Option.bind_some, (hls _ u (by omega) hu1).1, y, nI_add, ← hu2, Option.bind_some]
      rw [head, body]
      have hlast : nI (rsum (R.drop (R.length - k))) = nI (rsum (R.drop (R.length - (k + 1 - 1)))) := by rw [Nat.add_sub_cancel]
      by_cases t : R.length - k ≤ tied R i ∧ fwV R i k < a'.1
      · rw [if_pos t]
        have hq : fwS R i a' k = (fwV R i k, i, k) := by unfold fwS; rw [if_pos t]
        unfold X12_frees_j250 X12_frees_j280 X12_frees_j283
        rw [Option.bind_some, Option.bind_some, Option.bind_some, nI_1, Option.bind_some]
        have hbi : nI (fwV R i k) = bI (fwV R i k, i, k) := by
          unfold bI
          rw [if_neg (by show ¬ fwV R i k = 1073741824; omega)]
        rw [hbi]
        refine ⟨((fwV R i k, i, k), nI (rsum (R.drop (R.length - k)))), _, rfl, ?_, .inr hlast, by show fwV R i k ≤ _; omega, fun _ => ?_, ?_⟩
        · show (fwV R i k, i, k) = _
          rw [fold_succ, ← h1, hq]
        · rw [wI_ne _ _ (by omega), wI_ne _ _ (by omega), wI_eq, wI_ne _ _ (by omega), wI_eq, wI_eq]
          refine ⟨rfl, rfl, ?_⟩
          rw [nI_add]
          show _ = nI (if i + k < R.length then 1 else 0)
          by_cases z : i + k < R.length
          · rw [if_neg (nI_ge z (by omega)), if_pos z]; rfl
          · rw [if_pos (nI_le (by omega) (by omega)), if_neg z]; rfl
        · have hw : ∀ w j x, 26 ≤ j → j ≤ 28 → Eqo FX2 w (wI w 11 0 j x) := fun w j x q1 q2 => Eqo.wI ⟨rfl, rfl, q1, q2⟩
          exact h5.tr (((hw _ _ _ (by decide) (by decide)).tr (hw _ _ _ (by decide) (by decide))).tr (hw _ _ _ (by decide) (by decide)))
      · rw [if_neg t]
        have hq : fwS R i a' k = a' := by unfold fwS; rw [if_neg t]
        unfold X12_frees_j283
        rw [nI_1, Option.bind_some]
        refine ⟨(a', _), w, rfl, ?_, .inr hlast, h3, h4, h5⟩
        show a' = _
        rw [fold_succ, ← h1, hq]) (fun b w hI => by
      obtain ⟨a', x5⟩ := b
      show X12_frees_l133c w (nI R.length) (nI i) (nI (rsum (R.take i))) (bI a') x5 (nI (R.length - i + 1)) = _
      unfold X12_frees_l133c
      rw [nI_subN (by omega), if_pos (nI_lt (by omega) (by omega))])
  have e1 : b.1 = fwI R a i := h1
  rw [e1] at h4 e
  exact ⟨w, e, h4, h5⟩
theorem xfew {σ : SS} {R : RW} (h : LsIs σ R R.length) (hb : RWb R) : ∃ τ, X12_frees_l90 σ (nI R.length) (-1) 0 = some (nI (few R).1, τ) ∧ FXs τ R.length (few R) ∧ Eqo FX2 σ τ := by
  have hl := hb.1
  obtain ⟨b, w, e, h1, h4, h5⟩ := loopI (f := X12_frees_l90b (nI R.length)) (s := (-1, 0, σ)) (R.length + 1) (fun k (b : Nat × Nat × Nat) (w : SS) => ((bI b, nI k, w) : Int32 × Int32 × SS)) (fun b w => ((bI b, w) : Int32 × SS)) (fun k b w => b = (List.range k).foldl (fwI R) (1073741824, 0, 0) ∧ FXs w R.length b ∧ Eqo FX2 σ w) (1073741824, 0, 0) σ rfl ⟨rfl, fun z => absurd z (Nat.lt_irrefl _), Eqo.rf _ _⟩ (by omega) (fun k a w hk hI => by
      obtain ⟨h1, h4, h5⟩ := hI
      have hk2 : k ≤ R.length := by omega
      have ha' : a.1 ≤ 1073741824 := by rw [h1]; exact (few_k R k (by omega)).1
      have hls : LsIs w R R.length := h.keep h5 (fun k n j q => by unfold FX2 at q; omega)
      obtain ⟨w', e, hF, hE⟩ := xfewJ hls hb hk2 ha' h4
      show ∃ b' w', X12_frees_l90c w (nI R.length) (bI a) (nI k) = _ ∧ _
      unfold X12_frees_l90c X12_frees_l102 X12_frees_l133
      rw [if_neg (nI_nlt hk2 (by omega)), xfrom hls hl hk2, Option.bind_some, e, Option.bind_some, nI_1, Option.bind_some]
      exact ⟨fwI R a k, w', rfl, by rw [fold_succ, ← h1], hF, h5.tr hE⟩) (fun a w hI => by
      show X12_frees_l90c w (nI R.length) (bI a) (nI (R.length + 1)) = _
      unfold X12_frees_l90c
      rw [if_pos (nI_lt (by omega) (by omega))])
  have e1 : b = few R := h1
  subst e1
  refine ⟨w, ?_, h4, h5⟩
  have hlt := (few_lt hb).1
  unfold X12_frees_l90
  rw [e, Option.bind_some]
  unfold bI
  rw [if_neg (by omega)]
section W4
variable {σ : SS} {n nk i c : Nat} {s p o : Int32} {nu : Nat → Nat → Nat} {lo : Nat → Nat} {L : List X3}
theorem xfrees (hs : RXS σ n nk nu lo) (h : RXV σ n i c s p o L) {l : Nat} (hl : l < n) : ∃ τ, X12_frees σ (nI l) = some (nI (few (rowL nu l 0 0 L)).1, τ) ∧ τ.1 11 0 26 = nI (few (rowL nu l 0 0 L)).2.1 ∧ τ.1 11 0 27 = nI (few (rowL nu l 0 0 L)).2.2 ∧ τ.1 11 0 28 = nI (fwP (rowL nu l 0 0 L)) ∧ Eqo FX σ τ := by
  have h8 := hs.n8
  have h24 := h.l24
  have hb := rowL_b hs.wf (l := l) (dn := 0) (k := 0) h.wl
  have hlen := rowL_cnt nu l L
  have hE0 : Eqo FX σ (wI (wI (wI σ 11 0 26 0) 11 0 27 0) 11 0 28 0) := by
    have hw : ∀ w j x, 26 ≤ j → j ≤ 28 → Eqo FX w (wI w 11 0 j x) := fun w j x q1 q2 => Eqo.wI (.inl ⟨rfl, rfl, q1, q2⟩)
    exact ((hw _ _ _ (by decide) (by decide)).tr (hw _ _ _ (by decide) (by decide))).tr (hw _ _ _ (by decide) (by decide))
  unfold X12_frees X12_frees_j0
  rw [xcrossings h8 h (by omega), Option.bind_some, Option.bind_some, Option.bind_some, Option.bind_some]
  by_cases z : cnt L l = 0
  · rw [z, if_pos (show nI 0 = 0 from rfl)]
    rw [z] at hlen
    have hR : rowL nu l 0 0 L = [] := List.eq_nil_of_length_eq_zero hlen
    rw [hR]
    refine ⟨_, rfl, ?_, ?_, ?_, hE0⟩
    · rw [wI_ne _ _ (by omega), wI_ne _ _ (by omega), wI_eq]; rfl
    · rw [wI_ne _ _ (by omega), wI_eq]; rfl
    · rw [wI_eq]; rfl
  · have hcl : cnt L l ≤ L.length := List.countP_le_length
    rw [if_neg (nI_ne0 (by omega) (by omega))]
    generalize wI (wI (wI σ 11 0 26 0) 11 0 27 0) 11 0 28 0 = υ at hE0
    have hsυ : RXS υ n nk nu lo := hs.keep hE0 (fun j q => by unfold FX at q; omega)
    have hυ : RXV υ n i c s p o L := h.keep hE0 (fun j q => by unfold FX at q; omega)
    obtain ⟨b, w, e, h1, h2⟩ := loopI (f := X12_frees_l29b (nI l) (nI (cnt L l))) (s := (0, υ)) (cnt L l) (fun k (_ : Unit) (w : SS) => ((nI k, w) : Int32 × SS)) (fun _ w => w) (fun k _ w => LsIs w (rowL nu l 0 0 L) k ∧ Eqo FX υ w) () υ rfl ⟨fun j y hj => absurd hj (Nat.not_lt_zero _), Eqo.rf _ _⟩ (by omega) (fun k b w hk hI => by
      obtain ⟨g1, g2⟩ := hI
      have hs' : RXS w n nk nu lo := hsυ.keep g2 (fun j q => by unfold FX at q; omega)
      have h' : RXV w n i c s p o L := hυ.keep g2 (fun j q => by unfold FX at q; omega)
      obtain ⟨kk, x, e1, e2, e3, e4⟩ := xalongOf h8 h' (l := l) (by omega) hk
      have hrow := nth_row (nu := nu) L h.st3 k 0 kk x (by rw [Nat.zero_add]; exact e1) e2
      obtain ⟨q1, q2, q3, q4, q5, q6, q7, q8, q9⟩ := h'.x e2
      have hE1 : Eqo FX w (wI w 13 36 k (nI (costC nu l x))) := Eqo.wI (.inr ⟨rfl, .inl rfl⟩)
      have h'1 : RXV (wI w 13 36 k (nI (costC nu l x))) n i c s p o L := h'.keep hE1 (fun j q => by unfold FX at q; omega)
      obtain ⟨kk', x', e1', e2', e3', e4'⟩ := xalongOf h8 h'1 (l := l) (by omega) hk
      have hkk : kk' = kk := by rw [e1] at e1'; exact (Option.some.inj e1').symm
      subst hkk
      show ∃ b' w', X12_frees_l29c w (nI l) (nI (cnt L l)) (nI k) = _ ∧ _
      unfold X12_frees_l29c X12_frees_j78
      rw [if_neg (nI_ge hk (by omega)), e4, Option.bind_some, xcostOf hs' h' e2 e3 hl, Option.bind_some, ck36 (by omega), Option.bind_some, Option.bind_some, e4', Option.bind_some, ckS (by omega), Option.bind_some, ck37 (by omega), Option.bind_some, Option.bind_some, nI_1, Option.bind_some]
      refine ⟨(), _, rfl, fun j y hj hy => ?_, (g2.tr hE1).tr (Eqo.wI (.inr ⟨rfl, .inr rfl⟩))⟩
      have e9 : (wI w 13 36 k (nI (costC nu l x))).1 13 34 (108 + kk') = nI x.2.2 := by
        rw [wI_ne _ _ (by omega)]
        exact q9
      rw [e9]
      have hv0 : (if nI x.2.2 = 0 then (1 : Int32) else 0) = nI (if x.2.2 = 0 then 1 else 0) := by
        by_cases y0 : x.2.2 = 0
        · rw [if_pos (by rw [y0]; rfl), if_pos y0]; rfl
        · rw [if_neg (nI_ne0 (by omega) (by omega)), if_neg y0]; rfl
      rw [hv0]
      by_cases ej : j = k
      · subst ej
        rw [hrow] at hy
        cases hy
        rw [wI_ne _ _ (by omega), wI_eq, wI_eq]
        exact ⟨rfl, rfl⟩
      · rw [wI_ne _ _ (by omega), wI_ne _ _ (by omega), wI_ne _ _ (by omega), wI_ne _ _ (by omega)]
        exact g1 j y (by omega) hy) (fun b w hI => by
      show X12_frees_l29c w (nI l) (nI (cnt L l)) (nI (cnt L l)) = _
      unfold X12_frees_l29c
      rw [if_pos (nI_le (Nat.le_refl _) (by omega))])
    rw [← hlen] at h1
    obtain ⟨τ, e2, hF, hE2⟩ := xfew h1 hb.1
    obtain ⟨f1, f2, f3⟩ := hF (by have := (few_lt hb.1).1; omega)
    refine ⟨τ, ?_, f1, f2, f3, (hE0.tr h2).tr (hE2.mono (fun k n j q => .inl q))⟩
    unfold X12_frees_l29
    rw [e, Option.bind_some, ← hlen, e2]
end W4
