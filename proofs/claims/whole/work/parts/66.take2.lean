/-! ===== taking a lead: what is undone, what is left ===== -/
theorem few_in {R : RW} (h : RWb R) : R.length - (few R).2.2 ≤ tied R (few R).2.1 ∧ (few R).2.1 ≤ R.length := by
  have hI : ∀ i (a : Nat × Nat × Nat), i ≤ R.length → (a.1 < 1073741824 → R.length - a.2.2 ≤ tied R a.2.1 ∧ a.2.1 ≤ R.length) → ∀ k, ((List.range k).foldl (fwS R i) a).1 < 1073741824 → R.length - ((List.range k).foldl (fwS R i) a).2.2 ≤ tied R ((List.range k).foldl (fwS R i) a).2.1 ∧ ((List.range k).foldl (fwS R i) a).2.1 ≤ R.length := fun i a hi ha k => by
    induction k with
    | zero => exact ha
    | succ k ih =>
      rw [fold_succ]
      generalize (List.range k).foldl (fwS R i) a = b at *
      unfold fwS
      split
      · rename_i q
        exact fun _ => ⟨q.1, hi⟩
      · exact ih
  have key : ∀ k, k ≤ R.length + 1 → ((List.range k).foldl (fwI R) (1073741824, 0, 0)).1 < 1073741824 → R.length - ((List.range k).foldl (fwI R) (1073741824, 0, 0)).2.2 ≤ tied R ((List.range k).foldl (fwI R) (1073741824, 0, 0)).2.1 ∧ ((List.range k).foldl (fwI R) (1073741824, 0, 0)).2.1 ≤ R.length := fun k => by
    induction k with
    | zero => exact fun _ h => absurd h (Nat.lt_irrefl _)
    | succ k ih =>
      intro hk
      rw [fold_succ]
      exact hI k _ (by omega) (ih (by omega)) _
  exact key (R.length + 1) (Nat.le_refl _) (by have := (few_lt h).1; unfold few at this; omega)
theorem alF_spec {n nk : Nat} {nu : Nat → Nat → Nat} {lo : Nat → Nat} (hw : wfS n nk nu lo) {l : Nat} {L : List X3} (hL : wfL n L) : ∃ k, k ≤ 3 ∧ (alF nu l L).2 = (k, (few (rowL nu l 0 k L)).2.1, (few (rowL nu l 0 k L)).2.2, fwP (rowL nu l 0 k L)) := by
  have hb : ∀ k, k ≤ 3 → sLo k L + (few (rowL nu l 0 k L)).1 ≤ 1514 := fun k hk => by
    have := sLo_le hk hL.1
    have := (few_lt (rowL_b hw (l := l) (dn := 0) (k := k) hL).1).1
    omega
  have key : ∀ m, m ≤ 4 → m = 0 ∨ ∃ k, k ≤ 3 ∧ ((List.range m).foldl (alS nu l L) (1073741824, 0, 0, 0, 0)).2 = (k, (few (rowL nu l 0 k L)).2.1, (few (rowL nu l 0 k L)).2.2, fwP (rowL nu l 0 k L)) := by
    intro m
    induction m with
    | zero => intro _; exact .inl rfl
    | succ m ih =>
      intro hm
      right
      rw [fold_succ]
      have h1 := hb m (by omega)
      rcases ih (by omega) with z | ⟨k, hk, e⟩
      · subst z
        have e : alS nu l L ((List.range 0).foldl (alS nu l L) (1073741824, 0, 0, 0, 0)) 0 = (sLo 0 L + (few (rowL nu l 0 0 L)).1, 0, (few (rowL nu l 0 0 L)).2.1, (few (rowL nu l 0 0 L)).2.2, fwP (rowL nu l 0 0 L)) := by
          unfold alS
          rw [if_pos (by show sLo 0 L + (few (rowL nu l 0 0 L)).1 < 1073741824; omega)]
        rw [e]
        exact ⟨0, by decide, rfl⟩
      · generalize (List.range m).foldl (alS nu l L) (1073741824, 0, 0, 0, 0) = a at *
        unfold alS
        split
        · exact ⟨m, by omega, rfl⟩
        · exact ⟨k, hk, e⟩
  rcases key 4 (Nat.le_refl _) with z | z
  · cases z
  · exact z
/-- without the m-th of a lead -/
theorem row_erase {nu : Nat → Nat → Nat} {l : Nat} : ∀ (L : List X3), st3 L → ∀ (m b k : Nat), nth l L m b = some (b + k) → rowL nu l 0 0 (L.eraseIdx k) = (rowL nu l 0 0 L).eraseIdx m := by
  have ea : ∀ s, aft 0 s = some s := fun s => by
    unfold aft
    split
    · rename_i z; rw [z]
    · rw [if_pos (Nat.zero_le _)]; rfl
  have lbd : ∀ (L : List X3) (m b c : Nat), nth l L m b = some c → b ≤ c := by
    intro L
    induction L with
    | nil => intro m b c h; cases h
    | cons z u ihu =>
      intro m b c h
      unfold nth at h
      split at h
      · cases m with
        | zero => simp at h; omega
        | succ m => have := ihu m (b + 1) c h; omega
      · have := ihu m (b + 1) c h; omega
  intro L
  induction L with
  | nil => intro _ m b k h; cases h
  | cons y t ih =>
    intro h3 m b k h1
    have h3' : st3 t := fun z hz => h3 z (List.mem_cons_of_mem _ hz)
    unfold nth at h1
    by_cases q : qO l y = true
    · rw [if_pos q] at h1
      have e : rowF nu l 0 0 y = some (sUndo y.2.2 + nu 1 (oth l y), y.2.2) := by
        unfold rowF
        rw [if_pos ⟨q, Nat.zero_testBit _⟩, ea]
        rfl
      have er : rowL nu l 0 0 (y :: t) = (sUndo y.2.2 + nu 1 (oth l y), y.2.2) :: rowL nu l 0 0 t := by
        unfold rowL
        rw [List.filterMap_cons, e]
      rw [er]
      cases m with
      | zero =>
        simp only [Option.some.injEq] at h1
        have hk : k = 0 := by omega
        subst hk
        rfl
      | succ m =>
        have hb := lbd t m (b + 1) _ h1
        obtain ⟨k', rfl⟩ : ∃ k', k = k' + 1 := ⟨k - 1, by omega⟩
        rw [List.eraseIdx_cons_succ, List.eraseIdx_cons_succ]
        have er2 : rowL nu l 0 0 (y :: t.eraseIdx k') = (sUndo y.2.2 + nu 1 (oth l y), y.2.2) :: rowL nu l 0 0 (t.eraseIdx k') := by
          unfold rowL
          rw [List.filterMap_cons, e]
        rw [er2, ih h3' m (b + 1) k' (by rw [show b + 1 + k' = b + (k' + 1) by omega]; exact h1)]
    · rw [if_neg q] at h1
      have e : rowF nu l 0 0 y = none := by unfold rowF; rw [if_neg (fun z => q z.1)]
      have hb := lbd t m (b + 1) _ h1
      obtain ⟨k', rfl⟩ : ∃ k', k = k' + 1 := ⟨k - 1, by omega⟩
      have er : ∀ u, rowL nu l 0 0 (y :: u) = rowL nu l 0 0 u := fun u => by
        unfold rowL
        rw [List.filterMap_cons, e]
      rw [List.eraseIdx_cons_succ, er, er]
      exact ih h3' m (b + 1) k' (by rw [show b + 1 + k' = b + (k' + 1) by omega]; exact h1)
/-- a lead all of whose crossings are loose is alone -/
theorem lump_lone {i l : Nat} {L : List X3} (hl : l < 8) (hil : i.testBit l = true) (h : ∀ x ∈ L, qO l x = true → x.2.2 = 0) : popc (lumpF i L l) = 1 := by
  have h2 : ∀ k, ((2 : Nat) ^ l).testBit k = true ↔ k = l := fun k => by
    rw [Nat.testBit_two_pow, decide_eq_true_eq]
    omega
  have hs : IsLump i L l (2 ^ l) := by
    refine ⟨pow_lt8 hl, fun _ => (h2 l).mpr rfl, fun x hx ht hor => ?_, fun T hT _ k hk => ?_⟩
    · exfalso
      apply ht.1
      apply h x hx
      unfold qO
      rcases hor with z | z
      · have := (h2 _).mp z
        simp [this]
      · have := (h2 _).mp z
        simp [this]
    · rw [(h2 k).mp hk]
      exact hT hil
  have e := lumpF_is hs
  rw [← e]
  have key : ∀ l, l < 8 → popc (2 ^ l) = 1 := by decide +kernel
  exact key l hl
theorem rowL_mem {nu : Nat → Nat → Nat} {l : Nat} {L : List X3} {x : X3} (hx : x ∈ L) (hq : qO l x = true) : (sUndo x.2.2 + nu 1 (oth l x), x.2.2) ∈ rowL nu l 0 0 L := by
  refine List.mem_filterMap.mpr ⟨x, hx, ?_⟩
  unfold rowF
  rw [if_pos ⟨hq, Nat.zero_testBit _⟩]
  unfold aft
  split
  · rename_i z
    rw [z]
    rfl
  · rw [if_pos (Nat.zero_le _)]
    rfl
section TK
variable {σ υ : SS} {d n nk i c : Nat} {s p o : Int32} {nu : Nat → Nat → Nat} {lo : Nat → Nat} {L : List X3}
/-- the end's place: the first, or the last -/
def eix (e : Bool) (m : Nat) : Nat := if e = true then m - 1 else 0
theorem undo_n (hd : d < 5) (e : Bool) {l : Nat} (hl : l < n) (f : Int32 × SS → Option ((Int32 × SS) ⊕ SS)) (g : Int32 × SS → Option ((Int32 × SS) ⊕ SS)) (P Q : Nat → Nat → Nat → Prop) (m : Nat)
    (hP : ∀ k n j, VC d k n j → P k n j) (hQ : ∀ k n j, XC k n j → Q k n j)
    (hf : ∀ x (w : SS), Eqo P σ w → f (x, w) = if nI m ≤ x then some (Sum.inr w) else ((X0_undoNearest w d (nI l) (if e = true then 1 else 0)).bind fun p => (some (x + 1)).bind fun x' => some (Sum.inl (x', p.2))))
    (hg : ∀ x (w : SS), Eqo Q υ w → g (x, w) = if nI m ≤ x then some (Sum.inr w) else ((X12_followsOne w (nI l) (if e = true then 1 else 0)).bind fun p => (some (x + 1)).bind fun x' => some (Sum.inl (x', p.2))))
    (hs : RS σ d n nk nu lo) (h : RV σ d n i c s p o L) (hxs : RXS υ n nk nu lo) (hx : RXV υ n i c s p o L) (hm : m ≤ cnt L l) (hm1 : m < 1000) :
    ∃ σ' υ' s' L', iter f NF (0, σ) = some σ' ∧ iter g NF (0, υ) = some υ' ∧ Eqo (VC d) σ σ' ∧ Eqo XC υ υ' ∧ RV σ' d n i c s' p o L' ∧ RXV υ' n i c s' p o L' ∧ rowL nu l 0 0 L' = (if e = true then (rowL nu l 0 0 L).take (cnt L l - m) else (rowL nu l 0 0 L).drop m) := by
  have h8 := hs.n8
  have main : ∀ r k (w v : SS) s' L', r + k = m → Eqo (VC d) σ w → Eqo XC υ v → RV w d n i c s' p o L' → RXV v n i c s' p o L' → cnt L' l = cnt L l - k → rowL nu l 0 0 L' = (if e = true then (rowL nu l 0 0 L).take (cnt L l - k) else (rowL nu l 0 0 L).drop k) → ∃ σ' υ' s' L', (∀ F, r < F → iter f F (nI k, w) = some σ') ∧ (∀ F, r < F → iter g F (nI k, v) = some υ') ∧ Eqo (VC d) σ σ' ∧ Eqo XC υ υ' ∧ RV σ' d n i c s' p o L' ∧ RXV υ' n i c s' p o L' ∧ rowL nu l 0 0 L' = (if e = true then (rowL nu l 0 0 L).take (cnt L l - m) else (rowL nu l 0 0 L).drop m) := by
    intro r
    induction r with
    | zero =>
      intro k w v s' L' hrk hE1 hE2 hR hX hc hrow
      have hk : k = m := by omega
      subst hk
      refine ⟨w, v, s', L', fun F hF => ?_, fun F hF => ?_, hE1, hE2, hR, hX, hrow⟩
      · obtain ⟨F, rfl⟩ := Nat.exists_eq_succ_of_ne_zero (by omega : F ≠ 0)
        simp only [iter]
        rw [hf _ _ (hE1.mono hP), if_pos (nI_le (Nat.le_refl _) (by omega))]
        rfl
      · obtain ⟨F, rfl⟩ := Nat.exists_eq_succ_of_ne_zero (by omega : F ≠ 0)
        simp only [iter]
        rw [hg _ _ (hE2.mono hQ), if_pos (nI_le (Nat.le_refl _) (by omega))]
        rfl
    | succ r ih =>
      intro k w v s' L' hrk hE1 hE2 hR hX hc hrow
      have hs' : RS w d n nk nu lo := hs.keepV hE1
      have hxs' : RXS v n nk nu lo := hxs.keepV hE2
      obtain ⟨k1, x1, w', a1, a2, a3, a4, a5, a6⟩ := undoNearest_ok (m := eix e (cnt L' l)) hd hs' hR hl e (by unfold eix; rfl) (by omega)
      obtain ⟨k2, x2, v', b1, b2, b3, b4, b5, b6⟩ := xfollowsOne (m := eix e (cnt L' l)) hxs' hX hl e (by unfold eix; rfl) (by omega)
      rw [a1] at b1
      cases b1
      rw [a2] at b2
      cases b2
      have hst : st3 L' := hX.st3
      have hre := row_erase (nu := nu) L' hst (eix e (cnt L' l)) 0 k1 (by rw [Nat.zero_add]; exact a1)
      have hlen' := rowL_cnt nu l L'
      have hlen := rowL_cnt nu l L
      have hrow2 : rowL nu l 0 0 (L'.eraseIdx k1) = (if e = true then (rowL nu l 0 0 L).take (cnt L l - (k + 1)) else (rowL nu l 0 0 L).drop (k + 1)) := by
        rw [hre, hrow]
        cases e with
        | true =>
          rw [if_pos rfl, if_pos rfl]
          unfold eix
          rw [if_pos rfl, hc]
          have : ∀ (A : RW) (q : Nat), q < A.length → (A.take (q + 1)).eraseIdx q = A.take q := fun A q hq => by
            have h1 : (A.take (q + 1)).length = q + 1 := by rw [List.length_take]; omega
            have h2 := List.eraseIdx_length_sub_one (l := A.take (q + 1))
            rw [h1, Nat.add_sub_cancel] at h2
            rw [h2, List.dropLast_eq_take, h1, Nat.add_sub_cancel, List.take_take, Nat.min_eq_left (by omega)]
          have hq := this (rowL nu l 0 0 L) (cnt L l - k - 1) (by omega)
          rw [show cnt L l - k - 1 + 1 = cnt L l - k by omega] at hq
          rw [hq, show cnt L l - (k + 1) = cnt L l - k - 1 by omega]
        | false =>
          rw [if_neg (by decide), if_neg (by decide)]
          unfold eix
          rw [if_neg (by decide), List.eraseIdx_zero, List.tail_drop]
      have hc2 : cnt (L'.eraseIdx k1) l = cnt L l - (k + 1) := by
        have h1 := rowL_cnt nu l (L'.eraseIdx k1)
        rw [hre, List.length_eraseIdx] at h1
        rw [← h1, if_pos (by rw [hlen']; unfold eix; split <;> omega), hlen', hc]
        omega
      obtain ⟨σ', υ', s2, L2, c1, c2, c3, c4, c5, c6, c7⟩ := ih (k + 1) w' v' _ _ (by omega) (hE1.tr a5) (hE2.tr b5) a6 b6 hc2 hrow2
      refine ⟨σ', υ', s2, L2, fun F hF => ?_, fun F hF => ?_, c3, c4, c5, c6, c7⟩
      · obtain ⟨F, rfl⟩ := Nat.exists_eq_succ_of_ne_zero (by omega : F ≠ 0)
        simp only [iter]
        rw [hf _ _ (hE1.mono hP), if_neg (nI_ge (by omega) (by omega)), a4, Option.bind_some, nI_1, Option.bind_some, Option.bind_some]
        exact c1 F (by omega)
      · obtain ⟨F, rfl⟩ := Nat.exists_eq_succ_of_ne_zero (by omega : F ≠ 0)
        simp only [iter]
        rw [hg _ _ (hE2.mono hQ), if_neg (nI_ge (by omega) (by omega)), b4, Option.bind_some, nI_1, Option.bind_some, Option.bind_some]
        exact c2 F (by omega)
  obtain ⟨σ', υ', s', L', c1, c2, c3, c4, c5, c6, c7⟩ := main m 0 σ υ s L (by omega) (Eqo.rf _ _) (Eqo.rf _ _) h hx rfl (by
    cases e
    · rw [if_neg (by decide), List.drop_zero]
    · rw [if_pos rfl, Nat.sub_zero, ← rowL_cnt nu l L, List.take_length])
  exact ⟨σ', υ', s', L', c1 NF (by unfold NF; omega), c2 NF (by unfold NF; omega), c3, c4, c5, c6, c7⟩
end TK
