/-! ===== ALONE: the class ===== -/
def alS (nu : Nat → Nat → Nat) (l : Nat) (L : List X3) (a : Nat × Nat × Nat × Nat × Nat) (k : Nat) : Nat × Nat × Nat × Nat × Nat := if sLo k L + (few (rowL nu l 0 k L)).1 < a.1 then (sLo k L + (few (rowL nu l 0 k L)).1, k, (few (rowL nu l 0 k L)).2.1, (few (rowL nu l 0 k L)).2.2, fwP (rowL nu l 0 k L)) else a
def alF (nu : Nat → Nat → Nat) (l : Nat) (L : List X3) : Nat × Nat × Nat × Nat × Nat := (List.range 4).foldl (alS nu l L) (1073741824, 0, 0, 0, 0)
def WayIs (f : Nat → Int32) (a : Nat × Nat × Nat × Nat × Nat) : Prop := f 0 = nI a.2.1 ∧ f 1 = nI a.2.2.1 ∧ f 2 = nI a.2.2.2.1 ∧ f 3 = nI a.2.2.2.2
theorem alF_lt {n nk : Nat} {nu : Nat → Nat → Nat} {lo : Nat → Nat} (hw : wfS n nk nu lo) {l : Nat} {L : List X3} (hL : wfL n L) : (alF nu l L).1 ≤ 1514 ∧ (alF nu l L).2.1 ≤ 3 ∧ (alF nu l L).2.2.1 + (alF nu l L).2.2.2.1 ≤ cnt L l ∧ (alF nu l L).2.2.2.2 ≤ 1 := by
  have hb : ∀ k, k ≤ 3 → sLo k L + (few (rowL nu l 0 k L)).1 ≤ 1514 := fun k hk => by
    have := sLo_le hk hL.1
    have := (few_lt (rowL_b hw (l := l) (dn := 0) (k := k) hL).1).1
    omega
  have hp : ∀ R, fwP R ≤ 1 := fun R => by unfold fwP; split <;> omega
  have hc : ∀ k, (few (rowL nu l 0 k L)).2.1 + (few (rowL nu l 0 k L)).2.2 ≤ cnt L l := fun k => by
    refine Nat.le_trans (few_lt (rowL_b hw (l := l) (dn := 0) (k := k) hL).1).2 ?_
    unfold rowL cnt
    clear hb hp hL
    induction L with
    | nil => exact Nat.le_refl _
    | cons x t ih =>
      rw [List.filterMap_cons, List.countP_cons]
      by_cases q : qO l x = true
      · rw [if_pos q]
        cases rowF nu l 0 k x with
        | none => exact Nat.le_trans ih (Nat.le_succ _)
        | some y => exact Nat.succ_le_succ ih
      · rw [if_neg q]
        have : rowF nu l 0 k x = none := by unfold rowF; rw [if_neg (fun z => q z.1)]
        rw [this]
        exact ih
  have key : ∀ m, m ≤ 4 → (((List.range m).foldl (alS nu l L) (1073741824, 0, 0, 0, 0)).1 ≤ 1514 ∧ ((List.range m).foldl (alS nu l L) (1073741824, 0, 0, 0, 0)).2.1 ≤ 3 ∧ ((List.range m).foldl (alS nu l L) (1073741824, 0, 0, 0, 0)).2.2.1 + ((List.range m).foldl (alS nu l L) (1073741824, 0, 0, 0, 0)).2.2.2.1 ≤ cnt L l ∧ ((List.range m).foldl (alS nu l L) (1073741824, 0, 0, 0, 0)).2.2.2.2 ≤ 1) ∨ m = 0 := by
    intro m
    induction m with
    | zero => intro _; exact .inr rfl
    | succ m ih =>
      intro hm
      left
      rw [fold_succ]
      unfold alS
      have h1 := hb m (by omega)
      split
      · exact ⟨h1, by show m ≤ 3; omega, hc m, hp _⟩
      · rename_i q
        rcases ih (by omega) with z | z
        · exact z
        · subst z
          exact absurd (show sLo 0 L + (few (rowL nu l 0 0 L)).1 < 1073741824 by omega) q
  rcases key 4 (Nat.le_refl _) with z | z
  · exact z
  · cases z
theorem way_put (σ : SS) {k : Nat} (hk : k < 4) (x : Int32) : X4_put σ 23 0 (nI k) x = some (wI σ 13 23 k x) := by
  have := put_ok σ (t := 23) (r := 0) (c := k) x (by decide) (by decide) (by rw [T_22.2.2.2.1]; exact hk)
  rw [Nat.zero_mul, Nat.zero_add] at this
  exact this
theorem way_at (σ : SS) {k : Nat} (hk : k < 4) : X4_at σ 23 0 (nI k) = some (σ.1 13 23 k) := by
  have := at_ok σ (t := 23) (r := 0) (c := k) (by decide) (by decide) (by rw [T_22.2.2.2.1]; exact hk)
  rw [Nat.zero_mul, Nat.zero_add] at this
  exact this
section W2
variable {σ : SS} {d n nk i c : Nat} {s p o : Int32} {nu : Nat → Nat → Nat} {lo : Nat → Nat} {L : List X3}
theorem find_ok (hd : d < 5) (hs : RS σ d n nk nu lo) (h : RV σ d n i c s p o L) {l : Nat} (hl : l < n) : ∃ τ, X7_find σ d (nI l) = some (nI (alF nu l L).1, τ) ∧ Eqo WF σ τ ∧ WayIs (τ.1 13 23) (alF nu l L) := by
  have h24 := h.l24
  have h8 := hs.n8
  obtain ⟨b, w, e, h1, hE, hW⟩ := loopI (f := X7_find_l6b d (nI l)) (s := (1073741824, 0, σ)) 4 (fun k (b : Nat × Nat × Nat × Nat × Nat) (w : SS) => ((nI b.1, nI k, w) : Int32 × Int32 × SS)) (fun b w => ((nI b.1, w) : Int32 × SS)) (fun k b w => b = (List.range k).foldl (alS nu l L) (1073741824, 0, 0, 0, 0) ∧ Eqo WF σ w ∧ (b.1 < 1073741824 → WayIs (w.1 13 23) b)) (1073741824, 0, 0, 0, 0) σ rfl ⟨rfl, Eqo.rf _ _, fun z => absurd z (Nat.lt_irrefl _)⟩ (by decide) (fun k a w hk hI => by
      obtain ⟨h1, hE, hW⟩ := hI
      have hs' : RS w d n nk nu lo := hs.keep hE (fun k m j q => by unfold WF WR at q; omega)
      have h' : RV w d n i c s p o L := h.keep hE (fun k m j q => by unfold WF WR at q; omega)
      obtain ⟨w1, e1, hE1, hR1⟩ := layRow_ok hd hs' h' hl (dn := 0) (m := k) (by decide) (by omega)
      have h'1 : RV w1 d n i c s p o L := h'.keep hE1 (fun k m j q => by unfold WR at q; omega)
      have hb := rowL_b hs.wf (l := l) (dn := 0) (k := k) h.wl
      obtain ⟨w2, e2, g1, g2, hE2, hR2⟩ := fewestSeconds_ok hR1 hb.1 hb.2
      have hfl := few_lt hb.1
      have hlo := sLo_le (k := k) (by omega) h24
      have ha' : a.1 ≤ 1073741824 := by
        rw [h1]
        clear h1 hW
        have : ∀ m, ((List.range m).foldl (alS nu l L) (1073741824, 0, 0, 0, 0)).1 ≤ 1073741824 := fun m => by
          induction m with
          | zero => exact Nat.le_refl _
          | succ m ih =>
            rw [fold_succ]
            unfold alS
            split
            · rename_i q; exact Nat.le_trans (Nat.le_of_lt q) ih
            · exact ih
        exact this k
      have hEw : Eqo WF w w2 := (hE1.mono (fun _ _ _ q => .inl q)).tr (hE2.mono (fun k n j q => by unfold WR2 at q; unfold WF WR; omega))
      have hnext : ∀ q, q = alS nu l L a k → q = (List.range (k + 1)).foldl (alS nu l L) (1073741824, 0, 0, 0, 0) := fun q hq => by rw [fold_succ, ← h1, hq]
      show ∃ b' w', X7_find_l6c w d (nI l) (nI a.1) (nI k) = _ ∧ _
      unfold X7_find_l6c
      rw [if_neg (show ¬ (3 : Int32) < nI k from nI_nlt (a := 3) (by omega) (by decide)), show X7_layRow w d (nI l) 0 (nI k) = some w1 from e1, Option.bind_some, toLoosen_ok hd h'1 (by omega), Option.bind_some, e2, Option.bind_some, nI_add, Option.bind_some]
      unfold X7_find_j110
      by_cases q : sLo k L + (few (rowL nu l 0 k L)).1 < a.1
      · rw [if_neg (nI_ge q (by omega))]
        simp only
        have p0 : ∀ w x, X4_put w 23 0 0 x = some (wI w 13 23 0 x) := fun w x => way_put w (k := 0) (by decide) x
        have p1 : ∀ w x, X4_put w 23 0 1 x = some (wI w 13 23 1 x) := fun w x => way_put w (k := 1) (by decide) x
        have p2 : ∀ w x, X4_put w 23 0 2 x = some (wI w 13 23 2 x) := fun w x => way_put w (k := 2) (by decide) x
        have p3 : ∀ w x, X4_put w 23 0 3 x = some (wI w 13 23 3 x) := fun w x => way_put w (k := 3) (by decide) x
        have hpp : (if nI (rowL nu l 0 k L).length ≤ nI (few (rowL nu l 0 k L)).2.1 + nI (few (rowL nu l 0 k L)).2.2 then (0 : Int32) else 1) = nI (fwP (rowL nu l 0 k L)) := by
          have hl24 := hb.1.1
          unfold fwP
          rw [nI_add]
          by_cases z : (few (rowL nu l 0 k L)).2.1 + (few (rowL nu l 0 k L)).2.2 < (rowL nu l 0 k L).length
          · rw [if_neg (nI_ge z (by omega)), if_pos z]
            rfl
          · rw [if_pos (nI_le (by omega) (by omega)), if_neg z]
            rfl
        unfold X7_find_j107 X7_find_j110
        simp (disch := omega) only [p0, p1, p2, p3, Option.bind_some, wI_ne, g1, g2, hR2.1, hpp, nI_1]
        refine ⟨(sLo k L + (few (rowL nu l 0 k L)).1, k, (few (rowL nu l 0 k L)).2.1, (few (rowL nu l 0 k L)).2.2, fwP (rowL nu l 0 k L)), _, rfl, hnext _ (by unfold alS; rw [if_pos q]), ?_, fun _ => ?_⟩
        · have hw : ∀ w j x, Eqo WF w (wI w 13 23 j x) := fun w j x => Eqo.wI (.inr ⟨rfl, rfl⟩)
          exact (hE.tr hEw).tr ((((hw _ _ _).tr (hw _ _ _)).tr (hw _ _ _)).tr (hw _ _ _))
        · unfold WayIs
          simp (disch := omega) only [wI_ne, wI_eq]
          exact ⟨trivial, trivial, trivial, trivial⟩
      · rw [if_pos (nI_le (by omega) (by omega)), nI_1, Option.bind_some]
        refine ⟨a, w2, rfl, hnext a (by unfold alS; rw [if_neg q]), hE.tr hEw, fun z => ?_⟩
        have := hW z
        unfold WayIs at this ⊢
        have hk23 : ∀ j, w2.1 13 23 j = w.1 13 23 j := fun j => by
          rw [hE2.at1 (by unfold WR2; omega), hE1.at1 (by unfold WR; omega)]
        rw [hk23, hk23, hk23, hk23]
        exact this) (fun a w hI => by
      show X7_find_l6c w d (nI l) (nI a.1) (nI 4) = _
      unfold X7_find_l6c
      rw [if_pos (show (3 : Int32) < nI 4 by decide)])
  have e1 : b = alF nu l L := h1
  subst e1
  refine ⟨w, ?_, hE, hW (by have := (alF_lt hs.wf (l := l) h.wl).1; omega)⟩
  unfold X7_find X7_find_j0 X7_find_l6
  rw [e, Option.bind_some]
end W2
/-! ===== the reference ===== -/
theorem nth_scan2 {l : Nat} (R : Nat → Int32) : ∀ (L : List X3) (b m : Nat), m < cnt L l → scan (fun (a : Nat) k (x : X3) => if qO l x = true then (if a = 0 then Sum.inr (nI k) else Sum.inl (a - 1)) else Sum.inl a) R L m b = nI ((nth l L m b).getD 0) := by
  intro L
  induction L with
  | nil => intro b m h; exact absurd h (Nat.not_lt_zero _)
  | cons x t ih =>
    intro b m h
    unfold cnt at h
    rw [List.countP_cons] at h
    unfold scan nth
    by_cases q : qO l x = true
    · rw [if_pos q] at h
      rw [if_pos q, if_pos q]
      cases m with
      | zero => rfl
      | succ m => exact ih (b + 1) m (by unfold cnt; omega)
    · rw [if_neg q] at h
      rw [if_neg q, if_neg q]
      exact ih (b + 1) m h
/-- the m-th of a lead: what the row has there -/
theorem nth_row {nu : Nat → Nat → Nat} {l : Nat} : ∀ (L : List X3), st3 L → ∀ (m b k : Nat) (x : X3), nth l L m b = some (b + k) → L[k]? = some x → (rowL nu l 0 0 L)[m]? = some (costC nu l x, x.2.2) := by
  intro L
  induction L with
  | nil => intro _ m b k x h; cases h
  | cons y t ih =>
    intro h3 m b k x h1 h2
    have hy := h3 y List.mem_cons_self
    have h3' : st3 t := fun z hz => h3 z (List.mem_cons_of_mem _ hz)
    have ea : ∀ s, aft 0 s = some s := fun s => by
      unfold aft
      split
      · rename_i z; rw [z]
      · rw [if_pos (Nat.zero_le _)]; rfl
    unfold nth at h1
    unfold rowL
    rw [List.filterMap_cons]
    by_cases q : qO l y = true
    · rw [if_pos q] at h1
      have e : rowF nu l 0 0 y = some (costC nu l y, y.2.2) := by
        unfold rowF costC
        rw [if_pos ⟨q, Nat.zero_testBit _⟩, ea]
        rfl
      rw [e]
      cases m with
      | zero =>
        simp only [Option.some.injEq] at h1
        have hk : k = 0 := by omega
        subst hk
        cases h2
        rfl
      | succ m =>
        have hk : ∃ k', k = k' + 1 := by
          cases k with
          | zero =>
            exfalso
            have key : ∀ (L : List X3) (m b c : Nat), nth l L m b = some c → b ≤ c := by
              intro L
              induction L with
              | nil => intro m b c h; cases h
              | cons z u ihu =>
                intro m b c h
                unfold nth at h
                split at h
                · cases m with
                  | zero => simp at h; omega
                  | succ m => have := ihu m (b + 1) c h; omega
                · have := ihu m (b + 1) c h; omega
            have := key t m (b + 1) _ h1
            omega
          | succ k' => exact ⟨k', rfl⟩
        obtain ⟨k', rfl⟩ := hk
        rw [List.getElem?_cons_succ] at h2
        simp only [List.getElem?_cons_succ]
        exact ih h3' m (b + 1) k' x (by rw [show b + 1 + k' = b + (k' + 1) by omega]; exact h1) h2
    · rw [if_neg q] at h1
      have e : rowF nu l 0 0 y = none := by unfold rowF; rw [if_neg (fun z => q z.1)]
      rw [e]
      have hk : ∃ k', k = k' + 1 := by
        cases k with
        | zero =>
          exfalso
          have key : ∀ (L : List X3) (m b c : Nat), nth l L m b = some c → b ≤ c := by
            intro L
            induction L with
            | nil => intro m b c h; cases h
            | cons z u ihu =>
              intro m b c h
              unfold nth at h
              split at h
              · cases m with
                | zero => simp at h; omega
                | succ m => have := ihu m (b + 1) c h; omega
              · have := ihu m (b + 1) c h; omega
          have := key t m (b + 1) _ h1
          omega
        | succ k' => exact ⟨k', rfl⟩
      obtain ⟨k', rfl⟩ := hk
      rw [List.getElem?_cons_succ] at h2
      exact ih h3' m (b + 1) k' x (by rw [show b + 1 + k' = b + (k' + 1) by omega]; exact h1) h2
theorem rowL_cnt (nu : Nat → Nat → Nat) (l : Nat) (L : List X3) : (rowL nu l 0 0 L).length = cnt L l := by
  unfold rowL cnt
  induction L with
  | nil => rfl
  | cons x t ih =>
    rw [List.filterMap_cons, List.countP_cons]
    by_cases q : qO l x = true
    · have e : ∃ y, rowF nu l 0 0 x = some y := by
        unfold rowF
        rw [if_pos ⟨q, Nat.zero_testBit _⟩]
        unfold aft
        split
        · exact ⟨_, rfl⟩
        · rw [if_pos (Nat.zero_le _)]; exact ⟨_, rfl⟩
      obtain ⟨y, e⟩ := e
      rw [e, if_pos q]
      simp only [List.length_cons]
      rw [ih]
    · have e : rowF nu l 0 0 x = none := by unfold rowF; rw [if_neg (fun z => q z.1)]
      rw [e, if_neg q]
      simp only
      rw [ih]
      rfl
section W3
variable {σ : SS} {n nk i c : Nat} {s p o : Int32} {nu : Nat → Nat → Nat} {lo : Nat → Nat} {L : List X3}
theorem RXV.st3 (h : RXV σ n i c s p o L) : st3 L := fun x hx => (h.wl.2 x hx).2.2.2
theorem xalongOf (hn : n ≤ 8) (h : RXV σ n i c s p o L) {l m : Nat} (hl : l < 8) (hm : m < cnt L l) : ∃ k x, nth l L m 0 = some k ∧ L[k]? = some x ∧ qO l x = true ∧ X12_alongOf σ (nI l) (nI m) = some (nI k) := by
  have h24 := h.l24
  have hc24 : cnt L l ≤ L.length := List.countP_le_length
  obtain ⟨k, x, e1, e2, e3⟩ := nth_some L m 0 hm
  rw [Nat.zero_add] at e1
  refine ⟨k, x, e1, e2, e3, ?_⟩
  have hsc := nth_scan2 (l := l) (fun _ => 0) L 0 m hm
  rw [e1] at hsc
  have key : iter (X12_alongOf_l5b σ (nI l)) NF (nI m, 0) = some (nI k) := by
    rw [show nI k = nI ((some k).getD 0) from rfl, ← hsc]
    refine iter_scanI (s := (nI m, 0)) L (fun j a => a < cnt (L.drop j) l) _ _ (fun a k => (nI a, nI k)) m rfl (by rw [List.drop_zero]; exact hm) (by omega) (fun k x acc hk hI => ?_) (fun k x acc a hk hI hg => ?_) (fun acc hI => ?_)
    · have hacc : acc < 25 := by
        have h2 : cnt (L.drop k) l ≤ (L.drop k).length := List.countP_le_length
        rw [List.length_drop] at h2
        omega
      show X12_alongOf_l5c σ (nI l) (nI acc) (nI k) = _
      unfold X12_alongOf_l5c X12_alongOf_j19 X12_alongOf_j35
      rw [xisOf hn h hk hl, Option.bind_some, v01, Option.bind_some, v01]
      by_cases q : qO l x = true
      · rw [if_pos q, if_pos q, if_pos q]
        by_cases z : acc = 0
        · rw [if_pos (by rw [z]; decide), if_pos z]
        · rw [if_neg (nI_nle (Nat.pos_of_ne_zero z) (by omega)), if_neg z, Option.bind_some, Option.bind_some, nI_1]
          show some (Sum.inl (nI acc - 1, nI (k + 1))) = _
          rw [nI_sub1 (Nat.pos_of_ne_zero z)]
      · rw [if_neg q, if_neg q, if_neg q, Option.bind_some, Option.bind_some, nI_1]
        have h0 : nI acc - 0 = nI acc := nI_subN (b := 0) (Nat.zero_le _)
        rw [h0]
    · have hlt := (List.getElem?_eq_some_iff.mp hk).1
      have hd : L.drop k = x :: L.drop (k + 1) := by
        rw [List.drop_eq_getElem_cons hlt, (List.getElem?_eq_some_iff.mp hk).2]
      have hI' : acc < cnt (L.drop k) l := hI
      unfold cnt at hI'
      rw [hd, List.countP_cons] at hI'
      show a < cnt (L.drop (k + 1)) l
      unfold cnt
      by_cases q : qO l x = true
      · rw [if_pos q] at hg hI'
        by_cases z : acc = 0
        · rw [if_pos z] at hg
          cases hg
        · rw [if_neg z] at hg
          injection hg with hg
          omega
      · rw [if_neg q] at hg hI'
        injection hg with hg
        omega
    · have hI' : acc < cnt (L.drop L.length) l := hI
      rw [List.drop_length] at hI'
      exact absurd hI' (Nat.not_lt_zero _)
  unfold X12_alongOf X12_alongOf_j0 X12_alongOf_l5
  rw [key, Option.bind_some]
end W3
