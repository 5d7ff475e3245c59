/-! ===== WAYS of the class ===== -/
def RowIs (σ : SS) (R : RW) : Prop := σ.1 6 0 1 = nI R.length ∧ ∀ j y, R[j]? = some y → σ.1 13 22 j = nI y.1 ∧ σ.1 13 22 (24 + j) = nI y.2
def WR : Nat → Nat → Nat → Prop := fun k n j => (k = 6 ∧ n = 0 ∧ 1 ≤ j ∧ j ≤ 3) ∨ (k = 13 ∧ n = 22)
def WR2 : Nat → Nat → Nat → Prop := fun k n j => k = 6 ∧ n = 0 ∧ 2 ≤ j ∧ j ≤ 3
def WF : Nat → Nat → Nat → Prop := fun k n j => WR k n j ∨ (k = 13 ∧ n = 23)
theorem T_22 : TR 22 = 2 ∧ TW 22 = 24 ∧ TR 23 = 1 ∧ TW 23 = 4 ∧ TR 24 = 1 ∧ TW 24 = 4 ∧ TR 25 = 1 ∧ TW 25 = 256 ∧ TR 26 = 1 ∧ TW 26 = 8 := by decide
theorem row_at (σ : SS) (r : Nat) (hr : r < 2) {k : Nat} (hk : k < 24) : X4_at σ 22 (nI r) (nI k) = some (σ.1 13 22 (24 * r + k)) := by
  rw [at_ok σ (by decide) (by rw [T_22.1]; exact hr) (by rw [T_22.2.1]; exact hk), T_22.2.1, Nat.mul_comm]
theorem row_put (σ : SS) (r : Nat) (hr : r < 2) {k : Nat} (hk : k < 24) (x : Int32) : X4_put σ 22 (nI r) (nI k) x = some (wI σ 13 22 (24 * r + k) x) := by
  rw [put_ok σ x (by decide) (by rw [T_22.1]; exact hr) (by rw [T_22.2.1]; exact hk), T_22.2.1, Nat.mul_comm]
theorem row_at0 (σ : SS) {k : Nat} (hk : k < 24) : X4_at σ 22 0 (nI k) = some (σ.1 13 22 k) := by
  have := row_at σ 0 (by decide) hk
  rwa [Nat.mul_zero, Nat.zero_add] at this
theorem row_at1 (σ : SS) {k : Nat} (hk : k < 24) : X4_at σ 22 1 (nI k) = some (σ.1 13 22 (24 + k)) := row_at σ 1 (by decide) hk
theorem at_some (σ : SS) (t : Nat) (a b : Int32) : ∃ v, X4_at σ t a b = some v := by
  unfold X4_at X4_at_j0
  split
  · exact ⟨_, rfl⟩
  · split
    · exact ⟨_, rfl⟩
    · split
      · exact ⟨_, rfl⟩
      · split
        · rw [Option.bind_some]
          split
          · exact ⟨_, rfl⟩
          · rename_i h1
            split
            · exact ⟨_, rfl⟩
            · rename_i h2
              obtain ⟨j, hj, e⟩ := nI_of h1
              rw [e] at h2 ⊢
              have hlt : j < LN 13 t := by
                rcases Nat.lt_or_ge j (LN 13 t) with z | z
                · exact z
                · exact absurd (nI_le z hj) h2
              unfold ck
              rw [nI_clamp hj, if_neg (by
                rintro (z | z)
                · exact nI_pos hj z
                · omega)]
              exact ⟨_, rfl⟩
        · exact ⟨_, rfl⟩
theorem RowIs.keep {σ τ : SS} {R : RW} {P : Nat → Nat → Nat → Prop} (h : RowIs σ R) (hE : Eqo P σ τ) (hP : ∀ k n j, P k n j → ¬ ((k = 6 ∧ n = 0 ∧ j = 1) ∨ (k = 13 ∧ n = 22))) : RowIs τ R := by
  have e : ∀ k m j, ((k = 6 ∧ m = 0 ∧ j = 1) ∨ (k = 13 ∧ m = 22)) → τ.1 k m j = σ.1 k m j := fun k m j q => hE.1 k m j (fun z => hP k m j z q)
  refine ⟨by rw [e _ _ _ (by omega)]; exact h.1, fun j y hy => ?_⟩
  rw [e _ _ _ (by omega), e _ _ _ (by omega)]
  exact h.2 j y hy
theorem RowIs.at {σ : SS} {R : RW} (h : RowIs σ R) (hl : R.length ≤ 24) {j : Nat} {y : Nat × Nat} (hy : R[j]? = some y) : X4_at σ 22 0 (nI j) = some (nI y.1) ∧ X4_at σ 22 1 (nI j) = some (nI y.2) := by
  have hj := (List.getElem?_eq_some_iff.mp hy).1
  rw [row_at0 σ (by omega), row_at1 σ (by omega), (h.2 j y hy).1, (h.2 j y hy).2]
  exact ⟨rfl, rfl⟩
theorem firstTied_ok {σ : SS} {R : RW} (h : RowIs σ R) (hl : R.length ≤ 24) (h3 : ∀ y ∈ R, y.2 ≤ 3) {i : Nat} (hi : i ≤ R.length) : X7_firstTied σ (nI i) = some (nI (tied R i)) := by
  have hle := twl_le (R.drop i)
  rw [List.length_drop] at hle
  have hgo : ∀ k, k < twl (R.drop i) → X7_firstTied_l2b σ (nI (i + k)) = some (Sum.inl (nI (i + (k + 1)))) := fun k hk => by
    obtain ⟨y, h1, h2⟩ := twl_lt _ k hk
    rw [List.getElem?_drop] at h1
    have hy := (h.at hl h1).2
    show X7_firstTied_l2c σ (nI (i + k)) = _
    unfold X7_firstTied_l2c
    rw [h.1, if_neg (nI_ge (by omega) (by omega)), hy, Option.bind_some, h2, if_pos (show nI 0 = 0 from rfl), nI_1, Option.bind_some]
    rfl
  unfold X7_firstTied X7_firstTied_j0 X7_firstTied_l2 tied
  rcases Nat.lt_or_ge (i + twl (R.drop i)) R.length with q | q
  · obtain ⟨y, h1, h2⟩ := twl_end (R.drop i) (by rw [List.length_drop]; omega)
    rw [List.getElem?_drop] at h1
    have hy := (h.at hl h1).2
    have hy3 := h3 y (List.mem_of_getElem? h1)
    rw [iter_for (s := nI i) (fun k => nI (i + k)) (twl (R.drop i)) (t := Sum.inl (nI (i + twl (R.drop i)))) rfl (by omega) hgo (by
      show X7_firstTied_l2c σ (nI (i + twl (R.drop i))) = _
      unfold X7_firstTied_l2c
      rw [h.1, if_neg (nI_ge (by omega) (by omega)), hy, Option.bind_some, if_neg (nI_ne0 (by omega) (by omega))])]
    rfl
  · have e : i + twl (R.drop i) = R.length := by omega
    rw [iter_for (s := nI i) (fun k => nI (i + k)) (twl (R.drop i)) (t := Sum.inr ()) rfl (by omega) hgo (by
      show X7_firstTied_l2c σ (nI (i + twl (R.drop i))) = _
      unfold X7_firstTied_l2c
      rw [h.1, e, if_pos (nI_le (Nat.le_refl _) (by omega))])]
    show some (σ.1 6 0 1) = _
    rw [h.1, e]
def FFs (σ : SS) (a : Nat × Nat × Nat) : Prop := a.1 < 1073741824 → σ.1 6 0 2 = nI a.2.1 ∧ σ.1 6 0 3 = nI a.2.2
theorem lastSum {R : RW} {k : Nat} (hk : k < R.length) : ∃ y, R[R.length - k - 1]? = some y ∧ rsum (R.drop (R.length - (k + 1))) = rsum (R.drop (R.length - k)) + y.1 := by
  have h1 : R.length - k - 1 < R.length := by omega
  refine ⟨R[R.length - k - 1], List.getElem?_eq_getElem h1, ?_⟩
  have h2 := rsum_drop (List.getElem?_eq_getElem h1)
  rw [show R.length - k - 1 + 1 = R.length - k by omega] at h2
  rw [show R.length - (k + 1) = R.length - k - 1 by omega]
  exact h2
theorem fewJ_ok {σ : SS} {R : RW} (h : RowIs σ R) (hb : RWb R) {i : Nat} (hi : i ≤ R.length) {a : Nat × Nat × Nat} (ha : a.1 ≤ 1073741824) (hF : FFs σ a) : ∃ v τ, iter (X7_fewestSeconds_l28b (nI (rsum (R.take i))) (nI i) (nI (tied R i))) NF (nI a.1, nI (rsum (R.take i)), 0, σ) = some (nI v, τ) ∧ v = (fwI R a i).1 ∧ FFs τ (fwI R a i) ∧ Eqo WR2 σ τ ∧ RowIs τ R := by
  have hl := hb.1
  have hti := tied_le R hi
  have hr1 := rsum_lt hb i
  obtain ⟨b, w, e, h1, -, h3, h4, h5, h6⟩ := loopI (f := X7_fewestSeconds_l28b (nI (rsum (R.take i))) (nI i) (nI (tied R i))) (s := (nI a.1, nI (rsum (R.take i)), 0, σ)) (R.length - i + 1) (fun k (b : (Nat × Nat × Nat) × Int32) (w : SS) => ((nI b.1.1, b.2, nI k, w) : Int32 × Int32 × Int32 × SS)) (fun b w => ((nI b.1.1, w) : Int32 × SS)) (fun k b w => b.1 = (List.range k).foldl (fwS R i) a ∧ (k ≤ R.length - i → b.2 = nI (rsum (R.take i) + rsum (R.drop (R.length - k)))) ∧ b.1.1 ≤ 1073741824 ∧ FFs w b.1 ∧ Eqo WR2 σ w ∧ RowIs w R) (a, nI (rsum (R.take i))) σ rfl ⟨rfl, fun _ => by
      rw [Nat.sub_zero, List.drop_length]
      rfl, ha, hF, Eqo.rf _ _, h⟩ (by omega) (fun k b w hk hI => by
      obtain ⟨a', x5⟩ := b
      obtain ⟨h1, h2, h3, h4, h5, h6⟩ := hI
      simp only at h1 h2 h3 h4
      have hk2 : k ≤ R.length - i := by omega
      have e2 := h2 hk2
      subst e2
      have hr2 := rsum_ld hb (R.length - k)
      have hv := fwV_le hb i k
      show ∃ b' w', X7_fewestSeconds_l28c w (nI (rsum (R.take i))) (nI i) (nI (tied R i)) (nI a'.1) (nI (rsum (R.take i) + rsum (R.drop (R.length - k)))) (nI k) = _ ∧ _
      unfold X7_fewestSeconds_l28c
      rw [h6.1, nI_add, if_neg (nI_nlt (by omega) (by omega)), nI_subN (by omega), Option.bind_some]
      have e8 : nI (rsum (R.take i) + rsum (R.drop (R.length - k))) + (if nI (R.length - k) ≤ nI i then 0 else 2) = nI (fwV R i k) := by
        unfold fwV
        by_cases z : i + k < R.length
        · rw [if_neg (nI_ge (by omega) (by omega)), if_pos z]
          exact nI_add _ _
        · rw [if_pos (nI_le (by omega) (by omega)), if_neg z]
          exact nI_add _ _
      have tail : ∀ (w' : SS) (q : Nat × Nat × Nat), RowIs w' R → q = fwS R i a' k → q.1 ≤ 1073741824 → FFs w' q → Eqo WR2 σ w' → ∃ (b' : (Nat × Nat × Nat) × Int32) (w'' : SS), X7_fewestSeconds_j91 w' (nI q.1) (nI (rsum (R.take i))) (nI i) (nI (tied R i)) (nI (rsum (R.take i) + rsum (R.drop (R.length - k)))) (nI k) (nI (R.length - k)) = some (Sum.inl ((nI b'.1.1, b'.2, nI (k + 1), w'') : Int32 × Int32 × Int32 × SS)) ∧ b'.1 = (List.range (k + 1)).foldl (fwS R i) a ∧ (k + 1 ≤ R.length - i → b'.2 = nI (rsum (R.take i) + rsum (R.drop (R.length - (k + 1))))) ∧ b'.1.1 ≤ 1073741824 ∧ FFs w'' b'.1 ∧ Eqo WR2 σ w'' ∧ RowIs w'' R := fun w' q hw' hq hq1 hq2 hq3 => by
        unfold X7_fewestSeconds_j91
        obtain ⟨v, hv⟩ := at_some w' 22 0 (nI (R.length - k) - 1)
        rw [hv, Option.bind_some, Option.bind_some, nI_1, Option.bind_some]
        refine ⟨(q, _), w', rfl, ?_, fun hk3 => ?_, hq1, hq2, hq3, hw'⟩
        · show q = _
          rw [fold_succ, ← h1, hq]
        · obtain ⟨y, hy1, hy2⟩ := lastSum (R := R) (k := k) (by omega)
          rw [nI_sub1 (by omega), (hw'.at hl hy1).1] at hv
          cases hv
          show nI _ + nI _ = _
          rw [nI_add, hy2, Nat.add_assoc]
      unfold X7_fewestSeconds_j61
      rw [e8, Option.bind_some]
      by_cases t1 : R.length - k ≤ tied R i
      · rw [if_neg (nI_nlt t1 (by omega))]
        by_cases t2 : fwV R i k < a'.1
        · rw [if_neg (nI_ge t2 (by omega)), Option.bind_some, Option.bind_some]
          have hq : (fwV R i k, i, k) = fwS R i a' k := by unfold fwS; rw [if_pos ⟨t1, t2⟩]
          have hE1 : Eqo WR2 w (wI (wI w 6 0 2 (nI i)) 6 0 3 (nI k)) := Eqo.tr (Eqo.wI ⟨rfl, rfl, by decide, by decide⟩) (Eqo.wI ⟨rfl, rfl, by decide, by decide⟩)
          exact tail _ (fwV R i k, i, k) (h6.keep hE1 (fun k n j q => by unfold WR2 at q; omega)) hq (by show fwV R i k ≤ _; omega) (fun _ => by
            rw [wI_ne _ _ (by omega), wI_eq, wI_eq]
            exact ⟨rfl, rfl⟩) (h5.tr hE1)
        · rw [if_pos (nI_le (by omega) (by omega))]
          exact tail w a' h6 (by unfold fwS; rw [if_neg (fun z => t2 z.2)]) h3 h4 h5
      · rw [if_pos (nI_lt (by omega) (by omega))]
        exact tail w a' h6 (by unfold fwS; rw [if_neg (fun z => t1 z.1)]) h3 h4 h5) (fun b w hI => by
      obtain ⟨a', x5⟩ := b
      obtain ⟨h1, h2, h3, h4, h5, h6⟩ := hI
      show X7_fewestSeconds_l28c w (nI (rsum (R.take i))) (nI i) (nI (tied R i)) (nI a'.1) x5 (nI (R.length - i + 1)) = _
      unfold X7_fewestSeconds_l28c
      rw [h6.1, nI_add, if_pos (nI_lt (by omega) (by omega))])
  have e1 : b.1 = fwI R a i := h1
  rw [e1] at h4 e
  exact ⟨_, w, e, rfl, h4, h5, h6⟩
theorem fewestSeconds_ok {σ : SS} {R : RW} (h : RowIs σ R) (hb : RWb R) (h3 : ∀ y ∈ R, y.2 ≤ 3) : ∃ τ, X7_fewestSeconds σ = some (nI (few R).1, τ) ∧ τ.1 6 0 2 = nI (few R).2.1 ∧ τ.1 6 0 3 = nI (few R).2.2 ∧ Eqo WR2 σ τ ∧ RowIs τ R := by
  have hl := hb.1
  obtain ⟨b, w, e, h1, -, h4, h5, h6⟩ := loopI (f := X7_fewestSeconds_l7b) (s := (1073741824, 0, 0, σ)) (R.length + 1) (fun k (b : (Nat × Nat × Nat) × Int32) (w : SS) => ((nI b.1.1, b.2, nI k, w) : Int32 × Int32 × Int32 × SS)) (fun b w => ((nI b.1.1, w) : Int32 × SS)) (fun k b w => b.1 = (List.range k).foldl (fwI R) (1073741824, 0, 0) ∧ (k ≤ R.length → b.2 = nI (rsum (R.take k))) ∧ FFs w b.1 ∧ Eqo WR2 σ w ∧ RowIs w R) ((1073741824, 0, 0), 0) σ rfl ⟨rfl, fun _ => by
      rw [List.take_zero]
      rfl, fun z => absurd z (Nat.lt_irrefl _), Eqo.rf _ _, h⟩ (by omega) (fun k b w hk hI => by
      obtain ⟨a', x5⟩ := b
      obtain ⟨h1, h2, h4, h5, h6⟩ := hI
      simp only at h1 h2 h4
      have hk2 : k ≤ R.length := by omega
      have e2 := h2 hk2
      subst e2
      have ha' : a'.1 ≤ 1073741824 := by rw [h1]; exact (few_k R k (by omega)).1
      obtain ⟨v, w', e, hv, hF, hE, hR⟩ := fewJ_ok h6 hb hk2 ha' h4
      show ∃ b' w', X7_fewestSeconds_l7c w (nI a'.1) (nI (rsum (R.take k))) (nI k) = _ ∧ _
      unfold X7_fewestSeconds_l7c X7_fewestSeconds_l28
      rw [h6.1, if_neg (nI_nlt hk2 (by omega)), firstTied_ok h6 hl h3 hk2, Option.bind_some, e, Option.bind_some]
      obtain ⟨u, hu⟩ := at_some w' 22 0 (nI k)
      simp only
      rw [hu, Option.bind_some, Option.bind_some, nI_1, Option.bind_some, hv]
      refine ⟨(fwI R a' k, _), w', rfl, ?_, fun hk3 => ?_, hF, h5.tr hE, hR⟩
      · show fwI R a' k = _
        rw [fold_succ, ← h1]
      · obtain ⟨y, hy⟩ : ∃ y, R[k]? = some y := ⟨R[k], List.getElem?_eq_getElem (by omega)⟩
        rw [(hR.at hl hy).1] at hu
        cases hu
        show nI _ + nI _ = _
        rw [nI_add, rsum_take hy]) (fun b w hI => by
      obtain ⟨a', x5⟩ := b
      obtain ⟨h1, h2, h4, h5, h6⟩ := hI
      show X7_fewestSeconds_l7c w (nI a'.1) x5 (nI (R.length + 1)) = _
      unfold X7_fewestSeconds_l7c
      rw [h6.1, if_pos (nI_lt (by omega) (by omega))])
  have e1 : b.1 = few R := h1
  rw [e1] at h4 e
  obtain ⟨g1, g2⟩ := h4 (by have := (few_lt hb).1; omega)
  refine ⟨w, ?_, g1, g2, h5, h6⟩
  unfold X7_fewestSeconds X7_fewestSeconds_j0 X7_fewestSeconds_l7
  rw [e, Option.bind_some]
section W1
variable {σ : SS} {d n nk i c : Nat} {s p o : Int32} {nu : Nat → Nat → Nat} {lo : Nat → Nat} {L : List X3}
theorem toUndo_ok (hd : d < 5) (hs : RS σ d n nk nu lo) {st l : Nat} (hst : st ≤ 3) (hl : l < n) : X0_secondsToUndo σ d (nI st) (nI l) = some (nI (sUndo st + nu 1 l)) := by
  have h8 := hs.n8
  have hnu := hs.2.2.1 1 l (by decide) hl
  unfold X0_secondsToUndo X0_secondsToUndo_j0 X0_secondsToUndo_j29 sUndo
  have : st = 0 ∨ st = 1 ∨ st = 2 ∨ st = 3 := by omega
  rcases this with z | z | z | z <;> rw [z] <;> simp (disch := omega) only [lits, le_t, le_f, lt_t, lt_f, eq_t, eq_f, em_f, me_f, nI_add, nI_subN, pk_mul, Option.bind_some, ck_nI, lens, wI_eq, wI_ne, if_true, if_false, ite_true, ite_false, eq_self, Bool.false_eq_true, Nat.zero_add, Nat.add_zero, nu_at hd, hnu, (by decide : ¬ 1 = 0), (by decide : ¬ 2 = 0), (by decide : ¬ 3 = 0), (by decide : ¬ 2 = 1), (by decide : ¬ 3 = 1), (by decide : ¬ 3 = 2)]
theorem stateAfter_ok (hd : d < 5) (h : RV σ d n i c s p o L) {k : Nat} {x : X3} (hk : L[k]? = some x) {m : Nat} (hm : m ≤ 3) : ∃ v, X0_stateAfter σ d (nI k) (nI m) = some v ∧ ((aft m x.2.2 = none ∧ v ≤ -1) ∨ ∃ st, aft m x.2.2 = some st ∧ v = nI st ∧ st ≤ 3) := by
  obtain ⟨h1, h2, h3, h4, h5, h6, -, -, h9⟩ := h.x hk
  have e := cr_at (σ := σ) hd 2 (by decide) h1
  rw [h9] at e
  unfold X0_stateAfter X0_stateAfter_j0
  rw [show X4_at σ (4 * d + 2) 2 (nI k) = some (nI x.2.2) from e, Option.bind_some]
  by_cases q3 : x.2.2 = 3
  · rw [q3, if_pos (show nI 3 = 3 from rfl)]
    exact ⟨3, rfl, .inr ⟨3, if_pos rfl, rfl, Nat.le_refl _⟩⟩
  · rw [if_neg (show ¬ nI x.2.2 = 3 from fun z => q3 ((nI_eq (b := 3) (by omega) (by decide)).mp z))]
    refine ⟨_, rfl, ?_⟩
    unfold aft
    rw [if_neg q3]
    by_cases q : m ≤ x.2.2
    · rw [if_pos q, nI_subN q]
      exact .inr ⟨_, rfl, rfl, by omega⟩
    · rw [if_neg q]
      left
      refine ⟨rfl, ?_⟩
      have key : ∀ b, b < 4 → ∀ a, a < b → nI a - nI b ≤ -1 := by decide
      exact key m (by omega) _ (by omega)
theorem toLoosen_ok (hd : d < 5) (h : RV σ d n i c s p o L) {m : Nat} (hm : m ≤ 3) : X0_secondsToLoosen σ d (nI m) = some (nI (sLo m L)) := by
  have h24 := h.l24
  unfold X0_secondsToLoosen X0_secondsToLoosen_j0 X0_secondsToLoosen_l4
  rw [iter_scan (s := (0, 0)) L (fun a _ x => Sum.inl (a + nI (if x.2.2 = 3 then m else min m (x.2.2 + 1)))) (fun a => a) (fun a k => (a, nI k)) 0 rfl (by omega) (fun k x acc hk => ?_) (fun acc => ?_), scan_fold, foldl_sum0]
  · rfl
  · obtain ⟨h1, h2, h3, h4, h5, h6, -⟩ := h.x hk
    show X0_secondsToLoosen_l4c σ d (nI m) acc (nI k) = _
    unfold X0_secondsToLoosen_l4c X0_secondsToLoosen_j37
    rw [h.len, if_neg (nI_ge h2 (by omega)), stateAt_ok hd h hk, Option.bind_some]
    by_cases q3 : x.2.2 = 3
    · rw [q3, if_pos (show nI 3 = 3 from rfl), if_pos rfl, Option.bind_some, nI_1, Option.bind_some]
    · rw [if_neg (show ¬ nI x.2.2 = 3 from fun z => q3 ((nI_eq (b := 3) (by omega) (by decide)).mp z)), if_neg q3, Option.bind_some, nI_1, imin_nI (by omega) (by omega), Option.bind_some, nI_1, Option.bind_some]
  · show X0_secondsToLoosen_l4c σ d (nI m) acc (nI L.length) = _
    unfold X0_secondsToLoosen_l4c
    rw [h.len, if_pos (nI_le (Nat.le_refl _) (by omega))]
theorem layRow_ok (hd : d < 5) (hs : RS σ d n nk nu lo) (h : RV σ d n i c s p o L) {l dn m : Nat} (hl : l < n) (hdn : dn < 256) (hm : m ≤ 3) : ∃ τ, X7_layRow σ d (nI l) (nI dn) (nI m) = some τ ∧ Eqo WR σ τ ∧ RowIs τ (rowL nu l dn m L) := by
  have h24 := h.l24
  have h8 := hs.n8
  obtain ⟨b, w, e, hI⟩ := loopI (f := X7_layRow_l8b d (nI l) (nI dn) (nI m)) (s := (0, wI σ 6 0 1 0)) L.length (fun k (_ : Unit) (w : SS) => ((nI k, w) : Int32 × SS)) (fun _ w => w) (fun k _ w => Eqo WR σ w ∧ RowIs w (rowL nu l dn m (L.take k))) () (wI σ 6 0 1 0) rfl ⟨Eqo.wI (.inl ⟨rfl, rfl, by decide, by decide⟩), by
      rw [List.take_zero]
      exact ⟨wI_eq _ _ _ _ _, fun j y hy => by simp [rowL] at hy⟩⟩ (by omega) (fun k b w hk hI => by
      obtain ⟨hE, hR⟩ := hI
      have hs' : RS w d n nk nu lo := hs.keep hE (fun k m j q => by unfold WR at q; omega)
      have h' : RV w d n i c s p o L := h.keep hE (fun k m j q => by unfold WR at q; omega)
      obtain ⟨x, hx⟩ : ∃ x, L[k]? = some x := ⟨L[k], List.getElem?_eq_getElem hk⟩
      obtain ⟨h1, h2, h3, h4, h5, h6, -⟩ := h'.x hx
      have hot := otherAt_ok hd h8 h' hx (l := l) (by omega)
      have hrow : rowL nu l dn m (L.take (k + 1)) = rowL nu l dn m (L.take k) ++ (rowF nu l dn m x).toList := by
        unfold rowL
        rw [← List.take_append_getElem hk, List.filterMap_append]
        congr 1
        have ex : L[k] = x := by
          rw [List.getElem?_eq_getElem hk] at hx
          exact Option.some.inj hx
        rw [ex, List.filterMap_cons, List.filterMap_nil]
        cases rowF nu l dn m x <;> rfl
      have hlen : (rowL nu l dn m (L.take k)).length ≤ k := by
        refine Nat.le_trans (List.length_filterMap_le _ _) ?_
        rw [List.length_take]
        omega
      have skip : rowF nu l dn m x = none → ∃ (b' : Unit) (w' : SS), X7_layRow_j101 w d (nI l) (nI dn) (nI m) (nI k) = some (Sum.inl ((nI (k + 1), w') : Int32 × SS)) ∧ Eqo WR σ w' ∧ RowIs w' (rowL nu l dn m (L.take (k + 1))) := fun hn => by
        unfold X7_layRow_j101
        rw [nI_1, Option.bind_some]
        refine ⟨(), w, rfl, hE, ?_⟩
        rw [hrow, hn]
        simpa using hR
      show ∃ b' w', X7_layRow_l8c w d (nI l) (nI dn) (nI m) (nI k) = _ ∧ _
      unfold X7_layRow_l8c X0_crossingCount X0_crossingCount_j0
      rw [h'.len, Option.bind_some, if_neg (nI_ge hk (by omega)), hot, Option.bind_some]
      by_cases q : qO l x = true
      · have hol := oth_lt (l := l) h3 h4
        rw [if_pos q, if_neg (show ¬ nI (oth l x) = -1 from ne_m1 (by omega))]
        have hb := hbit hdn (show oth l x < 8 by omega)
        rw [show ((nI dn >>> (nI (oth l x) &&& 31)) &&& 1) = nI (if dn.testBit (oth l x) = true then 1 else 0) from hb]
        by_cases q2 : dn.testBit (oth l x) = true
        · rw [if_pos q2, if_neg (by decide)]
          exact skip (by unfold rowF; rw [if_neg (fun z => by rw [q2] at z; exact absurd z.2 (by decide))])
        · rw [if_neg q2, if_pos (by decide)]
          obtain ⟨v, ev, hv⟩ := stateAfter_ok hd h' hx hm
          rw [ev, Option.bind_some]
          rcases hv with ⟨ha, hv⟩ | ⟨st, ha, rfl, hst⟩
          · rw [if_pos hv]
            exact skip (by unfold rowF; rw [ha, Option.map_none, ite_self])
          · rw [if_neg (show ¬ nI st ≤ -1 from fun z => by
              have z2 := Int32.le_iff_toInt_le.mp z
              rw [nI_toInt (by omega)] at z2
              have : (-1 : Int32).toInt = -1 := by decide
              omega), toUndo_ok hd hs' hst hol, Option.bind_some]
            have hrf : rowF nu l dn m x = some (sUndo st + nu 1 (oth l x), st) := by
              unfold rowF
              rw [ha, if_pos ⟨q, by simpa using q2⟩]
              rfl
            generalize hA : rowL nu l dn m (L.take k) = A at hR hlen hrow
            have hA24 : A.length < 24 := by omega
            rw [hR.1]
            rw [show X4_put w 22 0 (nI A.length) (nI (sUndo st + nu 1 (oth l x))) = some (wI w 13 22 (24 * 0 + A.length) (nI (sUndo st + nu 1 (oth l x)))) from row_put w 0 (by decide) hA24 _, Option.bind_some]
            rw [wI_ne _ _ (by omega), hR.1]
            rw [show X4_put (wI w 13 22 (24 * 0 + A.length) (nI (sUndo st + nu 1 (oth l x)))) 22 1 (nI A.length) (nI st) = some (wI (wI w 13 22 (24 * 0 + A.length) (nI (sUndo st + nu 1 (oth l x)))) 13 22 (24 * 1 + A.length) (nI st)) from row_put _ 1 (by decide) hA24 _, Option.bind_some]
            rw [wI_ne _ _ (by omega), wI_ne _ _ (by omega), hR.1, Option.bind_some]
            unfold X7_layRow_j101
            rw [nI_1, nI_1, Option.bind_some]
            refine ⟨(), _, rfl, ?_, ?_⟩
            · exact ((hE.tr (Eqo.wI (.inr ⟨rfl, rfl⟩))).tr (Eqo.wI (.inr ⟨rfl, rfl⟩))).tr (Eqo.wI (.inl ⟨rfl, rfl, by decide, by decide⟩))
            · rw [hrow, hrf]
              refine ⟨by rw [wI_eq]; simp, fun j y hy => ?_⟩
              rw [show 24 * 0 + A.length = A.length by omega, show 24 * 1 + A.length = 24 + A.length by omega]
              rcases Nat.lt_or_ge j A.length with z | z
              · rw [List.getElem?_append_left z] at hy
                rw [wI_ne _ _ (by omega), wI_ne _ _ (by omega), wI_ne _ _ (by omega), wI_ne _ _ (by omega), wI_ne _ _ (by omega), wI_ne _ _ (by omega)]
                exact hR.2 j y hy
              · rw [List.getElem?_append_right z] at hy
                have hj : j = A.length := by
                  have := (List.getElem?_eq_some_iff.mp hy).1
                  simp at this
                  omega
                subst hj
                simp at hy
                subst hy
                rw [wI_ne _ _ (by omega), wI_ne _ _ (by omega), wI_eq, wI_ne _ _ (by omega), wI_eq]
                exact ⟨rfl, rfl⟩
      · rw [if_neg q, if_pos (show -nI 1 = (-1 : Int32) from rfl)]
        exact skip (by unfold rowF; rw [if_neg (fun z => q z.1)])) (fun b w hI => by
      obtain ⟨hE, hR⟩ := hI
      have h' : RV w d n i c s p o L := h.keep hE (fun k m j q => by unfold WR at q; omega)
      show X7_layRow_l8c w d (nI l) (nI dn) (nI m) (nI L.length) = _
      unfold X7_layRow_l8c X0_crossingCount X0_crossingCount_j0
      rw [h'.len, Option.bind_some, if_pos (nI_le (Nat.le_refl _) (by omega))])
  rw [List.take_length] at hI
  refine ⟨w, ?_, hI.1, hI.2⟩
  unfold X7_layRow X7_layRow_j0 X7_layRow_l8
  rw [Option.bind_some, e, Option.bind_some]
end W1
