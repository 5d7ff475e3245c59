/-! ===== BOXES: both sides ===== -/
theorem T_27 : TR 27 = 1 ∧ TW 27 = 256 := by decide
theorem fb_at (σ : SS) {k : Nat} (hk : k < 256) : X4_at σ 27 0 (nI k) = some (σ.1 13 27 k) := by
  have := at_ok σ (t := 27) (r := 0) (c := k) (by decide) (by decide) (by rw [T_27.2]; exact hk)
  rw [Nat.zero_mul, Nat.zero_add] at this
  exact this
theorem fb_put (σ : SS) {k : Nat} (hk : k < 256) (x : Int32) : X4_put σ 27 0 (nI k) x = some (wI σ 13 27 k x) := by
  have := put_ok σ (t := 27) (r := 0) (c := k) x (by decide) (by decide) (by rw [T_27.2]; exact hk)
  rw [Nat.zero_mul, Nat.zero_add] at this
  exact this
theorem ck40' {t : Nat} (ht : t < 256) : ck (LN 13 40) (nI t) = some t := by
  rw [lens.2.2.2.2.2.2.2.2.2.1]
  exact ck_nI ht (by decide)
def lgF (n i : Nat) (ln : Nat → Nat) : Nat := (List.range n).foldl (fun a l => max a (if i.testBit l = true then ln l else 0)) 0
theorem lgF_le {i r : Nat} {ln : Nat → Nat} (m : Nat) : (List.range m).foldl (fun a l => max a (if i.testBit l = true then ln l else 0)) 0 ≤ r ↔ ∀ l, l < m → i.testBit l = true → ln l ≤ r := by
  induction m with
  | zero => exact ⟨fun _ l hl => absurd hl (Nat.not_lt_zero _), fun _ => Nat.zero_le _⟩
  | succ m ih =>
    rw [fold_succ, Nat.max_le, ih]
    constructor
    · intro ⟨h1, h2⟩ l hl hb
      by_cases e : l = m
      · subst e
        rwa [if_pos hb] at h2
      · exact h1 l (by omega) hb
    · intro h
      refine ⟨fun l hl hb => h l (by omega) hb, ?_⟩
      split
      · rename_i q
        exact h m (by omega) q
      · exact Nat.zero_le _
section BO
variable {σ : SS} {d n nk i c : Nat} {s p o : Int32} {nu : Nat → Nat → Nat} {lo : Nat → Nat} {L : List X3}
theorem longest_ok (hd : d < 5) (hs : RS σ d n nk nu lo) (h : RV σ d n i c s p o L) : X8_longest σ d = some (nI (lgF n i (nu 0))) := by
  have h8 := hs.n8
  have hle : lgF n i (nu 0) ≤ 30 := (lgF_le n).mpr (fun l hl _ => (hs.wf.2.2.1 l hl).2.1)
  obtain ⟨b, w, e, h1⟩ := loopI (f := X8_longest_l4b σ d) (s := (0, 0)) n (fun k (b : Nat) (_ : Unit) => ((nI b, nI k) : Int32 × Int32)) (fun b _ => nI b) (fun k b _ => b = (List.range k).foldl (fun a l => max a (if i.testBit l = true then nu 0 l else 0)) 0) 0 () rfl rfl (by omega) (fun k a w hk hI => by
    have ha : a ≤ 30 := by
      rw [hI]
      exact (lgF_le k).mpr (fun l hl _ => (hs.wf.2.2.1 l (by omega)).2.1)
    have hk30 := (hs.wf.2.2.1 k hk).2.1
    show ∃ b' w', X8_longest_l4c σ d (nI a) (nI k) = _ ∧ _
    unfold X8_longest_l4c X8_longest_j31 X0_leadCount X0_leadCount_j0
    rw [hs.ln, Option.bind_some, if_neg (nI_ge hk (by omega)), isIn_in hs h hk, Option.bind_some, v01, show X0_number σ d 0 (nI k) = some (nI (nu 0 k)) from number_ok hd hs (by decide) hk, Option.bind_some, nI_1]
    refine ⟨max a (if i.testBit k = true then nu 0 k else 0), (), ?_, by rw [fold_succ, ← hI]⟩
    by_cases q : i.testBit k = true
    · rw [if_pos q, if_pos q, imax_nI (by omega) (by omega), Option.bind_some, Option.bind_some]
    · rw [if_neg q, if_neg q, show (0 : Int32) = nI 0 from rfl, imax_nI (by omega) (by decide), Option.bind_some, Option.bind_some]) (fun a w hI => by
    show X8_longest_l4c σ d (nI a) (nI n) = _
    unfold X8_longest_l4c X0_leadCount X0_leadCount_j0
    rw [hs.ln, Option.bind_some, if_pos (nI_le (Nat.le_refl _) (by omega))])
  subst h1
  unfold X8_longest X8_longest_j0 X8_longest_l4
  rw [e, Option.bind_some]
  rfl
def BXc : Nat → Nat → Nat → Prop := fun k n _ => k = 13 ∧ n = 27
def BXx : Nat → Nat → Nat → Prop := fun k n _ => k = 13 ∧ n = 40
theorem leastFilled_ok (hd : d < 5) (hs : RS σ d n nk nu lo) {S r : Nat} (hS : S < 2 ^ n) (h0 : S ≠ 0) (hr : r ≤ 99) (hc : ∀ T, T < S → Sub T S → σ.1 13 27 T = nI (bxF n (nu 0) r T)) : X8_leastFilled σ d (nI S) (nI r) = some (nI (bxF n (nu 0) r S)) := by
  have h8 := hs.n8
  have hS8 := p256 h8 hS
  rw [bxF_s hS8 h0]
  obtain ⟨b, w, e, h1, -⟩ := loopI (f := X8_leastFilled_l7b σ d (nI S) (nI r)) (s := (1073741824, 0)) n (fun k (b : Nat) (_ : Unit) => ((nI b, nI k) : Int32 × Int32)) (fun b _ => nI b) (fun k b _ => b = fmin (fun l => S.testBit l) (fun l => stp r (bxF n (nu 0) r (df S (2 ^ l))) (nu 0 l)) (List.range k) 1073741824 ∧ b ≤ 1073741824) 1073741824 () rfl ⟨rfl, Nat.le_refl _⟩ (by omega) (fun k a w hk hI => by
    obtain ⟨hI, hle⟩ := hI
    have hw := hs.wf.2.2.1 k hk
    have hnext : fmin (fun l => S.testBit l) (fun l => stp r (bxF n (nu 0) r (df S (2 ^ l))) (nu 0 l)) (List.range (k + 1)) 1073741824 = if S.testBit k = true then min a (stp r (bxF n (nu 0) r (df S (2 ^ k))) (nu 0 k)) else a := by
      unfold fmin at hI ⊢
      rw [fold_succ, ← hI]
    show ∃ b' w', X8_leastFilled_l7c σ d (nI S) (nI r) (nI a) (nI k) = _ ∧ _
    unfold X8_leastFilled_l7c X8_leastFilled_j70 X8_leastFilled_j100 X8_leastFilled_j105 X0_leadCount X0_leadCount_j0
    rw [hs.ln, Option.bind_some, if_neg (nI_ge hk (by omega)), bit1 hS8 (by omega), nI_1]
    rw [hnext]
    by_cases q : S.testBit k = true
    · have hlt := df_bit hS8 q
      have hpop := bxF_pop (n := n) (ln := nu 0) (r := r) h8 hr (fun l hl => (hs.wf.2.2.1 l hl).2.1) (df S (2 ^ k)) (by omega)
      have hp8 := popc_le (df S (2 ^ k))
      have hmod := Nat.div_add_mod (bxF n (nu 0) r (df S (2 ^ k))) 128
      have hmlt := Nat.mod_lt (bxF n (nu 0) r (df S (2 ^ k))) (show 0 < 128 by decide)
      rw [if_pos q, if_pos q, xand S hS8 (by omega), show S &&& (255 ^^^ 2 ^ k) = df S (2 ^ k) from rfl, fb_at σ (df_lt hS8), Option.bind_some, hc _ hlt (df_sub hS8 _), show X0_number σ d 0 (nI k) = some (nI (nu 0 k)) from number_ok hd hs (by decide) hk, Option.bind_some]
      generalize bxF n (nu 0) r (df S (2 ^ k)) = v at *
      rw [pk_andN (by omega) 7 (by decide), pk_shrN (by omega) (7 &&& 31) 7 (by decide), nI_1, pk_shlN (7 &&& 31) 7 (by decide) (by show (v / 2 ^ 7 + 1) * 2 ^ 7 < 2 ^ 32; omega), nI_add, nI_add, nI_add]
      have hstp : (if (if nI r < nI (v % 2 ^ 7 + nu 0 k) then (0 : Int32) else 1) = 0 then nI ((v / 2 ^ 7 + 1) * 2 ^ 7 + nu 0 k) else nI (v + nu 0 k)) = nI (stp r v (nu 0 k)) := by
        unfold stp
        by_cases z : v % 128 + nu 0 k ≤ r
        · rw [if_neg (show ¬ nI r < nI (v % 2 ^ 7 + nu 0 k) from nI_nlt z (by omega)), if_neg neg1_0, if_pos z]
        · rw [if_pos (show nI r < nI (v % 2 ^ 7 + nu 0 k) from nI_lt (by omega) (by omega)), if_pos rfl, if_neg z]
      have hst2 : stp r v (nu 0 k) < 2147483648 := by
        unfold stp
        split <;> omega
      rw [hstp, imin_nI (by omega) hst2, Option.bind_some, Option.bind_some]
      exact ⟨_, (), rfl, rfl, by omega⟩
    · rw [if_neg q, if_neg q, Option.bind_some]
      exact ⟨a, (), rfl, rfl, hle⟩) (fun a w hI => by
    show X8_leastFilled_l7c σ d (nI S) (nI r) (nI a) (nI n) = _
    unfold X8_leastFilled_l7c X0_leadCount X0_leadCount_j0
    rw [hs.ln, Option.bind_some, if_pos (nI_le (Nat.le_refl _) (by omega))])
  subst h1
  unfold X8_leastFilled X8_leastFilled_j0 X8_leastFilled_l7
  rw [e, Option.bind_some]
theorem fewest_ok (hd : d < 5) (hs : RS σ d n nk nu lo) (h : RV σ d n i c s p o L) {r : Nat} (hr : r ≤ 99) : ∃ τ, X8_fewestBoxes σ d (nI r) = some (nI (bxF n (nu 0) r i / 128), τ) ∧ Eqo BXc σ τ := by
  have h8 := hs.n8
  have hi := p256 h8 h.ilt
  have hpop := bxF_pop (n := n) (ln := nu 0) (r := r) h8 hr (fun l hl => (hs.wf.2.2.1 l hl).2.1) i h.ilt
  have hp8 := popc_le i
  obtain ⟨b, w, e, hE, hT⟩ := loopI (f := X8_fewestBoxes_l18b d (nI r) (nI i)) (s := (1, wI σ 13 27 0 (nI r))) i (fun k (_ : Unit) (w : SS) => ((nI (k + 1), w) : Int32 × SS)) (fun _ w => w) (fun k _ w => Eqo BXc σ w ∧ ∀ T, T ≤ k → Sub T i → w.1 13 27 T = nI (bxF n (nu 0) r T)) () (wI σ 13 27 0 (nI r)) rfl ⟨Eqo.wI ⟨rfl, rfl⟩, fun T hT _ => by
      have : T = 0 := by omega
      subst this
      rw [wI_eq, bxF_0]⟩ (by omega) (fun k b w hk hI => by
      obtain ⟨hE, hT⟩ := hI
      have hs' : RS w d n nk nu lo := hs.keep hE (fun k m j q => by unfold BXc at q; omega)
      have hsub : ((nI (k + 1) &&& (nI i ^^^ (-1))) = 0) ↔ Sub (k + 1) i := by
        rw [show (-1 : Int32) = -nI 1 from rfl, nI_andn (by omega)]
        show nI (df (k + 1) i) = nI 0 ↔ _
        rw [nI_eq (by have := df_le (k + 1) i; omega) (by decide), df_0 (by omega)]
      show ∃ b' w', X8_fewestBoxes_l18c w d (nI r) (nI i) (nI (k + 1)) = _ ∧ _
      unfold X8_fewestBoxes_l18c X8_fewestBoxes_j51
      rw [if_neg (nI_nlt (by omega) (by omega)), nI_1]
      by_cases q : Sub (k + 1) i
      · have hlt2 : k + 1 < 2 ^ n := by have := h.ilt; omega
        rw [if_pos (hsub.mpr q), leastFilled_ok hd hs' hlt2 (by omega) hr (fun T hT1 hT2 => hT T (by omega) (hT2.tr q)), Option.bind_some, fb_put w (by omega), Option.bind_some, Option.bind_some]
        refine ⟨(), _, rfl, hE.tr (Eqo.wI ⟨rfl, rfl⟩), fun T hT1 hT2 => ?_⟩
        by_cases ee : T = k + 1
        · subst ee
          rw [wI_eq]
        · rw [wI_ne _ _ (by omega)]
          exact hT T (by omega) hT2
      · rw [if_neg (fun z => q (hsub.mp z)), Option.bind_some]
        refine ⟨(), w, rfl, hE, fun T hT1 hT2 => ?_⟩
        by_cases ee : T = k + 1
        · subst ee
          exact absurd hT2 q
        · exact hT T (by omega) hT2) (fun b w hI => by
      show X8_fewestBoxes_l18c w d (nI r) (nI i) (nI (i + 1)) = _
      unfold X8_fewestBoxes_l18c
      rw [if_pos (nI_lt (by omega) (by omega))])
  refine ⟨w, ?_, hE⟩
  unfold X8_fewestBoxes X8_fewestBoxes_j0 X8_fewestBoxes_l18
  rw [inside_ok h, Option.bind_some, show X4_put σ 27 0 0 (nI r) = some (wI σ 13 27 0 (nI r)) from fb_put σ (k := 0) (by decide) _, Option.bind_some, e, Option.bind_some, fb_at w hi, Option.bind_some, hT i (Nat.le_refl _) (Sub.rf i), pk_shrN (by omega) (7 &&& 31) 7 (by decide)]
/-! the reference -/
theorem xlongOf (hs : RXS σ n nk nu lo) {T : Nat} (hT : T < 256) : X12_longOf σ (nI T) = some (nI (lng n (nu 0) T)) := by
  have h8 := hs.n8
  unfold X12_longOf X12_longOf_j0 X12_longOf_l4
  rw [loop_sum (n := n) (fun l => if T.testBit l = true then nu 0 l else 0) (by omega) (fun a k hk => by
    have c8 : ck (LN 13 34) (8 + nI k) = some (8 + k) := by
      show ck (LN 13 34) (nI 8 + nI k) = _
      rw [nI_add]
      exact ckc (by omega)
    have g8 : σ.1 13 34 (8 + k) = nI (nu 0 k) := by
      have := hs.gn (w := 0) (by decide) hk
      rw [show 8 + k = 8 + 8 * 0 + k by omega]
      exact this
    show X12_longOf_l4c σ (nI T) (nI a) (nI k) = _
    unfold X12_longOf_l4c X12_longOf_j36
    rw [ck0, Option.bind_some, hs.ln, if_neg (nI_ge hk (by omega)), xhas hT (by omega), Option.bind_some, v01, c8]
    simp only [Option.bind_some, g8, nI_1]
    by_cases q : T.testBit k = true
    · rw [if_pos q, if_pos q, nI_add]
    · rw [if_neg q, if_neg q, show (0 : Int32) = nI 0 from rfl, nI_add]) (fun a => by
    show X12_longOf_l4c σ (nI T) (nI a) (nI n) = _
    unfold X12_longOf_l4c
    rw [ck0, Option.bind_some, hs.ln, if_pos (nI_le (Nat.le_refl _) (by omega))]), Option.bind_some]
  rfl
theorem lng_le {n nk : Nat} {nu : Nat → Nat → Nat} {lo : Nat → Nat} (hw : wfS n nk nu lo) (T : Nat) : lng n (nu 0) T ≤ 240 := by
  have h8 := hw.1
  have := sumB_le (n := n) (p := fun l => if T.testBit l = true then nu 0 l else 0) (c := 30) (fun l hl => by
    have := hw.2.2.1 l hl
    show (if T.testBit l = true then nu 0 l else 0) ≤ 30
    split <;> omega)
  unfold lng
  omega
theorem xbox_loop {S r : Nat} (hS : S < 256) (hr : r ≤ 99) (x2 : Int32) : ∀ (k b F a : Nat) (σ : SS), RXS σ n nk nu lo → Sub b S → b ≤ k → k < F → a ≤ 99 → σ.1 13 40 S = nI a → (∀ T, T < S → Sub T S → σ.1 13 40 T = nI (bxG n (nu 0) r T) ∧ bxG n (nu 0) r T ≤ 99) → ∃ τ, iter (X12_boxes_l118b (nI r) x2 (nI S)) F (nI b, σ) = some τ ∧ τ.1 13 40 S = nI (fmin (fun b => decide (lng n (nu 0) b ≤ r)) (fun b => 1 + bxG n (nu 0) r (df S b)) (enm k S b) a) ∧ Eqo (fun k n j => k = 13 ∧ n = 40 ∧ j = S) σ τ := by
  intro k
  induction k with
  | zero =>
    intro b F a σ hs hb hk hF ha hSa hT
    have : b = 0 := by omega
    subst this
    obtain ⟨F, rfl⟩ := Nat.exists_eq_succ_of_ne_zero (by omega : F ≠ 0)
    have e : X12_boxes_l118b (nI r) x2 (nI S) (nI 0, σ) = some (Sum.inr σ) := by
      show X12_boxes_l118c σ (nI r) x2 (nI S) (nI 0) = _
      unfold X12_boxes_l118c
      rw [if_pos (by decide)]
    refine ⟨σ, by simp only [iter, e, Option.bind_some], hSa, Eqo.rf _ _⟩
  | succ k ih =>
    intro b F a σ hs hb hk hF ha hSa hT
    obtain ⟨F, rfl⟩ := Nat.exists_eq_succ_of_ne_zero (by omega : F ≠ 0)
    by_cases h0 : b = 0
    · subst h0
      have e : X12_boxes_l118b (nI r) x2 (nI S) (nI 0, σ) = some (Sum.inr σ) := by
        show X12_boxes_l118c σ (nI r) x2 (nI S) (nI 0) = _
        unfold X12_boxes_l118c
        rw [if_pos (by decide)]
      refine ⟨σ, by simp only [iter, e, Option.bind_some], ?_, Eqo.rf _ _⟩
      rw [hSa]
      unfold enm
      rw [if_pos rfl]
      rfl
    · have hb256 : b < 256 := Nat.lt_of_le_of_lt hb.le hS
      have hlt := df_any hS h0 hb
      have hlng := lng_le hs.wf b
      obtain ⟨hg1, hg2⟩ := hT (df S b) hlt (df_sub hS b)
      have henm : enm (k + 1) S b = b :: enm k S ((b - 1) &&& S) := by
        rw [enm, if_neg h0]
      have hsub : Sub ((b - 1) &&& S) S := fun k hk => by
        rw [Nat.testBit_and, Bool.and_eq_true] at hk
        exact hk.2
      have hle : (b - 1) &&& S ≤ k := by
        have : (b - 1) &&& S ≤ b - 1 := Nat.and_le_left
        omega
      have hval : ∃ (σ' : SS) (a' : Nat), X12_boxes_l118b (nI r) x2 (nI S) (nI b, σ) = some (Sum.inl (nI ((b - 1) &&& S), σ')) ∧ a' = (if decide (lng n (nu 0) b ≤ r) = true then min a (1 + bxG n (nu 0) r (df S b)) else a) ∧ σ'.1 13 40 S = nI a' ∧ Eqo (fun k n j => k = 13 ∧ n = 40 ∧ j = S) σ σ' := by
        have head : X12_boxes_l118b (nI r) x2 (nI S) (nI b, σ) = X12_boxes_l118c σ (nI r) x2 (nI S) (nI b) := rfl
        rw [head]
        unfold X12_boxes_l118c X12_boxes_j161
        rw [if_neg (nI_nle (by omega) (by omega)), xlongOf hs hb256, Option.bind_some, nI_sub1 (by omega), nI_and, Option.bind_some]
        by_cases q : lng n (nu 0) b ≤ r
        · rw [if_neg (nI_nlt q (by omega)), ck40' hS, Option.bind_some, show (-1 : Int32) = -nI 1 from rfl, nI_andn hS, show S &&& (255 ^^^ b) = df S b from rfl, ck40' (df_lt hS), Option.bind_some, Option.bind_some, hSa, hg1, show (1 : Int32) + nI (bxG n (nu 0) r (df S b)) = nI (1 + bxG n (nu 0) r (df S b)) from nI_add _ _, imin_nI (by omega) (by omega), Option.bind_some, Option.bind_some]
          exact ⟨_, _, rfl, by rw [if_pos (by simpa using q)], wI_eq _ _ _ _ _, Eqo.wI ⟨rfl, rfl, rfl⟩⟩
        · rw [if_pos (nI_lt (by omega) (by omega))]
          exact ⟨σ, a, rfl, by rw [if_neg (by simpa using q)], hSa, Eqo.rf _ _⟩
      obtain ⟨σ', a', e1, e2, e3, e4⟩ := hval
      have hs' : RXS σ' n nk nu lo := hs.keep e4 (fun j q => by omega)
      obtain ⟨τ, f1, f2, f3⟩ := ih ((b - 1) &&& S) F a' σ' hs' hsub hle (by omega) (by rw [e2]; split <;> omega) e3 (fun T hT1 hT2 => by
        rw [e4.1 _ _ _ (by omega)]
        exact hT T hT1 hT2)
      refine ⟨τ, by simp only [iter, e1, Option.bind_some]; exact f1, ?_, e4.tr f3⟩
      rw [f2, e2, henm]
      rfl
theorem bxG_99 (n : Nat) (ln : Nat → Nat) (r : Nat) {S : Nat} (hS : S < 256) : bxG n ln r S ≤ 99 := by
  by_cases h0 : S = 0
  · rw [h0, bxG_0]; omega
  · rw [bxG_s hS h0]
    exact (fmin_ok _ _ _ _).1
theorem xboxes_l (hs : RXS σ n nk nu lo) (h : RXV σ n i c s p o L) {r : Nat} (hr : r ≤ 99) : ∃ τ, X12_boxes_l83 σ (nI r) (nI i) 0 = some (nI (bxG n (nu 0) r i), τ) ∧ Eqo BXx σ τ := by
  have h8 := hs.n8
  have hi := p256 h8 h.ilt
  obtain ⟨b, w, e, hE, hT⟩ := loopI (f := X12_boxes_l83b (nI r) (nI i)) (s := (0, σ)) (i + 1) (fun k (_ : Unit) (w : SS) => ((nI k, w) : Int32 × SS)) (fun _ w => w) (fun k _ w => Eqo BXx σ w ∧ ∀ T, T < k → Sub T i → w.1 13 40 T = nI (bxG n (nu 0) r T)) () σ rfl ⟨Eqo.rf _ _, fun T hT _ => absurd hT (Nat.not_lt_zero _)⟩ (by omega) (fun k b w hk hI => by
      obtain ⟨hE, hT⟩ := hI
      have hs' : RXS w n nk nu lo := hs.keep hE (fun j q => by unfold BXx at q; omega)
      have hsub : ((nI k &&& (nI i ^^^ (-1))) = 0) ↔ Sub k i := by
        rw [show (-1 : Int32) = -nI 1 from rfl, nI_andn (by omega)]
        show nI (df k i) = nI 0 ↔ _
        rw [nI_eq (by have := df_le k i; omega) (by decide), df_0 (by omega)]
      show ∃ b' w', X12_boxes_l83c w (nI r) (nI i) (nI k) = _ ∧ _
      unfold X12_boxes_l83c X12_boxes_j103 X12_boxes_j172
      rw [if_neg (nI_nlt (by omega) (by omega)), ck40' (by omega), Option.bind_some, Option.bind_some, nI_1, Option.bind_some]
      have hE1 : Eqo BXx w (wI w 13 40 k (if nI k = 0 then 0 else 99)) := Eqo.wI ⟨rfl, rfl⟩
      have hv : (if nI k = 0 then (0 : Int32) else 99) = nI (if k = 0 then 0 else 99) := by
        by_cases z : k = 0
        · rw [if_pos (by rw [z]; rfl), if_pos z]; rfl
        · rw [if_neg (nI_ne0 (by omega) (by omega)), if_neg z]; rfl
      by_cases q : Sub k i
      · rw [if_pos (hsub.mpr q)]
        unfold X12_boxes_l118 X12_boxes_j172
        obtain ⟨τ, f1, f2, f3⟩ := xbox_loop (n := n) (nk := nk) (nu := nu) (lo := lo) (S := k) (by omega) hr (nI i) 256 k NF (if k = 0 then 0 else 99) (wI w 13 40 k (if nI k = 0 then 0 else 99)) (hs'.keep hE1 (fun j q => by unfold BXx at q; omega)) (Sub.rf k) (by omega) (by unfold NF; decide) (by split <;> omega) (by rw [wI_eq, hv]) (fun T hT1 hT2 => by
          rw [wI_ne _ _ (by omega)]
          exact ⟨hT T hT1 (hT2.tr q), bxG_99 _ _ _ (by omega)⟩)
        rw [f1, Option.bind_some, nI_1, Option.bind_some]
        refine ⟨(), τ, rfl, (hE.tr hE1).tr (f3.mono (fun k n j q => ⟨q.1, q.2.1⟩)), fun T hT1 hT2 => ?_⟩
        by_cases ee : T = k
        · subst ee
          rw [f2]
          by_cases z : T = 0
          · subst z
            rw [bxG_0]
            rfl
          · rw [if_neg z, bxG_s (by omega) z]
        · rw [f3.1 _ _ _ (by omega), wI_ne _ _ (by omega)]
          exact hT T (by omega) hT2
      · rw [if_neg (fun z => q (hsub.mp z))]
        refine ⟨(), _, rfl, hE.tr hE1, fun T hT1 hT2 => ?_⟩
        by_cases ee : T = k
        · subst ee
          exact absurd hT2 q
        · rw [wI_ne _ _ (by omega)]
          exact hT T (by omega) hT2) (fun b w hI => by
      show X12_boxes_l83c w (nI r) (nI i) (nI (i + 1)) = _
      unfold X12_boxes_l83c
      rw [if_pos (nI_lt (by omega) (by omega))])
  refine ⟨w, ?_, hE⟩
  unfold X12_boxes_l83
  rw [e, Option.bind_some, ck40' hi, Option.bind_some, hT i (by omega) (Sub.rf i)]
theorem xboxes_fit (hs : RXS σ n nk nu lo) (h : RXV σ n i c s p o L) {r : Nat} (hr : r ≤ 99) : iter (X12_boxes_l37b σ (nI r) (nI i)) NF 0 = some (if lgF n i (nu 0) ≤ r then Sum.inr () else Sum.inl ()) := by
  have h8 := hs.n8
  have hi := p256 h8 h.ilt
  have key : ∃ t, iter (X12_boxes_l37b σ (nI r) (nI i)) NF (nI 0) = some t ∧ ((t = Sum.inr () ∧ ∀ l, l < n → i.testBit l = true → nu 0 l ≤ r) ∨ (t = Sum.inl () ∧ ∃ l, l < n ∧ i.testBit l = true ∧ ¬ nu 0 l ≤ r)) := by
    refine iter_upto (fun k (s : Int32) => s = nI k ∧ ∀ l, l < k → i.testBit l = true → nu 0 l ≤ r) n (fun t => (t = Sum.inr () ∧ ∀ l, l < n → i.testBit l = true → nu 0 l ≤ r) ∨ (t = Sum.inl () ∧ ∃ l, l < n ∧ i.testBit l = true ∧ ¬ nu 0 l ≤ r)) (fun k s hk hI => ?_) (fun s hI => ?_) ⟨rfl, fun l hl => absurd hl (Nat.not_lt_zero _)⟩ (by omega)
    · obtain ⟨rfl, hI⟩ := hI
      have c8 : ck (LN 13 34) (8 + nI k) = some (8 + k) := by
        show ck (LN 13 34) (nI 8 + nI k) = _
        rw [nI_add]
        exact ckc (by omega)
      have g8 : σ.1 13 34 (8 + k) = nI (nu 0 k) := by
        have := hs.gn (w := 0) (by decide) hk
        rw [show 8 + k = 8 + 8 * 0 + k by omega]
        exact this
      have hwk := hs.wf.2.2.1 k hk
      have e : X12_boxes_l37b σ (nI r) (nI i) (nI k) = if i.testBit k = true then (if nu 0 k ≤ r then some (Sum.inl (nI (k + 1))) else some (Sum.inr (Sum.inl ()))) else some (Sum.inl (nI (k + 1))) := by
        show X12_boxes_l37c σ (nI r) (nI i) (nI k) = _
        unfold X12_boxes_l37c X12_boxes_j75
        rw [ck0, Option.bind_some, hs.ln, if_neg (nI_ge hk (by omega)), xhas hi (by omega), Option.bind_some, v01, c8, Option.bind_some, g8, nI_1, Option.bind_some]
        by_cases z : nu 0 k ≤ r
        · rw [if_pos (nI_le z (by omega)), if_pos z]
        · rw [if_neg (nI_ge (by omega) (by omega)), if_neg z]
      rw [e]
      by_cases q : i.testBit k = true
      · by_cases z : nu 0 k ≤ r
        · left
          rw [if_pos q, if_pos z]
          refine ⟨_, rfl, rfl, fun l hl hb => ?_⟩
          by_cases ee : l = k
          · subst ee; exact z
          · exact hI l (by omega) hb
        · right
          rw [if_pos q, if_neg z]
          exact ⟨_, rfl, .inr ⟨rfl, k, hk, q, z⟩⟩
      · left
        rw [if_neg q]
        refine ⟨_, rfl, rfl, fun l hl hb => ?_⟩
        by_cases ee : l = k
        · subst ee; exact absurd hb q
        · exact hI l (by omega) hb
    · obtain ⟨rfl, hI⟩ := hI
      refine ⟨Sum.inr (), ?_, .inl ⟨rfl, hI⟩⟩
      show X12_boxes_l37c σ (nI r) (nI i) (nI n) = _
      unfold X12_boxes_l37c
      rw [ck0, Option.bind_some, hs.ln, if_pos (nI_le (Nat.le_refl _) (by omega))]
  obtain ⟨t, e, ht⟩ := key
  rw [show (0 : Int32) = nI 0 from rfl, e]
  rcases ht with ⟨rfl, ha⟩ | ⟨rfl, l, h1, h2, h3⟩
  · rw [if_pos (show lgF n i (nu 0) ≤ r from (lgF_le n).mpr ha)]
  · rw [if_neg (show ¬ lgF n i (nu 0) ≤ r from fun z => h3 ((lgF_le n).mp z l h1 h2))]
theorem op_boxes (a : Int32) (h : RelD σ n nk nu lo i c s p o L) : OR3 PV σ (fun σ => X11_boxes σ a) (fun σ => X12_boxes σ a) (fun τ => RelD τ n nk nu lo i c s p o L) := by
  have h1 := h.ps (ps1 σ 0)
  have h8 := h.1.n8
  have hC : ∀ τ, Eqo PS σ τ → RelD τ n nk nu lo i c s p o L := fun τ hE => h.ps hE
  by_cases g : (1 : Int32) ≤ a ∧ a ≤ 99
  · obtain ⟨r, hr, rfl⟩ : ∃ r, r < 2 ^ 31 ∧ a = nI r := nI_of (fun z => by
      have := g.1
      have z1 := Int32.lt_iff_toInt_lt.mp z
      have z2 := Int32.le_iff_toInt_le.mp this
      have e0 : (0 : Int32).toInt = 0 := by decide
      have e1 : (1 : Int32).toInt = 1 := by decide
      omega)
    have r1 : 1 ≤ r := (nI_leI (a := 1) (by decide) hr).mp g.1
    have r99 : r ≤ 99 := (nI_leI (b := 99) hr (by decide)).mp g.2
    have hle : lgF n i (nu 0) ≤ 30 := (lgF_le n).mpr (fun l hl _ => (h.1.wf.2.2.1 l hl).2.1)
    have cl : X11_boxes σ (nI r) = X11_boxes_j37 σ (nI r) (if lgF n i (nu 0) ≤ r then 0 else 9) := by
      unfold X11_boxes X11_boxes_j0
      rw [if_neg (show ¬ nI r < 1 from nI_nlt (b := 1) r1 (by omega)), if_pos (show nI r ≤ 99 from g.2), longest_ok (by decide) h.1 h.2.1, Option.bind_some]
      by_cases z : lgF n i (nu 0) ≤ r
      · rw [if_pos (nI_le z (by omega)), if_pos z]
      · rw [if_neg (nI_ge (by omega) (by omega)), if_neg z]
    have xin : ∀ υ, X12_isIn υ (Int32.toInt64 (nI r)) 1 99 = some 1 := fun υ => by
      have := xisIn υ (nI r) 1 99
      rw [if_pos g] at this
      exact this
    have rf : ∀ υ, RelD (xb υ) n nk nu lo i c s p o L → X12_boxes υ (nI r) = if lgF n i (nu 0) ≤ r then X12_boxes_l83 (xb υ) (nI r) (nI i) 0 else some (-1, wI (xb υ) 11 0 0 9) := fun υ hυ => by
      unfold X12_boxes X12_boxes_j0
      rw [Option.bind_some, Option.bind_some, xin, Option.bind_some, if_neg neg1_0, ck3, Option.bind_some]
      show ((some ((xb υ).1 13 34 3)).bind fun x2_34 => X12_boxes_l37 (xb υ) (nI r) x2_34 0) = _
      rw [hυ.2.2.2.ins, Option.bind_some]
      unfold X12_boxes_l37
      rw [xboxes_fit hυ.2.2.1 hυ.2.2.2 r99, Option.bind_some]
      by_cases z : lgF n i (nu 0) ≤ r
      · rw [if_pos z, if_pos z]
      · rw [if_neg z, if_neg z]
        rfl
    by_cases z : lgF n i (nu 0) ≤ r
    · obtain ⟨υ, f1, hE1⟩ := fewest_ok (by decide) h1.1 h1.2.1 r99
      have r2 := h1.keep hE1 (fun k n j q => by unfold BXc at q; unfold RDc; omega)
      have r3 := r2.ps (xb_ps υ)
      obtain ⟨τ, f2, hE2⟩ := xboxes_l r3.2.2.1 r3.2.2.2 r99
      have heq := boxes_eq (n := n) (r := r) (ln := nu 0) h8 r99 r1 h.2.1.ilt (fun l hl => ⟨(h.1.wf.2.2.1 l hl).1, (h.1.wf.2.2.1 l hl).2.1⟩) ((lgF_le n).mp z) i (Sub.rf i)
      rw [heq] at f1
      refine ⟨nI (bxG n (nu 0) r i), υ, τ, ?_, ?_, ?_, ?_, r3.keep hE2 (fun k n j q => by unfold BXx at q; unfold RDc; omega)⟩
      · show X11_boxes σ (nI r) = _
        rw [cl, if_pos z]
        unfold X11_boxes_j37
        rw [answers0, Option.bind_some, if_neg neg1_0, f1, Option.bind_some]
      · show X12_boxes υ (nI r) = _
        rw [rf υ r3, if_pos z, f2]
      · have g1 : υ.1 10 0 11 = 0 := by
          rw [hE1.at1 (by unfold BXc; omega), wI_eq]
        have g2 := xb_st g1
        unfold St at g2 ⊢
        rw [hE2.at1 (by unfold BXx; omega), hE2.at1 (by unfold BXx; omega)]
        exact g2
      · exact (((PS_PVE (ps1 σ 0)).tr (hE1.mono (fun k n j q => by unfold BXc at q; unfold PV; omega))).tr (PS_PVE (xb_ps υ))).tr (hE2.mono (fun k n j q => by unfold BXx at q; unfold PV; omega))
    · refine refP hC PS_PV 9 (-1) ?_ ?_
      · show X11_boxes σ (nI r) = _
        rw [cl, if_neg z]
        unfold X11_boxes_j37
        rw [answersN _ (by decide), Option.bind_some, if_pos rfl]
      · show X12_boxes (wI σ 10 0 11 9) (nI r) = _
        rw [rf _ (h.ps (s0_ps σ 9)), if_neg z]
        rfl
  · have xout : ∀ υ, X12_isIn υ (Int32.toInt64 a) 1 99 = some 0 := fun υ => by
      have := xisIn υ a 1 99
      rw [if_neg g] at this
      exact this
    refine refP hC PS_PV 5 (-1) ?_ ?_
    · show X11_boxes σ a = _
      unfold X11_boxes X11_boxes_j0 X11_boxes_j12 X11_boxes_j37
      rw [answersN _ (by decide), Option.bind_some, if_pos rfl]
      by_cases q1 : a < 1
      · rw [if_pos q1]
      · rw [if_neg q1, if_neg (fun z => g ⟨Int32.not_lt.mp q1, z⟩)]
    · show X12_boxes (wI σ 10 0 11 5) a = _
      unfold X12_boxes X12_boxes_j0
      rw [Option.bind_some, Option.bind_some, s0e, xout, Option.bind_some, if_pos rfl]
      rfl
end BO
