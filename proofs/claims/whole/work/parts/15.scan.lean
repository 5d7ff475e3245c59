/-! ===== PURE: loops over a list ===== -/
def scan {α β T : Type} (g : β → Nat → α → β ⊕ T) (R : β → T) : List α → β → Nat → T
  | [], b, _ => R b
  | x :: t, b, k => match g b k x with
    | .inl b' => scan g R t b' (k + 1)
    | .inr r => r
theorem iter_scanI {α β S T : Type} {f : S → Option (S ⊕ T)} (L : List α) (I : Nat → β → Prop) (g : β → Nat → α → β ⊕ T) (R : β → T) (mk : β → Nat → S) {s : S} (b : β) (h0 : s = mk b 0) (hI : I 0 b) (hL : L.length < 1999999) (hs : ∀ k x acc, L[k]? = some x → I k acc → f (mk acc k) = some (match g acc k x with
    | .inl a => Sum.inl (mk a (k + 1))
    | .inr r => Sum.inr r)) (hp : ∀ k x acc a, L[k]? = some x → I k acc → g acc k x = Sum.inl a → I (k + 1) a) (he : ∀ acc, I L.length acc → f (mk acc L.length) = some (Sum.inr (R acc))) : iter f NF s = some (scan g R L b 0) := by
  subst h0
  have key : ∀ (t : List α) (k : Nat) (acc : β), L.drop k = t → k ≤ L.length → I k acc → ∀ F, t.length < F → iter f F (mk acc k) = some (scan g R t acc k) := by
    intro t
    induction t with
    | nil =>
      intro k acc hd hk hI F hF
      obtain ⟨F, rfl⟩ := Nat.exists_eq_succ_of_ne_zero (Nat.ne_of_gt (Nat.lt_of_le_of_lt (Nat.zero_le _) hF))
      have hk2 : k = L.length := by
        have := List.drop_eq_nil_iff.mp hd
        omega
      subst hk2
      simp only [iter, he _ hI, Option.bind_some, scan]
    | cons x t ih =>
      intro k acc hd hk hI F hF
      obtain ⟨F, rfl⟩ := Nat.exists_eq_succ_of_ne_zero (Nat.ne_of_gt (Nat.lt_of_le_of_lt (Nat.zero_le _) hF))
      have hx : L[k]? = some x := by
        have h1 : (L.drop k)[0]? = some x := by rw [hd]; rfl
        rw [List.getElem?_drop] at h1
        simpa using h1
      have hlt : k < L.length := (List.getElem?_eq_some_iff.mp hx).1
      have ht : L.drop (k + 1) = t := by
        rw [← List.drop_drop, hd]
        rfl
      simp only [iter, hs k x acc hx hI, Option.bind_some, scan]
      cases hg : g acc k x with
      | inl a => exact ih (k + 1) a ht hlt (hp k x acc a hx hI hg) F (by simp at hF; omega)
      | inr r => rfl
  exact key L 0 b rfl (Nat.zero_le _) hI NF (by unfold NF; omega)
theorem iter_scan {α β S T : Type} {f : S → Option (S ⊕ T)} (L : List α) (g : β → Nat → α → β ⊕ T) (R : β → T) (mk : β → Nat → S) {s : S} (b : β) (h0 : s = mk b 0) (hL : L.length < 1999999) (hs : ∀ k x acc, L[k]? = some x → f (mk acc k) = some (match g acc k x with
    | .inl a => Sum.inl (mk a (k + 1))
    | .inr r => Sum.inr r)) (he : ∀ acc, f (mk acc L.length) = some (Sum.inr (R acc))) : iter f NF s = some (scan g R L b 0) :=
  iter_scanI L (fun _ _ => True) g R mk b h0 trivial hL (fun k x acc hk _ => hs k x acc hk) (fun _ _ _ _ _ _ _ => trivial) (fun acc _ => he acc)
/-- a sum over a list, as ints -/
theorem scan_fold {α β T : Type} (h : β → α → β) (R : β → T) (L : List α) (b : β) (k : Nat) : scan (fun a _ x => Sum.inl (h a x)) R L b k = R (L.foldl h b) := by
  induction L generalizing b k with
  | nil => rfl
  | cons x t ih => exact ih _ _
theorem scan_foldi {α β T : Type} (h : β → Nat → α → β) (R : β → T) (L : List α) (b : β) (k : Nat) : ∃ c, scan (fun a j x => (Sum.inl (h a j x) : β ⊕ T)) R L b k = R c := by
  induction L generalizing b k with
  | nil => exact ⟨b, rfl⟩
  | cons x t ih => exact ih _ _
theorem foldl_cnt {α : Type} (p : α → Bool) (L : List α) (n : Nat) : L.foldl (fun (a : Int32) x => a + (if p x = true then 1 else 0)) (nI n) = nI (n + L.countP p) := by
  induction L generalizing n with
  | nil => rfl
  | cons x t ih =>
    rw [List.foldl_cons, List.countP_cons]
    by_cases hp : p x = true
    · rw [if_pos hp, nI_1, ih, if_pos hp]
      congr 1
      omega
    · rw [if_neg hp, if_neg hp]
      have e : nI n + 0 = nI n := by rw [l0, nI_add]; rfl
      rw [e, ih]
      rfl
theorem foldl_cnt0 {α : Type} (p : α → Bool) (L : List α) : L.foldl (fun (a : Int32) x => a + (if p x = true then 1 else 0)) 0 = nI (L.countP p) := by
  have := foldl_cnt p L 0
  rwa [Nat.zero_add] at this
theorem foldl_sum {α : Type} (p : α → Nat) (L : List α) (n : Nat) : L.foldl (fun (a : Int32) x => a + nI (p x)) (nI n) = nI (n + (L.map p).sum) := by
  induction L generalizing n with
  | nil => rfl
  | cons x t ih =>
    rw [List.foldl_cons, nI_add, ih, List.map_cons, List.sum_cons]
    congr 1
    omega
theorem foldl_sum0 {α : Type} (p : α → Nat) (L : List α) : L.foldl (fun (a : Int32) x => a + nI (p x)) 0 = nI ((L.map p).sum) := by
  have := foldl_sum p L 0
  rwa [Nat.zero_add] at this
/-- crossings: over, under, state -/
abbrev X3 : Type := Nat × Nat × Nat
def qO (l : Nat) (x : X3) : Bool := x.1 == l || x.2.1 == l
def cnt (L : List X3) (l : Nat) : Nat := L.countP (qO l)
def oth (l : Nat) (x : X3) : Nat := if x.1 = l then x.2.1 else x.1
def CRf (f : Nat → Nat → Int32) (L : List X3) : Prop := ∀ k x, L[k]? = some x → f 0 k = nI x.1 ∧ f 1 k = nI x.2.1 ∧ f 2 k = nI x.2.2
def wfL (n : Nat) (L : List X3) : Prop := L.length ≤ 24 ∧ ∀ x ∈ L, x.1 < n ∧ x.2.1 < n ∧ x.1 ≠ x.2.1 ∧ x.2.2 ≤ 3
/-- leads: how many, looks, numbers, sets of looks -/
def risk (nu : Nat → Nat → Nat) (l : Nat) : Nat := min 15 (nu 0 l / 2 - nu 1 l)
def wfS (n nk : Nat) (nu : Nat → Nat → Nat) (lo : Nat → Nat) : Prop := n ≤ 8 ∧ nk ≤ 3 ∧ (∀ l, l < n → 1 ≤ nu 0 l ∧ nu 0 l ≤ 30 ∧ nu 1 l ≤ 9 ∧ 1 ≤ nu 2 l ∧ nu 2 l ≤ 9 ∧ 1 ≤ nu 3 l ∧ nu 3 l ≤ 9 ∧ nu 4 l ≤ 999 ∧ nu 5 l ≤ 16) ∧ ∀ k, k < nk → lo k < 2 ^ n
theorem wfS.le {n nk : Nat} {nu : Nat → Nat → Nat} {lo : Nat → Nat} (h : wfS n nk nu lo) {w l : Nat} (hl : l < n) (hw : w < 6) : nu w l ≤ 999 := by
  have := h.2.2.1 l hl
  match w, hw with
  | 0, _ => omega
  | 1, _ => omega
  | 2, _ => omega
  | 3, _ => omega
  | 4, _ => omega
  | 5, _ => omega
/-- the class's drawer d: what stays -/
def RS (σ : SS) (d n nk : Nat) (nu : Nat → Nat → Nat) (lo : Nat → Nat) : Prop := σ.1 0 d 5 = nI n ∧ σ.1 0 d 7 = nI nk ∧ (∀ w l, w < 6 → l < n → σ.1 13 (4 * d + 1) (w * 8 + l) = nI (nu w l)) ∧ (∀ l, l < n → σ.1 13 (4 * d + 1) (48 + l) = nI (risk nu l)) ∧ (∀ k, k < nk → σ.1 13 (4 * d + 3) k = nI (lo k)) ∧ wfS n nk nu lo
/-- what changes -/
def RV (σ : SS) (d n i c : Nat) (s p o : Int32) (L : List X3) : Prop := σ.1 0 d 6 = nI L.length ∧ σ.1 0 d 8 = nI i ∧ (∃ r, r < 256 ∧ σ.1 0 d 9 = nI r ∧ r &&& i = c) ∧ σ.1 0 d 10 = s ∧ σ.1 0 d 11 = p ∧ σ.1 0 d 12 = o ∧ CRf (fun r k => σ.1 13 (4 * d + 2) (24 * r + k)) L ∧ i < 2 ^ n ∧ wfL n L
def VC (d : Nat) : Nat → Nat → Nat → Prop := fun k n j => (k = 0 ∧ n = d ∧ 6 ≤ j ∧ j ≠ 7 ∧ j ≠ 13) ∨ (k = 13 ∧ n = 4 * d + 2)
/-- the draw too -/
def VO (d : Nat) : Nat → Nat → Nat → Prop := fun k n j => VC d k n j ∨ (k = 0 ∧ n = d ∧ j = 13)
theorem RS.keep {σ τ : SS} {d n nk : Nat} {nu : Nat → Nat → Nat} {lo : Nat → Nat} {P : Nat → Nat → Nat → Prop} (h : RS σ d n nk nu lo) (hE : Eqo P σ τ) (hP : ∀ k m j, P k m j → ¬ ((k = 0 ∧ m = d ∧ (j = 5 ∨ j = 7)) ∨ (k = 13 ∧ (m = 4 * d + 1 ∨ m = 4 * d + 3)))) : RS τ d n nk nu lo := by
  obtain ⟨h1, h2, h3, h4, h5, h6⟩ := h
  have e : ∀ k m j, ((k = 0 ∧ m = d ∧ (j = 5 ∨ j = 7)) ∨ (k = 13 ∧ (m = 4 * d + 1 ∨ m = 4 * d + 3))) → τ.1 k m j = σ.1 k m j := fun k m j q => hE.1 k m j (fun z => hP k m j z q)
  refine ⟨?_, ?_, fun w l hw hl => ?_, fun l hl => ?_, fun k hk => ?_, h6⟩
  · rw [e _ _ _ (by omega)]; exact h1
  · rw [e _ _ _ (by omega)]; exact h2
  · rw [e _ _ _ (by omega)]; exact h3 w l hw hl
  · rw [e _ _ _ (by omega)]; exact h4 l hl
  · rw [e _ _ _ (by omega)]; exact h5 k hk
theorem RS.keepV {σ τ : SS} {d d' n nk : Nat} {nu : Nat → Nat → Nat} {lo : Nat → Nat} (h : RS σ d n nk nu lo) (hE : Eqo (VC d') σ τ) : RS τ d n nk nu lo := h.keep hE (fun k m j q => by unfold VC at q; omega)
theorem RS.keepVO {σ τ : SS} {d d' n nk : Nat} {nu : Nat → Nat → Nat} {lo : Nat → Nat} (h : RS σ d n nk nu lo) (hE : Eqo (VO d') σ τ) : RS τ d n nk nu lo := h.keep hE (fun k m j q => by unfold VO VC at q; omega)
theorem RV.keep {σ τ : SS} {d n i c : Nat} {s p o : Int32} {L : List X3} {P : Nat → Nat → Nat → Prop} (h : RV σ d n i c s p o L) (hE : Eqo P σ τ) (hP : ∀ k m j, P k m j → ¬ ((k = 0 ∧ m = d ∧ 6 ≤ j ∧ j ≤ 12 ∧ j ≠ 7) ∨ (k = 13 ∧ m = 4 * d + 2))) : RV τ d n i c s p o L := by
  obtain ⟨h1, h2, ⟨r, h3, h4, h5⟩, h6, h7, h8, h9, h10⟩ := h
  have e : ∀ k m j, ((k = 0 ∧ m = d ∧ 6 ≤ j ∧ j ≤ 12 ∧ j ≠ 7) ∨ (k = 13 ∧ m = 4 * d + 2)) → τ.1 k m j = σ.1 k m j := fun k m j q => hE.1 k m j (fun z => hP k m j z q)
  refine ⟨?_, ?_, ⟨r, h3, ?_, h5⟩, ?_, ?_, ?_, fun k x hk => ?_, h10⟩
  · rw [e _ _ _ (by omega)]; exact h1
  · rw [e _ _ _ (by omega)]; exact h2
  · rw [e _ _ _ (by omega)]; exact h4
  · rw [e _ _ _ (by omega)]; exact h6
  · rw [e _ _ _ (by omega)]; exact h7
  · rw [e _ _ _ (by omega)]; exact h8
  · have := h9 k x hk
    refine ⟨?_, ?_, ?_⟩
    · show τ.1 13 (4 * d + 2) (24 * 0 + k) = _
      rw [e _ _ _ (by omega)]; exact this.1
    · show τ.1 13 (4 * d + 2) (24 * 1 + k) = _
      rw [e _ _ _ (by omega)]; exact this.2.1
    · show τ.1 13 (4 * d + 2) (24 * 2 + k) = _
      rw [e _ _ _ (by omega)]; exact this.2.2
