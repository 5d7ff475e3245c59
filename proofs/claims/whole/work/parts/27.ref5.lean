/-! ===== the reference: following, pulling, cutting, clips ===== -/
def gN (e : Bool) (l : Nat) (a : Option Nat) (k : Nat) (x : X3) : Option Nat := if qO l x = true then (if a = none ∨ e = true then some k else a) else a
theorem near_scan {T : Type} (l : Nat) (R : Option Nat → T) (e : Bool) : ∀ (L : List X3) (a : Option Nat) (b : Nat), scan (fun a k x => (Sum.inl (gN e l a k x) : Option Nat ⊕ T)) R L a b = R (if e = true then (if cnt L l = 0 then a else nth l L (cnt L l - 1) b) else (match a with
    | some k => some k
    | none => nth l L 0 b)) := by
  intro L
  induction L with
  | nil =>
    intro a b
    unfold scan
    cases e <;> cases a <;> rfl
  | cons x t ih =>
    intro a b
    unfold scan
    simp only
    rw [ih]
    congr 1
    have hc : cnt (x :: t) l = cnt t l + (if qO l x = true then 1 else 0) := by
      unfold cnt
      rw [List.countP_cons]
    by_cases q : qO l x = true
    · rw [if_pos q] at hc
      unfold gN
      rw [if_pos q, hc]
      cases e with
      | true =>
        rw [if_pos rfl, if_pos rfl, if_pos (show a = none ∨ true = true from .inr rfl), if_neg (show ¬ cnt t l + 1 = 0 by omega)]
        by_cases z : cnt t l = 0
        · rw [if_pos z, z]
          unfold nth
          rw [if_pos q]
          rfl
        · rw [if_neg z, Nat.add_sub_cancel]
          obtain ⟨w, hw⟩ : ∃ w, cnt t l = w + 1 := ⟨cnt t l - 1, by omega⟩
          rw [hw]
          unfold nth
          rw [if_pos q]
          cases t with
          | nil => rfl
          | cons y t => rfl
      | false =>
        rw [if_neg Bool.false_ne_true, if_neg Bool.false_ne_true]
        cases a with
        | some k => rw [if_neg (by simp)]
        | none =>
          rw [if_pos (.inl rfl)]
          unfold nth
          rw [if_pos q]
    · rw [if_neg q, Nat.add_zero] at hc
      unfold gN
      rw [if_neg q, hc]
      cases e with
      | true =>
        rw [if_pos rfl, if_pos rfl]
        by_cases z : cnt t l = 0
        · rw [if_pos z, if_pos z]
        · rw [if_neg z, if_neg z]
          conv => rhs; unfold nth
          rw [if_neg q]
      | false =>
        rw [if_neg Bool.false_ne_true, if_neg Bool.false_ne_true]
        cases a with
        | some k => rfl
        | none =>
          conv => rhs; unfold nth
          rw [if_neg q]
theorem oI_neg {a : Option Nat} (h : ∀ k, a = some k → k < 2147483648) : (oI a < 0) ↔ a = none := by
  cases a with
  | none => exact ⟨fun _ => rfl, fun _ => by show (-1 : Int32) < 0; decide⟩
  | some k => exact ⟨fun z => absurd z (nI_pos (h k rfl)), fun z => by cases z⟩
section D4
variable {σ : SS} {n nk i c : Nat} {s p o : Int32} {nu : Nat → Nat → Nat} {lo : Nat → Nat} {L : List X3}
theorem xnearest (hn : n ≤ 8) (h : RXV σ n i c s p o L) {l : Nat} (hl : l < 8) (e : Bool) : X12_nearest σ (nI l) (if e = true then 1 else 0) = some (oI (if e = true then (if cnt L l = 0 then none else nth l L (cnt L l - 1) 0) else nth l L 0 0)) := by
  have h24 := h.l24
  unfold X12_nearest X12_nearest_j0 X12_nearest_l5
  have key : iter (X12_nearest_l5b σ (nI l) (if e = true then 1 else 0)) NF (oI none, 0) = some (scan (fun a k x => (Sum.inl (gN e l a k x) : Option Nat ⊕ Int32)) (fun a => oI a) L none 0) := by
    refine iter_scanI (s := (oI none, 0)) L (fun j a => ∀ k, a = some k → k < j) _ _ (fun a k => (oI a, nI k)) none rfl (fun k z => by cases z) (by omega) (fun k x a hk hI => ?_) (fun k x a a' hk hI hg => ?_) (fun a hI => ?_)
    · obtain ⟨h1, h2, -⟩ := h.x hk
      have hI' : ∀ k', a = some k' → k' < 2147483648 := fun k' z => by have := hI k' z; omega
      show X12_nearest_l5c σ (nI l) (if e = true then 1 else 0) (oI a) (nI k) = _
      unfold X12_nearest_l5c X12_nearest_j35 X12_nearest_j38
      rw [ck1, Option.bind_some, h.len, if_neg (nI_ge h2 (by omega)), xisOf hn h hk hl, Option.bind_some, v01]
      simp only [nI_1, Option.bind_some]
      show _ = some (Sum.inl (oI (gN e l a k x), nI (k + 1)))
      unfold gN
      by_cases q : qO l x = true
      · rw [if_pos q, if_pos q]
        by_cases z : a = none
        · rw [if_pos ((oI_neg hI').mpr z), if_pos (.inl z)]
          rfl
        · rw [if_neg (fun w => z ((oI_neg hI').mp w))]
          cases e with
          | true => rw [if_pos rfl, if_pos rfl, if_pos (.inr rfl)]; rfl
          | false => rw [if_neg Bool.false_ne_true, if_neg (by decide), if_neg (by simp [z])]
      · rw [if_neg q, if_neg q]
    · injection hg with hg
      subst hg
      intro k' z
      unfold gN at z
      split at z
      · split at z
        · injection z with z
          omega
        · have := hI k' z
          omega
      · have := hI k' z
        omega
    · show X12_nearest_l5c σ (nI l) (if e = true then 1 else 0) (oI a) (nI L.length) = _
      unfold X12_nearest_l5c
      rw [ck1, Option.bind_some, h.len, if_pos (nI_le (Nat.le_refl _) (by omega))]
  have key' : iter (X12_nearest_l5b σ (nI l) (if e = true then 1 else 0)) NF (-1, 0) = _ := key
  rw [key', near_scan, Option.bind_some]
theorem xfollowsOne (hs : RXS σ n nk nu lo) (h : RXV σ n i c s p o L) {l m : Nat} (hl : l < n) (e : Bool) (hm : m = if e = true then cnt L l - 1 else 0) (hc : 0 < cnt L l) : ∃ k x τ, nth l L m 0 = some k ∧ L[k]? = some x ∧ qO l x = true ∧ X12_followsOne σ (nI l) (if e = true then 1 else 0) = some (nI (costC nu l x), τ) ∧ Eqo XC σ τ ∧ RXV τ n i c (s + nI (costC nu l x)) p o (L.eraseIdx k) := by
  have h24 := h.l24
  have h8 := hs.n8
  obtain ⟨k, x, e1, e2, e3⟩ := nth_some (l := l) L m 0 (by subst hm; cases e <;> simp <;> omega)
  rw [Nat.zero_add] at e1
  obtain ⟨hk, hkl, hx0, hx1, hxn, hx3, c0, c1, c2⟩ := h.x e2
  have hne := xnearest h8 h (l := l) (by omega) e
  have hv : (if e = true then (if cnt L l = 0 then none else nth l L (cnt L l - 1) 0) else nth l L 0 0) = some k := by
    rw [if_neg (by omega : ¬ cnt L l = 0)]
    cases e
    · simp only [Bool.false_eq_true, if_false] at hm ⊢
      rw [hm] at e1
      exact e1
    · simp only [if_true] at hm ⊢
      rw [hm] at e1
      exact e1
  rw [hv] at hne
  have hne' : X12_nearest σ (nI l) (if e = true then 1 else 0) = some (nI k) := hne
  have hco := xcostOf hs h e2 e3 hl
  have h' := h.setS (s + nI (costC nu l x))
  have hE' : Eqo XC σ (wI σ 13 34 5 (s + nI (costC nu l x))) := Eqo.wI (by unfold XC; omega)
  have hE0 : X12_followsOne σ (nI l) (if e = true then 1 else 0) = (X12_drops (wI σ 13 34 5 (s + nI (costC nu l x))) (nI k)).bind fun t => some (nI (costC nu l x), t) := by
    unfold X12_followsOne X12_followsOne_j0
    rw [hne', Option.bind_some, hco, Option.bind_some, ck5, Option.bind_some, Option.bind_some, h.sec, Option.bind_some]
  rw [hE0]
  generalize wI σ 13 34 5 (s + nI (costC nu l x)) = υ at h' hE'
  obtain ⟨τ, e4, hE, g1, g2⟩ := xdrops h'.len h'.cr h24 hkl
  rw [e4, Option.bind_some]
  exact ⟨k, x, τ, e1, e2, e3, rfl, hE'.tr (XD_XC hE), h'.newL hE g1 g2 ⟨Nat.le_trans (List.length_eraseIdx_le _ _) h24, fun y hy => h.wl.2 y (List.mem_of_mem_eraseIdx hy)⟩ (fun y hy => h.inn y (List.mem_of_mem_eraseIdx hy))⟩
theorem updP_lone {l : Nat} : updL (gP l true) L = updL (gC l) L := by
  induction L with
  | nil => rfl
  | cons x t ih =>
    rw [updL_cons, updL_cons, ih]
    by_cases q : qO l x = true
    · have g1 : gP l true x = (0, true) := by
        unfold gP
        rw [if_pos q, if_pos (.inl rfl)]
      rw [g1, if_pos rfl, if_pos (show (gC l x).2 = true from q)]
    · have g1 : gP l true x = (x.2.2, false) := by
        unfold gP
        rw [if_neg q]
      rw [g1, if_neg Bool.false_ne_true, if_neg (show ¬ (gC l x).2 = true from q)]
      rfl
theorem xpulls (hs : RXS σ n nk nu lo) (h : RXV σ n i c s p o L) {l : Nat} (hl : l < n) (hil : i.testBit l = true) : ∃ τ, X12_pulls σ (nI l) = some τ ∧ Eqo XC σ τ ∧ RXV τ n i c (s + nI 2) p o (updL (gP l (popc (lumpF i L l) == 1)) L) := by
  have h24 := h.l24
  have h8 := hs.n8
  have h' := h.setS (s + nI 2)
  have hs' : RXS (wI σ 13 34 5 (s + nI 2)) n nk nu lo := hs.keepV (Eqo.wI (by unfold XC; omega))
  have hE' : Eqo XC σ (wI σ 13 34 5 (s + nI 2)) := Eqo.wI (by unfold XC; omega)
  obtain ⟨hlu, hq⟩ := xlumpOf hs' h' hl hil
  have e0 : X12_pulls σ (nI l) = if nI (popc (lumpF i L l)) = 1 then ((X12_dropsAll (wI σ 13 34 5 (s + nI 2)) (nI l)).bind fun p24 => some p24.2) else X12_pulls_l38 (wI σ 13 34 5 (s + nI 2)) (nI l) (pI L.length) := by
    unfold X12_pulls X12_pulls_j0
    have e2 : σ.1 13 34 5 + 2 = s + nI 2 := by rw [h.sec]; rfl
    rw [ck5, Option.bind_some, Option.bind_some, e2, Option.bind_some, hlu, Option.bind_some, xsizeOf hq.1, Option.bind_some, ck1, Option.bind_some, h'.len, pI_sub, Option.bind_some]
  rw [e0]
  have hpc := popc_le (lumpF i L l)
  generalize wI σ 13 34 5 (s + nI 2) = υ0 at *
  by_cases hz : popc (lumpF i L l) = 1
  · rw [if_pos (by rw [hz]; rfl)]
    obtain ⟨τ, e, hE, hR⟩ := xdropsAll h8 h' (l := l) (by omega)
    rw [e, Option.bind_some]
    have hb : (popc (lumpF i L l) == 1) = true := by rw [hz]; rfl
    rw [hb, updP_lone]
    exact ⟨τ, rfl, hE'.tr (XD_XC hE), hR⟩
  · rw [if_neg (show ¬ nI (popc (lumpF i L l)) = 1 from fun w => hz ((nI_eq (b := 1) (by omega) (by decide)).mp w))]
    have hb : (popc (lumpF i L l) == 1) = false := by simp [hz]
    rw [hb]
    have hml := xmark_loop (σ := υ0) (L := L) (gP l false) (f := X12_pulls_l38b (nI l)) (fun _ j υ => (pI j, υ)) (fun _ υ => υ) h'.len h'.cr h24 (fun k x υ m M hx hk hE hcell hm => by
      obtain ⟨-, -, hx0, hx1, -, hx3, -⟩ := h'.x hx
      have ho : X12_isOf υ (nI k) (nI l) = some (if qO l x = true then 1 else 0) := by
        unfold X12_isOf X12_isOf_j0 X12_isOf_j26
        rw [ckO (by omega), Option.bind_some, hcell.1, ckU (by omega), Option.bind_some, hcell.2.1]
        by_cases a : x.1 = l
        · have hq : qO l x = true := by simp [qO, a]
          rw [eq_t a, if_pos hq]
        · rw [eq_f a (by omega) (by omega)]
          by_cases b : x.2.1 = l
          · have hq : qO l x = true := by simp [qO, b]
            rw [eq_t b, if_pos hq]
          · have hq : ¬ qO l x = true := by simp [qO, a, b]
            rw [eq_f b (by omega) (by omega), if_neg hq]
      have e1 : X12_pulls_l38b (nI l) (pI (k + 1), υ) = X12_pulls_l38c υ (nI l) (pI (k + 1)) := rfl
      rw [e1]
      unfold X12_pulls_l38c X12_pulls_j98
      rw [pI_s, if_neg (nI_pos (by omega)), ho, Option.bind_some, v01, ckS (by omega), Option.bind_some, hcell.2.2]
      by_cases q : qO l x = true
      · rw [if_pos q]
        by_cases z : x.2.2 = 0
        · left
          refine ⟨by unfold gP; rw [if_pos q, if_pos (.inr z)], ?_⟩
          rw [ez_t z]
          cases X12_drops υ (nI k) with
          | none => rfl
          | some τ => rfl
        · right
          left
          have hg : gP l false x = (min 3 (x.2.2 + 1), false) := by
            unfold gP
            rw [if_pos q, if_neg (by simp [z])]
          rw [hg, ez_f (Nat.pos_of_ne_zero z) (by omega)]
          refine ⟨rfl, ?_⟩
          have e5 : imin 3 (nI x.2.2 + 1) = nI (min 3 (x.2.2 + 1)) := by
            rw [nI_1]
            exact imin_nI (a := 3) (by decide) (by omega)
          rw [Option.bind_some, Option.bind_some, hcell.2.2, e5, Option.bind_some]
          rfl
      · right
        right
        left
        have hg : gP l false x = (x.2.2, false) := by
          unfold gP
          rw [if_neg q]
        rw [hg, if_neg q]
        exact ⟨rfl, rfl, rfl⟩) (fun m υ hE => by
      show X12_pulls_l38c υ (nI l) (pI 0) = _
      unfold X12_pulls_l38c
      rw [if_pos pI_0])
    obtain ⟨τ, e, hE, hR⟩ := xloop0 (mk := fun _ j υ => (pI j, υ)) (fin := fun _ υ => υ) (f := X12_pulls_l38b (nI l)) h' (gP l false) (fun x _ q _ => by
      unfold gP
      split
      · split
        · exact Nat.zero_le _
        · exact Nat.min_le_left _ _
      · exact q) hml
    refine ⟨τ, ?_, hE'.tr (XD_XC hE), hR⟩
    unfold X12_pulls_l38
    have e' : iter (X12_pulls_l38b (nI l)) NF (pI L.length, υ0) = some τ := e
    rw [e', Option.bind_some]
end D4
