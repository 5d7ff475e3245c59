/-! ===== the reference: what is done ===== -/
theorem inL.up {i : Nat} {L : List X3} (h : inL i L) (g : X3 → Nat × Bool) : inL i (updL g L) := by
  intro x hx
  unfold updL res at hx
  obtain ⟨y, hy, rfl⟩ := List.mem_map.mp hx
  obtain ⟨hy1, hy2⟩ := List.mem_filter.mp hy
  obtain ⟨z, hz, rfl⟩ := List.mem_map.mp hy1
  exact h z hz
theorem updC_len (l : Nat) (L : List X3) : (updL (gC l) L).length + cnt L l = L.length := by
  induction L with
  | nil => rfl
  | cons x t ih =>
    rw [updL_cons]
    unfold cnt at ih ⊢
    rw [List.countP_cons, List.length_cons]
    by_cases q : qO l x = true
    · rw [if_pos (show (gC l x).2 = true from q), if_pos q]
      omega
    · rw [if_neg (show ¬ (gC l x).2 = true from q), if_neg q, List.length_cons]
      omega
section D2
variable {σ : SS} {n nk i c : Nat} {s p o : Int32} {nu : Nat → Nat → Nat} {lo : Nat → Nat} {L : List X3}
theorem RXV.newL {τ : SS} {L' : List X3} (h : RXV σ n i c s p o L) (hE : Eqo XD σ τ) (h1 : τ.1 13 34 1 = nI L'.length) (hc : CRf (xf τ) L') (hw : wfL n L') (hi : inL i L') : RXV τ n i c s p o L' := by
  obtain ⟨-, g3, g4, g5, g6, g7, -, g8, -, -, g9⟩ := h
  have e : ∀ j, j ≠ 1 → j < 60 → τ.1 13 34 j = σ.1 13 34 j := fun j q q2 => hE.1 13 34 j (by unfold XD; omega)
  refine ⟨h1, ?_, ?_, ?_, ?_, ?_, hc, g8, hw, hi, g9⟩
  · rw [e _ (by omega) (by omega)]; exact g3
  · rw [e _ (by omega) (by omega)]; exact g4
  · rw [e _ (by omega) (by omega)]; exact g5
  · rw [e _ (by omega) (by omega)]; exact g6
  · rw [e _ (by omega) (by omega)]; exact g7
theorem XD_XC {σ τ : SS} (h : Eqo XD σ τ) : Eqo XC σ τ := h.mono (fun k n j q => by unfold XD at q; unfold XC; omega)
theorem RXV.wr {τ : SS} (h : RXV σ n i c s p o L) {i' c' : Nat} {s' p' o' : Int32} (e1 : ∀ j, 60 ≤ j → j < 132 → τ.1 13 34 j = σ.1 13 34 j) (e2 : τ.1 13 34 1 = σ.1 13 34 1) (e3 : τ.1 13 34 3 = nI i') (e4 : τ.1 13 34 4 = nI c') (e5 : τ.1 13 34 5 = s') (e6 : τ.1 13 34 6 = p') (e7 : τ.1 13 34 7 = o') (hi : i' < 2 ^ n) (hin : inL i' L) (hsub : Sub c' i') : RXV τ n i' c' s' p' o' L := by
  refine ⟨e2.trans h.len, e3, e4, e5, e6, e7, ?_, hi, h.wl, hin, hsub⟩
  intro k x hx
  obtain ⟨h1, h2, h3, h4, h5, h6, h7, h8, h9⟩ := h.x hx
  unfold xf
  rw [e1 _ (by omega) (by omega), e1 _ (by omega) (by omega), e1 _ (by omega) (by omega)]
  exact ⟨h7, h8, h9⟩
theorem RXV.setS (h : RXV σ n i c s p o L) (x : Int32) : RXV (wI σ 13 34 5 x) n i c x p o L := by
  refine h.wr (fun j q1 q2 => wI_ne _ _ (by omega)) (wI_ne _ _ (by omega)) ?_ ?_ (wI_eq _ _ _ _ _) ?_ ?_ h.ilt h.inn h.sub
  · rw [wI_ne _ _ (by omega)]; exact h.ins
  · rw [wI_ne _ _ (by omega)]; exact h.clp
  · rw [wI_ne _ _ (by omega)]; exact h.pen
  · rw [wI_ne _ _ (by omega)]; exact h.opn
theorem RXV.setP (h : RXV σ n i c s p o L) (x : Int32) : RXV (wI σ 13 34 6 x) n i c s x o L := by
  refine h.wr (fun j q1 q2 => wI_ne _ _ (by omega)) (wI_ne _ _ (by omega)) ?_ ?_ ?_ (wI_eq _ _ _ _ _) ?_ h.ilt h.inn h.sub
  · rw [wI_ne _ _ (by omega)]; exact h.ins
  · rw [wI_ne _ _ (by omega)]; exact h.clp
  · rw [wI_ne _ _ (by omega)]; exact h.sec
  · rw [wI_ne _ _ (by omega)]; exact h.opn
theorem RXV.setO (h : RXV σ n i c s p o L) (x : Int32) : RXV (wI σ 13 34 7 x) n i c s p x L := by
  refine h.wr (fun j q1 q2 => wI_ne _ _ (by omega)) (wI_ne _ _ (by omega)) ?_ ?_ ?_ ?_ (wI_eq _ _ _ _ _) h.ilt h.inn h.sub
  · rw [wI_ne _ _ (by omega)]; exact h.ins
  · rw [wI_ne _ _ (by omega)]; exact h.clp
  · rw [wI_ne _ _ (by omega)]; exact h.sec
  · rw [wI_ne _ _ (by omega)]; exact h.pen
theorem RXV.setC (h : RXV σ n i c s p o L) {c' : Nat} (hc : Sub c' i) : RXV (wI σ 13 34 4 (nI c')) n i c' s p o L := by
  refine h.wr (fun j q1 q2 => wI_ne _ _ (by omega)) (wI_ne _ _ (by omega)) ?_ (wI_eq _ _ _ _ _) ?_ ?_ ?_ h.ilt h.inn hc
  · rw [wI_ne _ _ (by omega)]; exact h.ins
  · rw [wI_ne _ _ (by omega)]; exact h.sec
  · rw [wI_ne _ _ (by omega)]; exact h.pen
  · rw [wI_ne _ _ (by omega)]; exact h.opn
theorem xloop0 {S T : Type} {mk : Nat → Nat → SS → S} {fin : Nat → SS → T} {f : S → Option (S ⊕ T)} (h : RXV σ n i c s p o L) (g : X3 → Nat × Bool) (hg : ∀ x ∈ L, x.2.2 ≤ 3 → (g x).2 = false → (g x).1 ≤ 3) (hk : ∃ τ, iter f NF (mk 0 L.length σ) = some (fin (L.length - (updL g L).length) τ) ∧ Eqo XD σ τ ∧ τ.1 13 34 1 = nI (updL g L).length ∧ CRf (xf τ) (updL g L)) : ∃ τ, iter f NF (mk 0 L.length σ) = some (fin (L.length - (updL g L).length) τ) ∧ Eqo XD σ τ ∧ RXV τ n i c s p o (updL g L) := by
  obtain ⟨τ, e, hE, h1, hc⟩ := hk
  exact ⟨τ, e, hE, h.newL hE h1 hc (h.wl.up g (fun x hx q => hg x hx (h.wl.2 x hx).2.2.2 q)) (h.inn.up g)⟩
/-- k + 1 - 1, as an int that may be below zero -/
def pI (j : Nat) : Int32 := nI j + (-1)
theorem pI_s (k : Nat) : pI (k + 1) = nI k := pk_m1 k
theorem pI_0 : pI 0 < 0 := by decide
theorem pI_sub {j : Nat} : nI j - 1 = pI j := Int32.sub_eq_add_neg (a := nI j) (b := 1)
theorem xdropsAll0 (h1 : σ.1 13 34 1 = nI L.length) (hc : CRf (xf σ) L) (h24 : L.length ≤ 24) (hw : ∀ x ∈ L, x.1 < 8 ∧ x.2.1 < 8) {l : Nat} (hl : l < 8) : ∃ τ, X12_dropsAll σ (nI l) = some (nI (cnt L l), τ) ∧ Eqo XD σ τ ∧ τ.1 13 34 1 = nI (updL (gC l) L).length ∧ CRf (xf τ) (updL (gC l) L) := by
  have hml := xmark_loop (σ := σ) (L := L) (gC l) (f := X12_dropsAll_l11b (nI l)) (fun m j υ => (nI m, pI j, υ)) (fun m υ => (nI m, υ)) h1 hc h24 (fun k x υ m M hx hk hE hcell hm => by
    obtain ⟨hx0, hx1⟩ := hw x (List.mem_of_getElem? hx)
    have ho : X12_isOf υ (nI k) (nI l) = some (if qO l x = true then 1 else 0) := by
      unfold X12_isOf X12_isOf_j0 X12_isOf_j26
      rw [ckO (by omega), Option.bind_some, hcell.1, ckU (by omega), Option.bind_some, hcell.2.1]
      by_cases a : x.1 = l
      · have hq : qO l x = true := by simp [qO, a]
        rw [eq_t a, if_pos hq]
      · rw [eq_f a (by omega) (by omega)]
        by_cases b : x.2.1 = l
        · have hq : qO l x = true := by simp [qO, b]
          rw [eq_t b, if_pos hq]
        · have hq : ¬ qO l x = true := by simp [qO, a, b]
          rw [eq_f b (by omega) (by omega), if_neg hq]
    by_cases q : qO l x = true
    · left
      refine ⟨q, ?_⟩
      show X12_dropsAll_l11c υ (nI l) (nI m) (pI (k + 1)) = _
      unfold X12_dropsAll_l11c X12_dropsAll_j35
      rw [pI_s, if_neg (nI_pos (by omega)), ho, Option.bind_some, if_pos q, if_neg neg1_0]
      cases X12_drops υ (nI k) with
      | none => rfl
      | some τ => rw [Option.bind_some, Option.bind_some, nI_1]; rfl
    · right
      right
      left
      refine ⟨Bool.eq_false_iff.mpr q, rfl, ?_⟩
      show X12_dropsAll_l11c υ (nI l) (nI m) (pI (k + 1)) = _
      unfold X12_dropsAll_l11c X12_dropsAll_j35
      rw [pI_s, if_neg (nI_pos (by omega)), ho, Option.bind_some, if_neg q, if_pos rfl]
      rfl) (fun m υ hE => by
    show X12_dropsAll_l11c υ (nI l) (nI m) (pI 0) = _
    unfold X12_dropsAll_l11c
    rw [if_pos pI_0])
  obtain ⟨τ, e, hE, hR⟩ := hml
  have hlen := updC_len l L
  refine ⟨τ, ?_, hE, hR⟩
  have e2 : L.length - (updL (gC l) L).length = cnt L l := by omega
  rw [e2] at e
  unfold X12_dropsAll X12_dropsAll_j0 X12_dropsAll_l11
  rw [ck1, Option.bind_some, h1, pI_sub, Option.bind_some]
  have e' : iter (X12_dropsAll_l11b (nI l)) NF (0, pI L.length, σ) = some (nI (cnt L l), τ) := e
  rw [e', Option.bind_some]
theorem xdropsAll (hn : n ≤ 8) (h : RXV σ n i c s p o L) {l : Nat} (hl : l < 8) : ∃ τ, X12_dropsAll σ (nI l) = some (nI (cnt L l), τ) ∧ Eqo XD σ τ ∧ RXV τ n i c s p o (updL (gC l) L) := by
  obtain ⟨τ, e, hE, g1, g2⟩ := xdropsAll0 h.len h.cr h.l24 (fun x hx => ⟨Nat.lt_of_lt_of_le (h.wl.2 x hx).1 hn, Nat.lt_of_lt_of_le (h.wl.2 x hx).2.1 hn⟩) hl
  exact ⟨τ, e, hE, h.newL hE g1 g2 (h.wl.up (gC l) (fun x hx _ => (h.wl.2 x hx).2.2.2)) (h.inn.up _)⟩
theorem xloosensOnce (h : RXV σ n i c s p o L) : ∃ τ, X12_loosensOnce σ = some (nI L.length, τ) ∧ Eqo XC σ τ ∧ RXV τ n i c (s + nI L.length) p o (updL gL L) := by
  have h24 := h.l24
  have h' := h.setS (s + nI L.length)
  have hE' : Eqo XC σ (wI σ 13 34 5 (s + nI L.length)) := Eqo.wI (by unfold XC; omega)
  have e0 : X12_loosensOnce σ = X12_loosensOnce_l21 (wI σ 13 34 5 (s + nI L.length)) (nI L.length) (pI L.length) := by
    unfold X12_loosensOnce X12_loosensOnce_j0
    rw [ck1, Option.bind_some, h.len, Option.bind_some, ck5, Option.bind_some, Option.bind_some, h.sec, Option.bind_some, pI_sub, Option.bind_some]
  rw [e0]
  generalize wI σ 13 34 5 (s + nI L.length) = υ0 at h' hE'
  have hml := xmark_loop (σ := υ0) (L := L) gL (f := X12_loosensOnce_l21b (nI L.length)) (fun _ j υ => (pI j, υ)) (fun _ υ => υ) h'.len h'.cr h24 (fun k x υ m M hx hk hE hcell hm => by
    obtain ⟨-, -, hx0, hx1, -, hx3, -⟩ := h'.x hx
    have e1 : X12_loosensOnce_l21b (nI L.length) (pI (k + 1), υ) = X12_loosensOnce_l21c υ (nI L.length) (pI (k + 1)) := rfl
    rw [e1]
    unfold X12_loosensOnce_l21c X12_loosensOnce_j71
    rw [pI_s, if_neg (nI_pos (by omega)), ckS (by omega), Option.bind_some, hcell.2.2]
    by_cases z : x.2.2 = 0
    · left
      refine ⟨by unfold gL; simp [z], ?_⟩
      rw [ez_t z]
      cases X12_drops υ (nI k) with
      | none => rfl
      | some τ => rfl
    · rw [ez_f (Nat.pos_of_ne_zero z) (by omega)]
      by_cases y : x.2.2 = 3
      · right
        right
        left
        refine ⟨by unfold gL; simp [y], by unfold gL; simp [y], ?_⟩
        rw [Option.bind_some, hcell.2.2, if_pos (by rw [y]; decide)]
        rfl
      · right
        left
        refine ⟨by unfold gL; simp [z], ?_⟩
        rw [Option.bind_some, hcell.2.2, if_neg (show ¬ (3 : Int32) ≤ nI x.2.2 from nI_ge (a := x.2.2) (b := 3) (by omega) (by decide)), Option.bind_some, Option.bind_some, hcell.2.2, nI_sub1 (Nat.pos_of_ne_zero z), Option.bind_some]
        unfold gL
        rw [if_neg y]
        rfl) (fun m υ hE => by
    show X12_loosensOnce_l21c υ (nI L.length) (pI 0) = _
    unfold X12_loosensOnce_l21c
    rw [if_pos pI_0])
  obtain ⟨τ, e, hE, hR⟩ := xloop0 (mk := fun _ j υ => (pI j, υ)) (fin := fun _ υ => υ) (f := X12_loosensOnce_l21b (nI L.length)) h' gL (fun x _ q _ => by
    unfold gL
    simp only
    split <;> omega) hml
  refine ⟨τ, ?_, hE'.tr (XD_XC hE), hR⟩
  unfold X12_loosensOnce_l21
  have e' : iter (X12_loosensOnce_l21b (nI L.length)) NF (pI L.length, υ0) = some τ := e
  rw [e', Option.bind_some]
end D2
