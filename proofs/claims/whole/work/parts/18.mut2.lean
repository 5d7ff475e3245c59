/-! ===== the class: what changes a drawer ===== -/
def mkg (g : X3 → Nat × Bool) (x : X3) : X4g := ((x.1, x.2.1, (g x).1), (g x).2)
def valg (g : X3 → Nat × Bool) (x : X3) : Int32 := if (g x).2 = true then -nI 1 else nI (g x).1
def updL (g : X3 → Nat × Bool) (L : List X3) : List X3 := res (L.map (mkg g))
def FC (d : Nat) : Nat → Nat → Nat → Prop := fun k n j => CC d k n j ∨ (k = 0 ∧ n = d ∧ j = 6)
section C3
variable {σ : SS} {d n nk i c : Nat} {s p o : Int32} {nu : Nat → Nat → Nat} {lo : Nat → Nat} {L : List X3}
theorem mark_loop (hd : d < 5) (g : X3 → Nat × Bool) (hL : L.length ≤ 24) (hc : CRf (cf σ d) L) {f : Int32 × SS → Option ((Int32 × SS) ⊕ SS)} (hs : ∀ k x υ, L[k]? = some x → k < L.length → Eqo (CC d) σ υ → υ.1 13 (4 * d + 2) (24 * 0 + k) = nI x.1 → υ.1 13 (4 * d + 2) (24 * 1 + k) = nI x.2.1 → υ.1 13 (4 * d + 2) (24 * 2 + k) = nI x.2.2 → f (nI k, υ) = some (Sum.inl (nI (k + 1), wI υ 13 (4 * d + 2) (24 * 2 + k) (valg g x))) ∨ (f (nI k, υ) = some (Sum.inl (nI (k + 1), υ)) ∧ valg g x = nI x.2.2)) (he : ∀ υ, Eqo (CC d) σ υ → f (nI L.length, υ) = some (Sum.inr υ)) : ∃ τ, iter f NF (0, σ) = some τ ∧ Eqo (CC d) σ τ ∧ CRm (cf τ d) (L.map (mkg g)) := by
  refine iter_upto (fun k (st : Int32 × SS) => k ≤ L.length ∧ st.1 = nI k ∧ Eqo (CC d) σ st.2 ∧ ∀ j x, L[j]? = some x → st.2.1 13 (4 * d + 2) (24 * 0 + j) = nI x.1 ∧ st.2.1 13 (4 * d + 2) (24 * 1 + j) = nI x.2.1 ∧ st.2.1 13 (4 * d + 2) (24 * 2 + j) = if j < k then valg g x else nI x.2.2) L.length (fun t => Eqo (CC d) σ t ∧ CRm (cf t d) (L.map (mkg g))) (fun k st hk hI => ?_) (fun st hI => ?_) ⟨Nat.zero_le _, rfl, Eqo.rf _ _, fun j x hx => ?_⟩ (by omega)
  · left
    obtain ⟨x1, υ⟩ := st
    obtain ⟨hkl, h1, hE, hC⟩ := hI
    simp only at h1 hE hC
    subst h1
    obtain ⟨x, hx⟩ : ∃ x, L[k]? = some x := ⟨L[k], List.getElem?_eq_getElem hk⟩
    obtain ⟨c0, c1, c2⟩ := hC k x hx
    rw [if_neg (Nat.lt_irrefl k)] at c2
    rcases hs k x υ hx hk hE c0 c1 c2 with e | ⟨e, hv⟩
    · refine ⟨_, e, hk, rfl, hE.tr (Eqo.wI ⟨rfl, rfl⟩), fun j y hy => ?_⟩
      obtain ⟨d0, d1, d2⟩ := hC j y hy
      have hj : j < L.length := (List.getElem?_eq_some_iff.mp hy).1
      by_cases hjk : j = k
      · subst hjk
        rw [hx] at hy
        cases hy
        simp (disch := omega) only [wI_ne, wI_eq, c0, c1, if_pos]
        exact ⟨trivial, trivial, trivial⟩
      · simp (disch := omega) only [wI_ne, d0, d1, d2]
        refine ⟨trivial, trivial, ?_⟩
        by_cases hlt : j < k
        · rw [if_pos hlt, if_pos (by omega)]
        · rw [if_neg hlt, if_neg (by omega)]
    · refine ⟨_, e, hk, rfl, hE, fun j y hy => ?_⟩
      obtain ⟨d0, d1, d2⟩ := hC j y hy
      refine ⟨d0, d1, d2.trans ?_⟩
      by_cases hjk : j = k
      · subst hjk
        rw [hx] at hy
        cases hy
        rw [if_neg (Nat.lt_irrefl j), if_pos (by omega), hv]
      · by_cases hlt : j < k
        · rw [if_pos hlt, if_pos (by omega)]
        · rw [if_neg hlt, if_neg (by omega)]
  · obtain ⟨x1, υ⟩ := st
    obtain ⟨hkl, h1, hE, hC⟩ := hI
    simp only at h1 hE hC
    subst h1
    refine ⟨υ, he υ hE, hE, fun k x hx => ?_⟩
    rw [List.getElem?_map] at hx
    cases hk : L[k]? with
    | none => rw [hk] at hx; cases hx
    | some y =>
      rw [hk] at hx
      cases hx
      obtain ⟨d0, d1, d2⟩ := hC k y hk
      rw [if_pos (List.getElem?_eq_some_iff.mp hk).1] at d2
      exact ⟨d0, d1, d2⟩
  · obtain ⟨c0, c1, c2⟩ := hc j x hx
    rw [if_neg (Nat.not_lt_zero _)]
    exact ⟨c0, c1, c2⟩
theorem RV.cr (h : RV σ d n i c s p o L) : CRf (cf σ d) L := h.2.2.2.2.2.2.1
theorem RV.wl (h : RV σ d n i c s p o L) : wfL n L := h.2.2.2.2.2.2.2.2
theorem RV.sec (h : RV σ d n i c s p o L) : σ.1 0 d 10 = s := h.2.2.2.1
theorem RV.pen (h : RV σ d n i c s p o L) : σ.1 0 d 11 = p := h.2.2.2.2.1
theorem RV.opn (h : RV σ d n i c s p o L) : σ.1 0 d 12 = o := h.2.2.2.2.2.1
/-- the crossings are others -/
theorem RV.newL {τ : SS} {L' : List X3} (h : RV σ d n i c s p o L) (hE : Eqo (FC d) σ τ) (h6 : τ.1 0 d 6 = nI L'.length) (hc : CRf (cf τ d) L') (hw : wfL n L') : RV τ d n i c s p o L' := by
  obtain ⟨h1, h2, ⟨r, h3, h4, h5⟩, h6', h7, h8, h9, h10, h11⟩ := h
  have e : ∀ j, j ≠ 6 → τ.1 0 d j = σ.1 0 d j := fun j q => hE.1 0 d j (by unfold FC CC; omega)
  refine ⟨h6, ?_, ⟨r, h3, ?_, h5⟩, ?_, ?_, ?_, hc, h10, hw⟩
  · rw [e _ (by omega)]; exact h2
  · rw [e _ (by omega)]; exact h4
  · rw [e _ (by omega)]; exact h6'
  · rw [e _ (by omega)]; exact h7
  · rw [e _ (by omega)]; exact h8
theorem RV.wr {τ : SS} (h : RV σ d n i c s p o L) {i' c' : Nat} {s' p' o' : Int32} (e1 : τ.1 13 = σ.1 13) (e6 : τ.1 0 d 6 = σ.1 0 d 6) (e8 : τ.1 0 d 8 = nI i') (e9 : ∃ r, r < 256 ∧ τ.1 0 d 9 = nI r ∧ r &&& i' = c') (e10 : τ.1 0 d 10 = s') (e11 : τ.1 0 d 11 = p') (e12 : τ.1 0 d 12 = o') (hi : i' < 2 ^ n) : RV τ d n i' c' s' p' o' L := by
  refine ⟨e6.trans h.1, e8, e9, e10, e11, e12, ?_, hi, h.wl⟩
  intro k x hx
  have := h.cr k x hx
  unfold cf at this
  rw [e1]
  exact this
theorem wfL.up (h : wfL n L) (g : X3 → Nat × Bool) (hg : ∀ x ∈ L, (g x).2 = false → (g x).1 ≤ 3) : wfL n (updL g L) := by
  refine ⟨Nat.le_trans (res_len _) (by rw [List.length_map]; exact h.1), fun x hx => ?_⟩
  unfold updL res at hx
  obtain ⟨y, hy, rfl⟩ := List.mem_map.mp hx
  obtain ⟨hy1, hy2⟩ := List.mem_filter.mp hy
  obtain ⟨z, hz, rfl⟩ := List.mem_map.mp hy1
  have := h.2 z hz
  refine ⟨this.1, this.2.1, this.2.2.1, hg z hz ?_⟩
  simpa [mkg] using hy2
theorem RV.setS (h : RV σ d n i c s p o L) (x : Int32) : RV (wI σ 0 d 10 x) d n i c x p o L := by
  refine h.wr rfl ?_ ?_ ?_ ?_ ?_ ?_ h.ilt
  · exact wI_ne _ _ (by omega)
  · rw [wI_ne _ _ (by omega)]; exact h.ins
  · rw [wI_ne _ _ (by omega)]; exact h.raw
  · exact wI_eq _ _ _ _ _
  · rw [wI_ne _ _ (by omega)]; exact h.pen
  · rw [wI_ne _ _ (by omega)]; exact h.opn
theorem RV.setP (h : RV σ d n i c s p o L) (x : Int32) : RV (wI σ 0 d 11 x) d n i c s x o L := by
  refine h.wr rfl ?_ ?_ ?_ ?_ ?_ ?_ h.ilt
  · exact wI_ne _ _ (by omega)
  · rw [wI_ne _ _ (by omega)]; exact h.ins
  · rw [wI_ne _ _ (by omega)]; exact h.raw
  · rw [wI_ne _ _ (by omega)]; exact h.sec
  · exact wI_eq _ _ _ _ _
  · rw [wI_ne _ _ (by omega)]; exact h.opn
theorem RV.setO (h : RV σ d n i c s p o L) (x : Int32) : RV (wI σ 0 d 12 x) d n i c s p x L := by
  refine h.wr rfl ?_ ?_ ?_ ?_ ?_ ?_ h.ilt
  · exact wI_ne _ _ (by omega)
  · rw [wI_ne _ _ (by omega)]; exact h.ins
  · rw [wI_ne _ _ (by omega)]; exact h.raw
  · rw [wI_ne _ _ (by omega)]; exact h.sec
  · rw [wI_ne _ _ (by omega)]; exact h.pen
  · exact wI_eq _ _ _ _ _
/-- loosening -/
def gL (x : X3) : Nat × Bool := (if x.2.2 = 3 then 3 else x.2.2 - 1, x.2.2 == 0)
def gP (l : Nat) (a : Bool) (x : X3) : Nat × Bool := if qO l x = true then (if a = true ∨ x.2.2 = 0 then (0, true) else (min 3 (x.2.2 + 1), false)) else (x.2.2, false)
def gC (l : Nat) (x : X3) : Nat × Bool := (x.2.2, qO l x)
theorem finish {f : Int32 × SS → Option ((Int32 × SS) ⊕ SS)} (hd : d < 5) (h : RV σ d n i c s p o L) (g : X3 → Nat × Bool) (hg : ∀ x ∈ L, x.2.2 ≤ 3 → (g x).1 ≤ 3) (hk : ∃ τ, iter f NF (0, σ) = some τ ∧ Eqo (CC d) σ τ ∧ CRm (cf τ d) (L.map (mkg g))) : ∃ τ υ, iter f NF (0, σ) = some τ ∧ X0_sweep τ d = some υ ∧ Eqo (FC d) σ υ ∧ RV υ d n i c s p o (updL g L) := by
  obtain ⟨τ, e, hE, hC⟩ := hk
  have h24 := h.l24
  have hlen : (L.map (mkg g)).length = L.length := List.length_map _
  have h6 : τ.1 0 d 6 = nI (L.map (mkg g)).length := by
    rw [hE.at1 (by unfold CC; omega), hlen]; exact h.len
  obtain ⟨υ, e2, hE2, h62, hC2⟩ := sweep_ok hd (by omega) h6 (fun x hx => by
    obtain ⟨y, hy, rfl⟩ := List.mem_map.mp hx
    exact hg y hy (h.wl.2 y hy).2.2.2) hC
  have hE3 : Eqo (FC d) σ υ := (hE.mono (fun _ _ _ q => Or.inl q)).tr hE2
  exact ⟨τ, υ, e, e2, hE3, h.newL hE3 h62 hC2 (h.wl.up g (fun x hx _ => hg x hx (h.wl.2 x hx).2.2.2))⟩
theorem loosenOnce_ok (hd : d < 5) (h : RV σ d n i c s p o L) : ∃ υ, X0_loosenOnce σ d = some (nI L.length, υ) ∧ Eqo (VC d) σ υ ∧ RV υ d n i c (s + nI L.length) p o (updL gL L) := by
  have h24 := h.l24
  obtain ⟨τ, υ, e1, e2, hE, hR⟩ := finish hd h gL (fun x _ q => by
    unfold gL
    simp only
    split <;> omega) (mark_loop hd gL h24 h.cr (f := X0_loosenOnce_l7b d (nI L.length)) (fun k x ω hx hk hE c0 c1 c2 => by
      have hx3 := (h.x hx).2.2.2.2.2.1
      have hL6 : ω.1 0 d 6 = nI L.length := by rw [hE.at1 (by unfold CC; omega)]; exact h.len
      left
      unfold X0_loosenOnce_l7b X0_loosenOnce_l7c X0_stateAfter X0_stateAfter_j0
      by_cases z : x.2.2 = 3
      · simp (disch := omega) only [lits, le_t, le_f, lt_t, lt_f, eq_t, eq_f, em_f, me_f, nI_add, nI_subN, pk_mul, Option.bind_some, ck_nI, lens, wI_eq, wI_ne, if_true, if_false, ite_true, ite_false, eq_self, Bool.false_eq_true, Nat.zero_add, Nat.add_zero, hL6, cr_at hd, cr_put hd, c2, z, valg, gL, beq_iff_eq, (by decide : ¬ 3 = 0)]
      · by_cases y : x.2.2 = 0
        · simp (disch := omega) only [lits, le_t, le_f, lt_t, lt_f, eq_t, eq_f, em_f, me_f, nI_add, nI_subN, pk_mul, Option.bind_some, ck_nI, lens, wI_eq, wI_ne, if_true, if_false, ite_true, ite_false, eq_self, Bool.false_eq_true, Nat.zero_add, Nat.add_zero, hL6, cr_at hd, cr_put hd, c2, z, y, valg, gL, beq_self_eq_true]
          rfl
        · simp (disch := omega) only [lits, le_t, le_f, lt_t, lt_f, eq_t, eq_f, em_f, me_f, nI_add, nI_subN, pk_mul, Option.bind_some, ck_nI, lens, wI_eq, wI_ne, if_true, if_false, ite_true, ite_false, eq_self, Bool.false_eq_true, Nat.zero_add, Nat.add_zero, hL6, cr_at hd, cr_put hd, c2, z, y, valg, gL, beq_iff_eq]) (fun ω hE => by
      have hL6 : ω.1 0 d 6 = nI L.length := by rw [hE.at1 (by unfold CC; omega)]; exact h.len
      unfold X0_loosenOnce_l7b X0_loosenOnce_l7c
      simp (disch := omega) only [lits, le_t, le_f, lt_t, lt_f, eq_t, eq_f, em_f, me_f, nI_add, nI_subN, pk_mul, Option.bind_some, ck_nI, lens, wI_eq, wI_ne, if_true, if_false, ite_true, ite_false, eq_self, Bool.false_eq_true, Nat.zero_add, Nat.add_zero, hL6]))
  refine ⟨wI υ 0 d 10 (s + nI L.length), ?_, ?_, hR.setS _⟩
  · unfold X0_loosenOnce X0_loosenOnce_j0 X0_loosenOnce_l7
    simp only [h.len, Option.bind_some, e1, e2, hR.sec]
  · exact (hE.mono (fun k n j q => by unfold FC CC at q; unfold VC; omega)).tr (Eqo.wI (by unfold VC; omega))
theorem pullAt_ok (hd : d < 5) (hn : n ≤ 8) (h : RV σ d n i c s p o L) {l : Nat} (hl : l < 8) (a : Bool) : ∃ υ, X0_pullAt σ d (nI l) (if a = true then 1 else 0) = some υ ∧ Eqo (VC d) σ υ ∧ RV υ d n i c (s + nI 2) p o (updL (gP l a) L) := by
  have h24 := h.l24
  obtain ⟨τ, υ, e1, e2, hE, hR⟩ := finish hd h (gP l a) (fun x _ q => by
    unfold gP
    split
    · split
      · exact Nat.zero_le _
      · exact Nat.min_le_left _ _
    · exact q) (mark_loop hd (gP l a) h24 h.cr (f := X0_pullAt_l2b d (nI l) (if a = true then 1 else 0)) (fun k x ω hx hk hE c0 c1 c2 => by
      obtain ⟨-, -, hx0, hx1, -, hx3, -⟩ := h.x hx
      have hL6 : ω.1 0 d 6 = nI L.length := by rw [hE.at1 (by unfold CC; omega)]; exact h.len
      have ho := otherAt_c (σ := ω) hd (by omega) (Nat.lt_of_lt_of_le hx0 hn) (Nat.lt_of_lt_of_le hx1 hn) c0 c1 hl
      have hol := oth_lt (l := l) hx0 hx1
      unfold X0_pullAt_l2b X0_pullAt_l2c X0_pullAt_j36 X0_pullAt_j41 X0_pullAt_j66 X0_pullAt_j69 X0_stateAt X0_stateAt_j0
      by_cases q : qO l x = true
      · left
        by_cases z : x.2.2 = 0
        · cases a
          · simp (disch := omega) only [lits, le_t, le_f, lt_t, lt_f, eq_t, eq_f, em_f, me_f, nI_add, nI_subN, pk_mul, Option.bind_some, ck_nI, lens, wI_eq, wI_ne, if_true, if_false, ite_true, ite_false, eq_self, Bool.false_eq_true, Nat.zero_add, Nat.add_zero, hL6, cr_at hd, cr_put hd, ho, q, z, c2, valg, gP, or_true, true_or, neg1_0]
          · simp (disch := omega) only [lits, le_t, le_f, lt_t, lt_f, eq_t, eq_f, em_f, me_f, nI_add, nI_subN, pk_mul, Option.bind_some, ck_nI, lens, wI_eq, wI_ne, if_true, if_false, ite_true, ite_false, eq_self, Bool.false_eq_true, Nat.zero_add, Nat.add_zero, hL6, cr_at hd, cr_put hd, ho, q, z, c2, valg, gP, or_true, true_or, neg1_0]
        · cases a
          · simp (disch := omega) only [lits, le_t, le_f, lt_t, lt_f, eq_t, eq_f, em_f, me_f, nI_add, nI_subN, pk_mul, Option.bind_some, ck_nI, lens, wI_eq, wI_ne, if_true, if_false, ite_true, ite_false, eq_self, Bool.false_eq_true, Nat.zero_add, Nat.add_zero, hL6, cr_at hd, cr_put hd, ho, q, z, c2, valg, gP, or_false, false_or, neg1_0, imin_nI]
          · simp (disch := omega) only [lits, le_t, le_f, lt_t, lt_f, eq_t, eq_f, em_f, me_f, nI_add, nI_subN, pk_mul, Option.bind_some, ck_nI, lens, wI_eq, wI_ne, if_true, if_false, ite_true, ite_false, eq_self, Bool.false_eq_true, Nat.zero_add, Nat.add_zero, hL6, cr_at hd, cr_put hd, ho, q, z, c2, valg, gP, or_true, true_or, neg1_0]
      · right
        refine ⟨?_, ?_⟩
        · simp (disch := omega) only [lits, le_t, le_f, lt_t, lt_f, eq_t, eq_f, em_f, me_f, nI_add, nI_subN, pk_mul, Option.bind_some, ck_nI, lens, wI_eq, wI_ne, if_true, if_false, ite_true, ite_false, eq_self, Bool.false_eq_true, Nat.zero_add, Nat.add_zero, hL6, ho, q]
        · simp (disch := omega) only [lits, le_t, le_f, lt_t, lt_f, eq_t, eq_f, em_f, me_f, nI_add, nI_subN, pk_mul, Option.bind_some, ck_nI, lens, wI_eq, wI_ne, if_true, if_false, ite_true, ite_false, eq_self, Bool.false_eq_true, Nat.zero_add, Nat.add_zero, valg, gP, q]) (fun ω hE => by
      have hL6 : ω.1 0 d 6 = nI L.length := by rw [hE.at1 (by unfold CC; omega)]; exact h.len
      unfold X0_pullAt_l2b X0_pullAt_l2c
      simp (disch := omega) only [lits, le_t, le_f, lt_t, lt_f, eq_t, eq_f, em_f, me_f, nI_add, nI_subN, pk_mul, Option.bind_some, ck_nI, lens, wI_eq, wI_ne, if_true, if_false, ite_true, ite_false, eq_self, Bool.false_eq_true, Nat.zero_add, Nat.add_zero, hL6]))
  refine ⟨wI υ 0 d 10 (s + nI 2), ?_, ?_, hR.setS _⟩
  · unfold X0_pullAt X0_pullAt_j0 X0_pullAt_l2
    simp only [Option.bind_some, e1, e2, hR.sec]
    rfl
  · exact (hE.mono (fun k n j q => by unfold FC CC at q; unfold VC; omega)).tr (Eqo.wI (by unfold VC; omega))
theorem cutOff_ok (hd : d < 5) (hs : RS σ d n nk nu lo) (h : RV σ d n i c s p o L) {l : Nat} (hl : l < n) : ∃ υ, X0_cutOff σ d (nI l) = some (nI (cnt L l), υ) ∧ Eqo (VC d) σ υ ∧ RV υ d n (i &&& (255 ^^^ 2 ^ l)) (c &&& (255 ^^^ 2 ^ l)) s (p + nI (nu 4 l)) o (updL (gC l) L) := by
  have h24 := h.l24
  have h8 := hs.n8
  have hi := p256 h8 h.ilt
  obtain ⟨τ, υ, e1, e2, hE, hR⟩ := finish hd h (gC l) (fun x _ q => q) (mark_loop hd (gC l) h24 h.cr (f := X0_cutOff_l7b d (nI l) (nI L.length)) (fun k x ω hx hk hE c0 c1 c2 => by
      obtain ⟨-, -, hx0, hx1, -, hx3, -⟩ := h.x hx
      have hL6 : ω.1 0 d 6 = nI L.length := by rw [hE.at1 (by unfold CC; omega)]; exact h.len
      have ho := otherAt_c (σ := ω) hd (by omega) (Nat.lt_of_lt_of_le hx0 h8) (Nat.lt_of_lt_of_le hx1 h8) c0 c1 (Nat.lt_of_lt_of_le hl h8)
      have hol := oth_lt (l := l) hx0 hx1
      unfold X0_cutOff_l7b X0_cutOff_l7c X0_cutOff_j35
      by_cases q : qO l x = true
      · left
        simp (disch := omega) only [lits, le_t, le_f, lt_t, lt_f, eq_t, eq_f, em_f, me_f, nI_add, nI_subN, pk_mul, Option.bind_some, ck_nI, lens, wI_eq, wI_ne, if_true, if_false, ite_true, ite_false, eq_self, Bool.false_eq_true, Nat.zero_add, Nat.add_zero, hL6, cr_at hd, cr_put hd, ho, q, c2, valg, gC]
      · right
        refine ⟨?_, ?_⟩
        · simp (disch := omega) only [lits, le_t, le_f, lt_t, lt_f, eq_t, eq_f, em_f, me_f, nI_add, nI_subN, pk_mul, Option.bind_some, ck_nI, lens, wI_eq, wI_ne, if_true, if_false, ite_true, ite_false, eq_self, Bool.false_eq_true, Nat.zero_add, Nat.add_zero, hL6, ho, q]
        · simp (disch := omega) only [lits, le_t, le_f, lt_t, lt_f, eq_t, eq_f, em_f, me_f, nI_add, nI_subN, pk_mul, Option.bind_some, ck_nI, lens, wI_eq, wI_ne, if_true, if_false, ite_true, ite_false, eq_self, Bool.false_eq_true, Nat.zero_add, Nat.add_zero, valg, gC, q]) (fun ω hE => by
      have hL6 : ω.1 0 d 6 = nI L.length := by rw [hE.at1 (by unfold CC; omega)]; exact h.len
      unfold X0_cutOff_l7b X0_cutOff_l7c
      simp (disch := omega) only [lits, le_t, le_f, lt_t, lt_f, eq_t, eq_f, em_f, me_f, nI_add, nI_subN, pk_mul, Option.bind_some, ck_nI, lens, wI_eq, wI_ne, if_true, if_false, ite_true, ite_false, eq_self, Bool.false_eq_true, Nat.zero_add, Nat.add_zero, hL6]))
  have hs2 : RS υ d n nk nu lo := hs.keep hE (fun k m j q => by unfold FC CC at q; omega)
  have hsP : RS (wI υ 0 d 11 (p + nI (nu 4 l))) d n nk nu lo := hs2.keep (P := fun k m j => k = 0 ∧ m = d ∧ j = 11) (Eqo.wI ⟨rfl, rfl, rfl⟩) (fun k m j q => by omega)
  have hRP := hR.setP (p + nI (nu 4 l))
  have h4 := hs2.2.2.1 4 l (by decide) hl
  obtain ⟨r, hr, er, hrc⟩ := hRP.raw
  have hlen : (updL (gC l) L).length + cnt L l = L.length := by
    unfold updL res cnt
    rw [List.length_map, ← List.countP_eq_length_filter, List.countP_map, List.length_eq_countP_add_countP (qO l), Nat.add_comm]
    congr 1
    apply List.countP_congr
    intro x _
    simp [mkg, gC]
  refine ⟨wI (wI υ 0 d 11 (p + nI (nu 4 l))) 0 d 8 (nI (i &&& (255 ^^^ 2 ^ l))), ?_, ?_, ?_⟩
  · rw [l0] at e1
    unfold X0_cutOff X0_cutOff_j0 X0_cutOff_l7 X0_cutOff_j88
    have hsh : nI 1 <<< (nI l &&& nI 31) = nI (2 ^ l) := hsh (by omega)
    simp (disch := omega) only [lits, le_t, le_f, lt_t, lt_f, eq_t, eq_f, em_f, me_f, nI_add, nI_subN, pk_mul, Option.bind_some, ck_nI, lens, wI_eq, wI_ne, if_true, if_false, ite_true, ite_false, eq_self, Bool.false_eq_true, Nat.zero_add, Nat.add_zero, h.len, e1, e2, hR.sec, hR.pen, nu_at hd, h4, has_in hsP hl, neg1_0, hR.ins, hRP.ins, hsh, nI_andn hi, hRP.len]
    have e3 : L.length - (updL (gC l) L).length = cnt L l := by omega
    rw [hR.len, nI_subN (by omega), e3]
  · exact ((hE.mono (fun k n j q => by unfold FC CC at q; unfold VC; omega)).tr (Eqo.wI (by unfold VC; omega))).tr (Eqo.wI (by unfold VC; omega))
  · refine hRP.wr rfl ?_ ?_ ?_ ?_ ?_ ?_ ?_
    · exact wI_ne _ _ (by omega)
    · exact wI_eq _ _ _ _ _
    · refine ⟨r, hr, ?_, ?_⟩
      · rw [wI_ne _ _ (by omega)]; exact er
      · rw [← hrc, Nat.and_assoc]
    · rw [wI_ne _ _ (by omega)]; exact hRP.sec
    · rw [wI_ne _ _ (by omega)]; exact hRP.pen
    · rw [wI_ne _ _ (by omega)]; exact hRP.opn
    · exact Nat.lt_of_le_of_lt Nat.and_le_left h.ilt
/-- undoing one -/
def sUndo (st : Nat) : Nat := if st = 0 then 1 else if st = 1 then 3 else if st = 2 then 6 else 15
def costC (nu : Nat → Nat → Nat) (l : Nat) (x : X3) : Nat := sUndo x.2.2 + nu 1 (oth l x)
theorem nth_some {l : Nat} : ∀ (L : List X3) (m b : Nat), m < cnt L l → ∃ k x, nth l L m b = some (b + k) ∧ L[k]? = some x ∧ qO l x = true := by
  intro L
  induction L with
  | nil => intro m b h; exact absurd h (Nat.not_lt_zero _)
  | cons x t ih =>
    intro m b h
    unfold cnt at h
    rw [List.countP_cons] at h
    unfold nth
    by_cases q : qO l x = true
    · rw [if_pos q] at h ⊢
      cases m with
      | zero => exact ⟨0, x, rfl, rfl, q⟩
      | succ m =>
        obtain ⟨k, y, e1, e2, e3⟩ := ih m (b + 1) (by unfold cnt; omega)
        exact ⟨k + 1, y, by rw [show b + (k + 1) = b + 1 + k by omega]; exact e1, e2, e3⟩
    · rw [if_neg q] at h ⊢
      obtain ⟨k, y, e1, e2, e3⟩ := ih m (b + 1) h
      exact ⟨k + 1, y, by rw [show b + (k + 1) = b + 1 + k by omega]; exact e1, e2, e3⟩
theorem nth_none {l : Nat} : ∀ (L : List X3) (m b : Nat), cnt L l ≤ m → nth l L m b = none := by
  intro L
  induction L with
  | nil => intro m b h; rfl
  | cons x t ih =>
    intro m b h
    unfold cnt at h
    rw [List.countP_cons] at h
    unfold nth
    by_cases q : qO l x = true
    · rw [if_pos q] at h ⊢
      cases m with
      | zero => omega
      | succ m => exact ih m (b + 1) (by unfold cnt; omega)
    · rw [if_neg q] at h ⊢
      exact ih m (b + 1) h
theorem res_false (L : List X3) : res (L.mapIdx (fun _ x => (x, false))) = L := by
  induction L with
  | nil => rfl
  | cons x t ih =>
    rw [List.mapIdx_cons]
    unfold res at ih ⊢
    simp only [List.filter_cons, Bool.not_false, if_true, List.map_cons]
    rw [ih]
theorem res_idx (L : List X3) (k : Nat) : res (L.mapIdx (fun j x => (x, j == k))) = L.eraseIdx k := by
  induction L generalizing k with
  | nil => rfl
  | cons x t ih =>
    rw [List.mapIdx_cons]
    cases k with
    | zero =>
      have e : (fun (j : Nat) (y : X3) => (y, j + 1 == 0)) = fun _ y => (y, false) := by
        funext j y
        simp
      rw [e, List.eraseIdx_cons_zero]
      have := res_false t
      unfold res at this ⊢
      simpa using this
    | succ k =>
      have e : (fun (j : Nat) (y : X3) => (y, j + 1 == k + 1)) = fun j y => (y, j == k) := by
        funext j y
        simp
      rw [e, List.eraseIdx_cons_succ, ← ih k]
      unfold res
      simp
theorem undoNearest_ok (hd : d < 5) (hs : RS σ d n nk nu lo) (h : RV σ d n i c s p o L) {l m : Nat} (hl : l < n) (e : Bool) (hm : m = if e = true then cnt L l - 1 else 0) (hc : 0 < cnt L l) : ∃ k x υ, nth l L m 0 = some k ∧ L[k]? = some x ∧ qO l x = true ∧ X0_undoNearest σ d (nI l) (if e = true then 1 else 0) = some (nI (costC nu l x), υ) ∧ Eqo (VC d) σ υ ∧ RV υ d n i c (s + nI (costC nu l x)) p o (L.eraseIdx k) := by
  have h24 := h.l24
  have h8 := hs.n8
  have hcl : cnt L l ≤ L.length := List.countP_le_length
  obtain ⟨k, x, e1, e2, e3⟩ := nth_some (l := l) L m 0 (by subst hm; cases e <;> simp <;> omega)
  rw [Nat.zero_add] at e1
  obtain ⟨hk, hkl, hx0, hx1, hxn, hx3, c0, c1, c2⟩ := h.x e2
  have hol := oth_lt (l := l) hx0 hx1
  have hco := crossingOn_ok hd h8 h (l := l) (m := m) (by omega) (by subst hm; cases e <;> simp <;> omega)
  rw [e1] at hco
  simp only at hco
  have hst := stateAt_ok hd h e2
  have hot := otherAt_ok hd h8 h e2 (l := l) (by omega)
  rw [if_pos e3] at hot
  have hnu := hs.2.2.1 1 (oth l x) (by decide) hol
  have hsec : X0_secondsToUndo σ d (nI x.2.2) (nI (oth l x)) = some (nI (costC nu l x)) := by
    unfold X0_secondsToUndo X0_secondsToUndo_j0 X0_secondsToUndo_j29 costC sUndo
    have : x.2.2 = 0 ∨ x.2.2 = 1 ∨ x.2.2 = 2 ∨ x.2.2 = 3 := by omega
    rcases this with z | z | z | z <;> rw [z] <;> simp (disch := omega) only [lits, le_t, le_f, lt_t, lt_f, eq_t, eq_f, em_f, me_f, nI_add, nI_subN, pk_mul, Option.bind_some, ck_nI, lens, wI_eq, wI_ne, if_true, if_false, ite_true, ite_false, eq_self, Bool.false_eq_true, Nat.zero_add, Nat.add_zero, nu_at hd, hnu, (by decide : ¬ 1 = 0), (by decide : ¬ 2 = 0), (by decide : ¬ 3 = 0), (by decide : ¬ 2 = 1), (by decide : ¬ 3 = 1), (by decide : ¬ 3 = 2)]
  have hE1 : Eqo (CC d) σ (wI σ 13 (4 * d + 2) (24 * 2 + k) (-nI 1)) := Eqo.wI ⟨rfl, rfl⟩
  have hlen : (L.mapIdx (fun j x => ((x, j == k) : X4g))).length = L.length := List.length_mapIdx
  obtain ⟨υ, e4, hE2, h62, hC2⟩ := sweep_ok (σ := wI σ 13 (4 * d + 2) (24 * 2 + k) (-nI 1)) hd (A := L.mapIdx (fun j x => (x, j == k))) (by omega) (by rw [hE1.at1 (by unfold CC; omega), hlen]; exact h.len) (fun y hy => by
    obtain ⟨j, hj, rfl⟩ := List.mem_mapIdx.mp hy
    exact (h.wl.2 _ (List.getElem_mem hj)).2.2.2) (fun j y hy => by
    rw [List.getElem?_mapIdx] at hy
    cases hj : L[j]? with
    | none => rw [hj] at hy; cases hy
    | some z =>
      rw [hj] at hy
      cases hy
      obtain ⟨hj4, hjl, -, -, -, -, g0, g1, g2⟩ := h.x hj
      unfold cf
      by_cases hjk : j = k
      · subst hjk
        simp (disch := omega) only [wI_ne, wI_eq, g0, g1, beq_self_eq_true, if_true]
        exact ⟨trivial, trivial, trivial⟩
      · have hb : (j == k) = false := by simp [hjk]
        simp (disch := omega) only [wI_ne, g0, g1, g2, hb, Bool.false_eq_true, if_false]
        exact ⟨trivial, trivial, trivial⟩)
  rw [res_idx] at h62 hC2
  have hE3 : Eqo (FC d) σ υ := (hE1.mono (fun _ _ _ q => Or.inl q)).tr hE2
  have hR := h.newL hE3 h62 hC2 ⟨Nat.le_trans (List.length_eraseIdx_le _ _) h24, fun y hy => h.wl.2 y (List.mem_of_mem_eraseIdx hy)⟩
  refine ⟨k, x, wI υ 0 d 10 (s + nI (costC nu l x)), e1, e2, e3, ?_, ?_, hR.setS _⟩
  · unfold X0_undoNearest X0_undoNearest_j0 X0_undoNearest_j17
    cases e
    · simp only [Bool.false_eq_true, if_false] at hm
      subst hm
      simp (disch := omega) only [lits, le_t, le_f, lt_t, lt_f, eq_t, eq_f, em_f, me_f, nI_add, nI_subN, pk_mul, Option.bind_some, ck_nI, lens, wI_eq, wI_ne, if_true, if_false, ite_true, ite_false, eq_self, Bool.false_eq_true, Nat.zero_add, Nat.add_zero, hco, hst, hot, hsec, cr_put hd, e4, hR.sec]
    · simp only [if_true] at hm
      subst hm
      simp (disch := omega) only [lits, le_t, le_f, lt_t, lt_f, eq_t, eq_f, em_f, me_f, nI_add, nI_subN, pk_mul, Option.bind_some, ck_nI, lens, wI_eq, wI_ne, if_true, if_false, ite_true, ite_false, eq_self, Bool.false_eq_true, Nat.zero_add, Nat.add_zero, hco, hst, hot, hsec, cr_put hd, e4, hR.sec, countOn_ok hd h8 h, neg1_0]
  · exact (hE3.mono (fun k n j q => by unfold FC CC at q; unfold VC; omega)).tr (Eqo.wI (by unfold VC; omega))
/-- one more crossing -/
theorem addCrossing_ok (hd : d < 5) (h : RV σ d n i c s p o L) (hl : L.length < 24) {a b w : Nat} (ha : a < n) (hb : b < n) (hab : a ≠ b) (hw : w ≤ 3) : ∃ υ, X0_addCrossing σ d (nI a) (nI b) (nI w) = some (1, υ) ∧ Eqo (VC d) σ υ ∧ RV υ d n i c s p o (L ++ [(a, b, w)]) := by
  let m := L.length
  let υ := wI (wI (wI (wI σ 13 (4 * d + 2) (24 * 0 + m) (nI a)) 13 (4 * d + 2) (24 * 1 + m) (nI b)) 13 (4 * d + 2) (24 * 2 + m) (nI w)) 0 d 6 (nI (m + 1))
  have hE : Eqo (FC d) σ υ := (((Eqo.wI (.inl ⟨rfl, rfl⟩)).tr (Eqo.wI (.inl ⟨rfl, rfl⟩))).tr (Eqo.wI (.inl ⟨rfl, rfl⟩))).tr (Eqo.wI (.inr ⟨rfl, rfl, rfl⟩))
  refine ⟨υ, ?_, hE.mono (fun k n j q => by unfold FC CC at q; unfold VC; omega), h.newL hE ?_ ?_ ?_⟩
  · unfold X0_addCrossing X0_addCrossing_j0 X0_isFull X0_isFull_j0
    simp (disch := omega) only [lits, le_t, le_f, lt_t, lt_f, eq_t, eq_f, em_f, me_f, nI_add, nI_subN, pk_mul, Option.bind_some, ck_nI, lens, wI_eq, wI_ne, if_true, if_false, ite_true, ite_false, eq_self, Bool.false_eq_true, Nat.zero_add, Nat.add_zero, h.len, cr_put hd]
    rfl
  · rw [List.length_append]
    exact wI_eq _ _ _ _ _
  · intro k y hy
    unfold cf
    by_cases hk : k < m
    · rw [List.getElem?_append_left hk] at hy
      obtain ⟨_, _, -, -, -, -, g0, g1, g2⟩ := h.x hy
      simp (disch := omega) only [υ, wI_ne, g0, g1, g2]
      exact ⟨trivial, trivial, trivial⟩
    · have hk2 : k = m := by
        have := (List.getElem?_eq_some_iff.mp hy).1
        rw [List.length_append] at this
        simp at this
        omega
      subst hk2
      rw [List.getElem?_append_right (Nat.le_refl _), Nat.sub_self] at hy
      cases hy
      simp (disch := omega) only [υ, wI_ne, wI_eq]
      exact ⟨trivial, trivial, trivial⟩
  · refine ⟨by rw [List.length_append]; simp; omega, fun y hy => ?_⟩
    rcases List.mem_append.mp hy with q | q
    · exact h.wl.2 y q
    · rw [List.mem_singleton] at q
      subst q
      exact ⟨ha, hb, hab, hw⟩
end C3
