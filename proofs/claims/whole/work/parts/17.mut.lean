/-! ===== the class: sets, and what changes a drawer ===== -/
theorem neg1_0 : ¬ ((1 : Int32) = 0) := by decide
theorem imin_nI {a b : Nat} (ha : a < 2147483648) (hb : b < 2147483648) : imin (nI a) (nI b) = nI (min a b) := by
  unfold imin
  by_cases h : a ≤ b
  · rw [Nat.min_eq_left h, lt_f h hb]
  · rw [Nat.min_eq_right (by omega), lt_t (by omega) ha]
theorem imax_nI {a b : Nat} (ha : a < 2147483648) (hb : b < 2147483648) : imax (nI a) (nI b) = nI (max a b) := by
  unfold imax
  by_cases h : a < b
  · rw [Nat.max_eq_right (by omega), lt_t h hb]
  · rw [Nat.max_eq_left (by omega), lt_f (by omega) ha]
section C2
variable {σ : SS} {d n nk i c : Nat} {s p o : Int32} {nu : Nat → Nat → Nat} {lo : Nat → Nat} {L : List X3}
theorem RS.ln (h : RS σ d n nk nu lo) : σ.1 0 d 5 = nI n := h.1
theorem RS.lk (h : RS σ d n nk nu lo) : σ.1 0 d 7 = nI nk := h.2.1
theorem has_in (h : RS σ d n nk nu lo) {l : Nat} (hl : l < n) : X0_has σ d (nI l) = some 1 := by
  have := h.n8
  unfold X0_has X0_has_j0
  simp (disch := omega) only [lits, le_t, le_f, lt_t, lt_f, eq_t, eq_f, em_f, me_f, nI_add, nI_subN, pk_mul, Option.bind_some, ck_nI, lens, wI_eq, wI_ne, if_true, if_false, ite_true, ite_false, eq_self, Bool.false_eq_true, Nat.zero_add, Nat.add_zero, lz_f, h.ln]
theorem has_ge (h : RS σ d n nk nu lo) {l : Nat} (hl : n ≤ l) (h2 : l < 2147483648) : X0_has σ d (nI l) = some 0 := by
  have := h.n8
  unfold X0_has X0_has_j0
  simp (disch := omega) only [lits, le_t, le_f, lt_t, lt_f, eq_t, eq_f, em_f, me_f, nI_add, nI_subN, pk_mul, Option.bind_some, ck_nI, lens, wI_eq, wI_ne, if_true, if_false, ite_true, ite_false, eq_self, Bool.false_eq_true, Nat.zero_add, Nat.add_zero, lz_f, h.ln]
/-- an int is a lead's number, or it is none -/
theorem lead_or (h : RS σ d n nk nu lo) (a : Int32) : (∃ l, l < n ∧ a = nI l) ∨ ((a < 0 ∨ nI n ≤ a) ∧ X0_has σ d a = some 0) := by
  have h8 := h.n8
  by_cases h0 : a < 0
  · right
    refine ⟨.inl h0, ?_⟩
    unfold X0_has X0_has_j0
    rw [if_pos h0]
  · by_cases h1 : nI n ≤ a
    · right
      refine ⟨.inr h1, ?_⟩
      unfold X0_has X0_has_j0
      rw [if_neg h0, h.ln, if_pos h1]
    · left
      have g0 := Int32.not_lt.mp h0
      rw [Int32.le_iff_toInt_le, Int32.toInt_zero] at g0
      have g1 := Int32.not_le.mp h1
      rw [Int32.lt_iff_toInt_lt, nI_toInt (by omega)] at g1
      have e : a = nI a.toInt.toNat := by
        apply Int32.toInt_inj.mp
        rw [nI_toInt (by omega)]
        omega
      exact ⟨a.toInt.toNat, by omega, e⟩
theorem isIn_in (h : RS σ d n nk nu lo) (hv : RV σ d n i c s p o L) {l : Nat} (hl : l < n) : X0_isIn σ d (nI l) = some (if i.testBit l = true then 1 else 0) := by
  have h8 := h.n8
  have hi := p256 h8 hv.ilt
  unfold X0_isIn X0_isIn_j0
  by_cases q : i.testBit l = true
  · simp (disch := omega) only [lits, le_t, le_f, lt_t, lt_f, eq_t, eq_f, em_f, me_f, nI_add, nI_subN, pk_mul, Option.bind_some, ck_nI, lens, wI_eq, wI_ne, if_true, if_false, ite_true, ite_false, eq_self, Bool.false_eq_true, Nat.zero_add, Nat.add_zero, has_in h hl, hv.ins, hbit, q]
  · simp (disch := omega) only [lits, le_t, le_f, lt_t, lt_f, eq_t, eq_f, em_f, me_f, nI_add, nI_subN, pk_mul, Option.bind_some, ck_nI, lens, wI_eq, wI_ne, if_true, if_false, ite_true, ite_false, eq_self, Bool.false_eq_true, Nat.zero_add, Nat.add_zero, has_in h hl, hv.ins, hbit, q]
theorem isIn_no (h : RS σ d n nk nu lo) {a : Int32} (hl : X0_has σ d a = some 0) : X0_isIn σ d a = some 0 := by
  unfold X0_isIn X0_isIn_j0
  simp (disch := omega) only [lits, le_t, le_f, lt_t, lt_f, eq_t, eq_f, em_f, me_f, nI_add, nI_subN, pk_mul, Option.bind_some, ck_nI, lens, wI_eq, wI_ne, if_true, if_false, ite_true, ite_false, eq_self, Bool.false_eq_true, Nat.zero_add, Nat.add_zero, hl]
/-- the raw clips -/
theorem RV.raw (h : RV σ d n i c s p o L) : ∃ r, r < 256 ∧ σ.1 0 d 9 = nI r ∧ r &&& i = c := h.2.2.1
theorem and_tb {r i c l : Nat} (h : r &&& i = c) (hi : i.testBit l = true) : r.testBit l = c.testBit l := by
  rw [← h, Nat.testBit_and, hi, Bool.and_true]
theorem hasClip_in (h : RS σ d n nk nu lo) (hv : RV σ d n i c s p o L) {l : Nat} (hl : l < n) (hi : i.testBit l = true) : X0_hasClip σ d (nI l) = some (if c.testBit l = true then 1 else 0) := by
  have h8 := h.n8
  obtain ⟨r, hr, e, hc⟩ := hv.raw
  have ht := and_tb hc hi
  unfold X0_hasClip X0_hasClip_j0
  by_cases q : c.testBit l = true
  · have q2 := ht.trans q
    simp (disch := omega) only [lits, le_t, le_f, lt_t, lt_f, eq_t, eq_f, em_f, me_f, nI_add, nI_subN, pk_mul, Option.bind_some, ck_nI, lens, wI_eq, wI_ne, if_true, if_false, ite_true, ite_false, eq_self, Bool.false_eq_true, Nat.zero_add, Nat.add_zero, has_in h hl, e, hbit, q, q2]
  · have q2 : ¬ r.testBit l = true := by rw [ht]; exact q
    simp (disch := omega) only [lits, le_t, le_f, lt_t, lt_f, eq_t, eq_f, em_f, me_f, nI_add, nI_subN, pk_mul, Option.bind_some, ck_nI, lens, wI_eq, wI_ne, if_true, if_false, ite_true, ite_false, eq_self, Bool.false_eq_true, Nat.zero_add, Nat.add_zero, has_in h hl, e, hbit, q, q2]
theorem isFree_in (hd : d < 5) (h : RS σ d n nk nu lo) (hv : RV σ d n i c s p o L) {l : Nat} (hl : l < n) : X0_isFree σ d (nI l) = some (if i.testBit l = true ∧ cnt L l = 0 then 1 else 0) := by
  have h8 := h.n8
  have h24 := hv.l24
  have hc : cnt L l ≤ L.length := List.countP_le_length
  unfold X0_isFree X0_isFree_j0
  by_cases q : i.testBit l = true
  · by_cases z : cnt L l = 0
    · simp (disch := omega) only [lits, le_t, le_f, lt_t, lt_f, eq_t, eq_f, em_f, me_f, nI_add, nI_subN, pk_mul, Option.bind_some, ck_nI, lens, wI_eq, wI_ne, if_true, if_false, ite_true, ite_false, eq_self, Bool.false_eq_true, Nat.zero_add, Nat.add_zero, isIn_in h hv hl, countOn_ok hd h8 hv, q, z, and_self]
    · simp (disch := omega) only [lits, le_t, le_f, lt_t, lt_f, eq_t, eq_f, em_f, me_f, nI_add, nI_subN, pk_mul, Option.bind_some, ck_nI, lens, wI_eq, wI_ne, if_true, if_false, ite_true, ite_false, eq_self, Bool.false_eq_true, Nat.zero_add, Nat.add_zero, isIn_in h hv hl, countOn_ok hd h8 hv, q, z, and_false]
  · simp (disch := omega) only [lits, le_t, le_f, lt_t, lt_f, eq_t, eq_f, em_f, me_f, nI_add, nI_subN, pk_mul, Option.bind_some, ck_nI, lens, wI_eq, wI_ne, if_true, if_false, ite_true, ite_false, eq_self, Bool.false_eq_true, Nat.zero_add, Nat.add_zero, isIn_in h hv hl, q, false_and]
theorem canBeCrossed_in (h : RS σ d n nk nu lo) (hv : RV σ d n i c s p o L) {l : Nat} (hl : l < n) : X0_canBeCrossed σ d (nI l) = some (if i.testBit l = true ∧ c.testBit l = false then 1 else 0) := by
  have h8 := h.n8
  unfold X0_canBeCrossed X0_canBeCrossed_j0
  by_cases q : i.testBit l = true
  · by_cases z : c.testBit l = true
    · simp (disch := omega) only [lits, le_t, le_f, lt_t, lt_f, eq_t, eq_f, em_f, me_f, nI_add, nI_subN, pk_mul, Option.bind_some, ck_nI, lens, wI_eq, wI_ne, if_true, if_false, ite_true, ite_false, eq_self, Bool.false_eq_true, Nat.zero_add, Nat.add_zero, isIn_in h hv hl, hasClip_in h hv hl q, q, z, and_false, and_self, ite_self, Bool.true_eq_false]
    · have z2 := Bool.eq_false_iff.mpr z
      simp (disch := omega) only [lits, le_t, le_f, lt_t, lt_f, eq_t, eq_f, em_f, me_f, nI_add, nI_subN, pk_mul, Option.bind_some, ck_nI, lens, wI_eq, wI_ne, if_true, if_false, ite_true, ite_false, eq_self, Bool.false_eq_true, Nat.zero_add, Nat.add_zero, isIn_in h hv hl, hasClip_in h hv hl q, q, z2, and_true, and_self, ite_self]
  · simp (disch := omega) only [lits, le_t, le_f, lt_t, lt_f, eq_t, eq_f, em_f, me_f, nI_add, nI_subN, pk_mul, Option.bind_some, ck_nI, lens, wI_eq, wI_ne, if_true, if_false, ite_true, ite_false, eq_self, Bool.false_eq_true, Nat.zero_add, Nat.add_zero, isIn_in h hv hl, q, false_and]
theorem canGetClip_in (hd : d < 5) (h : RS σ d n nk nu lo) (hv : RV σ d n i c s p o L) {l : Nat} (hl : l < n) : X0_canGetClip σ d (nI l) = some (if (i.testBit l = true ∧ cnt L l = 0) ∧ c.testBit l = false then 1 else 0) := by
  unfold X0_canGetClip X0_canGetClip_j0
  by_cases q : i.testBit l = true ∧ cnt L l = 0
  · by_cases z : c.testBit l = true
    · simp (disch := omega) only [lits, le_t, le_f, lt_t, lt_f, eq_t, eq_f, em_f, me_f, nI_add, nI_subN, pk_mul, Option.bind_some, ck_nI, lens, wI_eq, wI_ne, if_true, if_false, ite_true, ite_false, eq_self, Bool.false_eq_true, Nat.zero_add, Nat.add_zero, isFree_in hd h hv hl, hasClip_in h hv hl q.1, q, z, and_false, and_self, ite_self, Bool.true_eq_false]
    · have z2 := Bool.eq_false_iff.mpr z
      simp (disch := omega) only [lits, le_t, le_f, lt_t, lt_f, eq_t, eq_f, em_f, me_f, nI_add, nI_subN, pk_mul, Option.bind_some, ck_nI, lens, wI_eq, wI_ne, if_true, if_false, ite_true, ite_false, eq_self, Bool.false_eq_true, Nat.zero_add, Nat.add_zero, isFree_in hd h hv hl, hasClip_in h hv hl q.1, q, z2, and_true, and_self, ite_self]
  · simp (disch := omega) only [lits, le_t, le_f, lt_t, lt_f, eq_t, eq_f, em_f, me_f, nI_add, nI_subN, pk_mul, Option.bind_some, ck_nI, lens, wI_eq, wI_ne, if_true, if_false, ite_true, ite_false, eq_self, Bool.false_eq_true, Nat.zero_add, Nat.add_zero, isFree_in hd h hv hl, q, false_and]
/-- crossings, some of them marked as gone -/
abbrev X4g : Type := X3 × Bool
def CRm (f : Nat → Nat → Int32) (A : List X4g) : Prop := ∀ k x, A[k]? = some x → f 0 k = nI x.1.1 ∧ f 1 k = nI x.1.2.1 ∧ f 2 k = if x.2 = true then -nI 1 else nI x.1.2.2
def res (A : List X4g) : List X3 := (A.filter (fun x => !x.2)).map (fun x => x.1)
def CC (d : Nat) : Nat → Nat → Nat → Prop := fun k n _ => k = 13 ∧ n = 4 * d + 2
def cf (σ : SS) (d : Nat) : Nat → Nat → Int32 := fun r k => σ.1 13 (4 * d + 2) (24 * r + k)
theorem res_len (A : List X4g) : (res A).length ≤ A.length := by
  unfold res
  rw [List.length_map]
  exact List.length_filter_le _ _
theorem res_snoc (A : List X4g) (x : X4g) : res (A ++ [x]) = res A ++ (if x.2 = true then [] else [x.1]) := by
  unfold res
  rw [List.filter_append, List.map_append]
  congr 1
  cases hx : x.2 <;> simp [hx]
theorem Eqo.at1 {P : Nat → Nat → Nat → Prop} {σ τ : SS} (h : Eqo P σ τ) {k n j : Nat} (q : ¬ P k n j) : τ.1 k n j = σ.1 k n j := h.1 k n j q
theorem sweep_ok (hd : d < 5) {A : List X4g} (hA : A.length ≤ 24) (h6 : σ.1 0 d 6 = nI A.length) (hw : ∀ x ∈ A, x.1.2.2 ≤ 3) (hc : CRm (cf σ d) A) : ∃ τ, X0_sweep σ d = some τ ∧ Eqo (fun k n j => CC d k n j ∨ (k = 0 ∧ n = d ∧ j = 6)) σ τ ∧ τ.1 0 d 6 = nI (res A).length ∧ CRf (cf τ d) (res A) := by
  unfold X0_sweep X0_sweep_j0 X0_sweep_l4
  have key : ∃ t, iter (X0_sweep_l4b d) NF (0, 0, σ) = some t ∧ t.1 = nI (res A).length ∧ Eqo (CC d) σ t.2 ∧ CRf (cf t.2 d) (res A) := by
    refine iter_upto (fun k (st : Int32 × Int32 × SS) => k ≤ A.length ∧ st.2.1 = nI k ∧ st.1 = nI (res (A.take k)).length ∧ Eqo (CC d) σ st.2.2 ∧ CRf (cf st.2.2 d) (res (A.take k)) ∧ ∀ j x, k ≤ j → A[j]? = some x → cf st.2.2 d 0 j = nI x.1.1 ∧ cf st.2.2 d 1 j = nI x.1.2.1 ∧ cf st.2.2 d 2 j = if x.2 = true then -nI 1 else nI x.1.2.2) A.length (fun (t : Int32 × SS) => t.1 = nI (res A).length ∧ Eqo (CC d) σ t.2 ∧ CRf (cf t.2 d) (res A)) (fun k st hk hI => ?_) (fun st hI => ?_) ⟨Nat.zero_le _, rfl, rfl, Eqo.rf _ _, fun k x hx => by simp [res] at hx, fun j x _ hx => hc j x hx⟩ (by omega)
    · left
      obtain ⟨x1, x2, υ⟩ := st
      obtain ⟨hkl, h2, h1, hE, hC, hrest⟩ := hI
      simp only at h2 h1 hE hC hrest
      subst h2
      subst h1
      obtain ⟨x, hx⟩ : ∃ x, A[k]? = some x := ⟨A[k], List.getElem?_eq_getElem hk⟩
      have hm := hw x (List.mem_of_getElem? hx)
      have hlen : (res (A.take k)).length ≤ k := Nat.le_trans (res_len _) (by rw [List.length_take]; omega)
      have hta : A.take (k + 1) = A.take k ++ [x] := by
        rw [List.take_add_one, hx]
        rfl
      have hrs := res_snoc (A.take k) x
      rw [← hta] at hrs
      have hL6 : υ.1 0 d 6 = nI A.length := by rw [hE.at1 (by unfold CC; omega)]; exact h6
      obtain ⟨r0, r1, r2⟩ := hrest k x (Nat.le_refl _) hx
      unfold cf at r0 r1 r2
      generalize hmm : (res (A.take k)).length = m at *
      unfold X0_sweep_l4b X0_sweep_l4c X0_stateAt X0_stateAt_j0 X0_sweep_j78
      by_cases q : x.2 = true
      · rw [if_pos q] at r2
        refine ⟨(nI m, nI (k + 1), υ), ?_, hk, rfl, ?_, hE, ?_, fun j y hj hy => hrest j y (by omega) hy⟩
        · simp (disch := omega) only [lits, le_t, le_f, lt_t, lt_f, eq_t, eq_f, em_f, me_f, nI_add, nI_subN, pk_mul, Option.bind_some, ck_nI, lens, wI_eq, wI_ne, if_true, if_false, ite_true, ite_false, eq_self, Bool.false_eq_true, Nat.zero_add, Nat.add_zero, hL6, cr_at hd, r2]
        · rw [hrs, if_pos q, List.append_nil, hmm]
        · rw [hrs, if_pos q, List.append_nil]; exact hC
      · rw [if_neg q] at r2
        refine ⟨(nI (m + 1), nI (k + 1), wI (wI (wI υ 13 (4 * d + 2) (24 * 0 + m) (nI x.1.1)) 13 (4 * d + 2) (24 * 1 + m) (nI x.1.2.1)) 13 (4 * d + 2) (24 * 2 + m) (nI x.1.2.2)), ?_, hk, rfl, ?_, ?_, ?_, ?_⟩
        · simp (disch := omega) only [lits, le_t, le_f, lt_t, lt_f, eq_t, eq_f, em_f, me_f, nI_add, nI_subN, pk_mul, Option.bind_some, ck_nI, lens, wI_eq, wI_ne, if_true, if_false, ite_true, ite_false, eq_self, Bool.false_eq_true, Nat.zero_add, Nat.add_zero, hL6, cr_at hd, r2, cr_put hd, r0, r1]
        · rw [hrs, if_neg q, List.length_append, hmm]
          rfl
        · exact ((hE.tr (Eqo.wI ⟨rfl, rfl⟩)).tr (Eqo.wI ⟨rfl, rfl⟩)).tr (Eqo.wI ⟨rfl, rfl⟩)
        · rw [hrs, if_neg q]
          intro j y hy
          unfold cf
          by_cases hjm : j < m
          · rw [List.getElem?_append_left (by omega)] at hy
            have := hC j y hy
            unfold cf at this
            simp (disch := omega) only [wI_ne]
            exact this
          · have hj : j = m := by
              have := (List.getElem?_eq_some_iff.mp hy).1
              rw [List.length_append, hmm] at this
              simp at this
              omega
            subst hj
            rw [List.getElem?_append_right (by omega), hmm, Nat.sub_self] at hy
            cases hy
            simp (disch := omega) only [wI_ne, wI_eq, and_self]
        · intro j y hj hy
          have := hrest j y (by omega) hy
          unfold cf at this ⊢
          have : j < A.length := (List.getElem?_eq_some_iff.mp hy).1
          simp (disch := omega) only [wI_ne]
          assumption
    · obtain ⟨x1, x2, υ⟩ := st
      obtain ⟨hkl, h2, h1, hE, hC, hrest⟩ := hI
      simp only at h2 h1 hE hC hrest
      subst h2
      subst h1
      rw [List.take_length] at hC ⊢
      have hL6 : υ.1 0 d 6 = nI A.length := by rw [hE.at1 (by unfold CC; omega)]; exact h6
      refine ⟨(nI (res A).length, υ), ?_, ?_⟩
      · unfold X0_sweep_l4b X0_sweep_l4c
        simp only [hL6]
        exact le_t (Nat.le_refl _) (by omega)
      · exact ⟨rfl, hE, hC⟩
  obtain ⟨t, e, hR⟩ := key
  rw [e]
  refine ⟨_, rfl, ?_, ?_, ?_⟩
  · exact (hR.2.1.mono (fun _ _ _ q => .inl q)).tr (Eqo.wI (.inr ⟨rfl, rfl, rfl⟩))
  · show (wI t.2 0 d 6 t.1).1 0 d 6 = _
    rw [wI_eq]; exact hR.1
  · intro k x hx
    have := hR.2.2 k x hx
    unfold cf at this ⊢
    simp (disch := omega) only [wI_ne]
    exact this
end C2
