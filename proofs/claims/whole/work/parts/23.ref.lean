/-! ===== the reference: reading ===== -/
def xf (σ : SS) : Nat → Nat → Int32 := fun r k => σ.1 13 34 (60 + 24 * r + k)
def inL (i : Nat) (L : List X3) : Prop := ∀ x ∈ L, i.testBit x.1 = true ∧ i.testBit x.2.1 = true
def RXS (σ : SS) (n nk : Nat) (nu : Nat → Nat → Nat) (lo : Nat → Nat) : Prop := σ.1 13 34 0 = nI n ∧ σ.1 13 34 2 = nI nk ∧ (∀ w l, w < 6 → l < n → σ.1 13 34 (8 + 8 * w + l) = nI (nu w l)) ∧ (∀ k, k < nk → σ.1 13 34 (56 + k) = nI (lo k)) ∧ wfS n nk nu lo
def RXV (σ : SS) (n i c : Nat) (s p o : Int32) (L : List X3) : Prop := σ.1 13 34 1 = nI L.length ∧ σ.1 13 34 3 = nI i ∧ σ.1 13 34 4 = nI c ∧ σ.1 13 34 5 = s ∧ σ.1 13 34 6 = p ∧ σ.1 13 34 7 = o ∧ CRf (xf σ) L ∧ i < 2 ^ n ∧ wfL n L ∧ inL i L ∧ Sub c i
def XC : Nat → Nat → Nat → Prop := fun k n j => k = 13 ∧ n = 34 ∧ ((1 ≤ j ∧ j ≤ 7 ∧ j ≠ 2) ∨ (60 ≤ j ∧ j < 132))
theorem RXS.keep {σ τ : SS} {n nk : Nat} {nu : Nat → Nat → Nat} {lo : Nat → Nat} {P : Nat → Nat → Nat → Prop} (h : RXS σ n nk nu lo) (hE : Eqo P σ τ) (hP : ∀ j, P 13 34 j → ¬ (j = 0 ∨ j = 2 ∨ (8 ≤ j ∧ j < 60))) : RXS τ n nk nu lo := by
  obtain ⟨h1, h2, h3, h4, h5⟩ := h
  have e : ∀ j, (j = 0 ∨ j = 2 ∨ (8 ≤ j ∧ j < 60)) → τ.1 13 34 j = σ.1 13 34 j := fun j q => hE.1 13 34 j (fun z => hP j z q)
  have hn := h5.1
  have hk := h5.2.1
  refine ⟨?_, ?_, fun w l hw hl => ?_, fun k hk => ?_, h5⟩
  · rw [e _ (by omega)]; exact h1
  · rw [e _ (by omega)]; exact h2
  · rw [e _ (by omega)]; exact h3 w l hw hl
  · rw [e _ (by omega)]; exact h4 k hk
theorem RXV.keep {σ τ : SS} {n i c : Nat} {s p o : Int32} {L : List X3} {P : Nat → Nat → Nat → Prop} (h : RXV σ n i c s p o L) (hE : Eqo P σ τ) (hP : ∀ j, P 13 34 j → ¬ ((1 ≤ j ∧ j ≤ 7 ∧ j ≠ 2) ∨ (60 ≤ j ∧ j < 132))) : RXV τ n i c s p o L := by
  obtain ⟨h1, h2, h3, h4, h5, h6, h7, h8, h9, h10⟩ := h
  have e : ∀ j, ((1 ≤ j ∧ j ≤ 7 ∧ j ≠ 2) ∨ (60 ≤ j ∧ j < 132)) → τ.1 13 34 j = σ.1 13 34 j := fun j q => hE.1 13 34 j (fun z => hP j z q)
  refine ⟨?_, ?_, ?_, ?_, ?_, ?_, fun k x hk => ?_, h8, h9, h10⟩
  · rw [e _ (by omega)]; exact h1
  · rw [e _ (by omega)]; exact h2
  · rw [e _ (by omega)]; exact h3
  · rw [e _ (by omega)]; exact h4
  · rw [e _ (by omega)]; exact h5
  · rw [e _ (by omega)]; exact h6
  · have := h7 k x hk
    have hl := (List.getElem?_eq_some_iff.mp hk).1
    have h24 := h9.1
    unfold xf at this ⊢
    refine ⟨?_, ?_, ?_⟩
    · rw [e _ (by omega)]; exact this.1
    · rw [e _ (by omega)]; exact this.2.1
    · rw [e _ (by omega)]; exact this.2.2
theorem RXS.keepV {σ τ : SS} {n nk : Nat} {nu : Nat → Nat → Nat} {lo : Nat → Nat} (h : RXS σ n nk nu lo) (hE : Eqo XC σ τ) : RXS τ n nk nu lo := h.keep hE (fun j q => by unfold XC at q; omega)
section D1
variable {σ : SS} {n nk i c : Nat} {s p o : Int32} {nu : Nat → Nat → Nat} {lo : Nat → Nat} {L : List X3}
theorem RXS.ln (h : RXS σ n nk nu lo) : σ.1 13 34 0 = nI n := h.1
theorem RXS.lk (h : RXS σ n nk nu lo) : σ.1 13 34 2 = nI nk := h.2.1
theorem RXS.wf (h : RXS σ n nk nu lo) : wfS n nk nu lo := h.2.2.2.2
theorem RXS.n8 (h : RXS σ n nk nu lo) : n ≤ 8 := h.wf.1
theorem RXS.k3 (h : RXS σ n nk nu lo) : nk ≤ 3 := h.wf.2.1
theorem RXS.gn (h : RXS σ n nk nu lo) {w l : Nat} (hw : w < 6) (hl : l < n) : σ.1 13 34 (8 + 8 * w + l) = nI (nu w l) := h.2.2.1 w l hw hl
theorem RXV.len (h : RXV σ n i c s p o L) : σ.1 13 34 1 = nI L.length := h.1
theorem RXV.ins (h : RXV σ n i c s p o L) : σ.1 13 34 3 = nI i := h.2.1
theorem RXV.clp (h : RXV σ n i c s p o L) : σ.1 13 34 4 = nI c := h.2.2.1
theorem RXV.sec (h : RXV σ n i c s p o L) : σ.1 13 34 5 = s := h.2.2.2.1
theorem RXV.pen (h : RXV σ n i c s p o L) : σ.1 13 34 6 = p := h.2.2.2.2.1
theorem RXV.opn (h : RXV σ n i c s p o L) : σ.1 13 34 7 = o := h.2.2.2.2.2.1
theorem RXV.cr (h : RXV σ n i c s p o L) : CRf (xf σ) L := h.2.2.2.2.2.2.1
theorem RXV.ilt (h : RXV σ n i c s p o L) : i < 2 ^ n := h.2.2.2.2.2.2.2.1
theorem RXV.wl (h : RXV σ n i c s p o L) : wfL n L := h.2.2.2.2.2.2.2.2.1
theorem RXV.inn (h : RXV σ n i c s p o L) : inL i L := h.2.2.2.2.2.2.2.2.2.1
theorem RXV.sub (h : RXV σ n i c s p o L) : Sub c i := h.2.2.2.2.2.2.2.2.2.2
theorem RXV.l24 (h : RXV σ n i c s p o L) : L.length ≤ 24 := h.wl.1
theorem RXV.x (h : RXV σ n i c s p o L) {k : Nat} {x : X3} (hk : L[k]? = some x) : k < 24 ∧ k < L.length ∧ x.1 < n ∧ x.2.1 < n ∧ x.1 ≠ x.2.1 ∧ x.2.2 ≤ 3 ∧ σ.1 13 34 (60 + k) = nI x.1 ∧ σ.1 13 34 (84 + k) = nI x.2.1 ∧ σ.1 13 34 (108 + k) = nI x.2.2 := by
  have h24 := h.l24
  have hl := (List.getElem?_eq_some_iff.mp hk).1
  have hm := h.wl.2 x (List.mem_of_getElem? hk)
  have hc := h.cr k x hk
  exact ⟨by omega, hl, hm.1, hm.2.1, hm.2.2.1, hm.2.2.2, hc.1, hc.2.1, hc.2.2⟩
theorem ckc {j : Nat} (h : j < 2050) : ck (LN 13 34) (nI j) = some j := by
  rw [lens.2.2.2.1]
  exact ck_nI h (by decide)
theorem ck0 : ck (LN 13 34) 0 = some 0 := ckc (j := 0) (by decide)
theorem ck1 : ck (LN 13 34) 1 = some 1 := ckc (j := 1) (by decide)
theorem ck2 : ck (LN 13 34) 2 = some 2 := ckc (j := 2) (by decide)
theorem ck3 : ck (LN 13 34) 3 = some 3 := ckc (j := 3) (by decide)
theorem ck4 : ck (LN 13 34) 4 = some 4 := ckc (j := 4) (by decide)
theorem ck5 : ck (LN 13 34) 5 = some 5 := ckc (j := 5) (by decide)
theorem ck6 : ck (LN 13 34) 6 = some 6 := ckc (j := 6) (by decide)
theorem ck7 : ck (LN 13 34) 7 = some 7 := ckc (j := 7) (by decide)
theorem ckO {k : Nat} (h : k < 1000) : ck (LN 13 34) (60 + nI k) = some (60 + k) := by
  show ck (LN 13 34) (nI 60 + nI k) = _
  rw [nI_add]
  exact ckc (by omega)
theorem ckU {k : Nat} (h : k < 1000) : ck (LN 13 34) (84 + nI k) = some (84 + k) := by
  show ck (LN 13 34) (nI 84 + nI k) = _
  rw [nI_add]
  exact ckc (by omega)
theorem ckS {k : Nat} (h : k < 1000) : ck (LN 13 34) (108 + nI k) = some (108 + k) := by
  show ck (LN 13 34) (nI 108 + nI k) = _
  rw [nI_add]
  exact ckc (by omega)
theorem ck16 {k : Nat} (h : k < 1000) : ck (LN 13 34) (16 + nI k) = some (16 + k) := by
  show ck (LN 13 34) (nI 16 + nI k) = _
  rw [nI_add]
  exact ckc (by omega)
theorem lcmp32 (x y : Int32) : (lg_cmp x.toInt64 y.toInt64 < 0 ↔ x < y) ∧ (0 < lg_cmp x.toInt64 y.toInt64 ↔ y < x) := by
  rw [lg_cmp_lt, lg_cmp_gt, Int64.lt_iff_toInt_lt, Int64.lt_iff_toInt_lt, Int32.lt_iff_toInt_lt, Int32.lt_iff_toInt_lt, Int32.toInt_toInt64, Int32.toInt_toInt64]
  exact ⟨Iff.rfl, Iff.rfl⟩
theorem xisIn (σ : SS) (x a b : Int32) : X12_isIn σ x.toInt64 a.toInt64 b.toInt64 = some (if a ≤ x ∧ x ≤ b then 1 else 0) := by
  unfold X12_isIn X12_isIn_j0
  by_cases h1 : x < a
  · rw [if_pos ((lcmp32 x a).1.mpr h1), if_neg]
    rintro ⟨q, -⟩
    exact (Int32.not_le.mpr h1) q
  · rw [if_neg (fun q => h1 ((lcmp32 x a).1.mp q))]
    by_cases h2 : b < x
    · rw [if_pos ((lcmp32 x b).2.mpr h2), if_neg]
      rintro ⟨-, q⟩
      exact (Int32.not_le.mpr h2) q
    · rw [if_neg (fun q => h2 ((lcmp32 x b).2.mp q)), if_pos ⟨Int32.not_lt.mp h1, Int32.not_lt.mp h2⟩]
theorem xisLeadAt_in (h : RXS σ n nk nu lo) {l : Nat} (hl : l < n) : X12_isLeadAt σ (nI l) = some 1 := by
  have h8 := h.n8
  unfold X12_isLeadAt X12_isLeadAt_j0
  rw [ck0, Option.bind_some, h.ln, nI_sub1 (by omega)]
  have := xisIn σ (nI l) 0 (nI (n - 1))
  rw [if_pos ⟨nI_pos' (by omega), nI_le (by omega) (by omega)⟩] at this
  have e : X12_isIn σ (nI l).toInt64 0 (nI (n - 1)).toInt64 = some 1 := this
  rw [e, Option.bind_some, zb_1, Option.bind_some]
theorem xisLeadAt_out (h : RXS σ n nk nu lo) {a : Int32} (ha : a < 0 ∨ nI n ≤ a) : X12_isLeadAt σ a = some 0 := by
  have h8 := h.n8
  unfold X12_isLeadAt X12_isLeadAt_j0
  rw [ck0, Option.bind_some, h.ln]
  have := xisIn σ a 0 (nI n - 1)
  rw [if_neg] at this
  · have e : X12_isIn σ a.toInt64 0 (nI n - 1).toInt64 = some 0 := this
    rw [e, Option.bind_some, zb_0, Option.bind_some]
  · rintro ⟨g1, g2⟩
    rcases ha with q | q
    · exact Int32.not_lt.mpr g1 q
    · rw [Int32.le_iff_toInt_le] at g1 g2 q
      rw [nI_toInt (by omega)] at q
      by_cases z : n = 0
      · subst z
        have : (nI 0 - 1).toInt = -1 := by decide
        rw [this] at g2
        have : (0 : Int32).toInt = 0 := by decide
        rw [this] at g1
        omega
      · rw [nI_sub1 (by omega), nI_toInt (by omega)] at g2
        omega
theorem xhas {a k : Nat} (ha : a < 256) (hk : k < 8) : X12_has σ (nI a) (nI k) = some (if a.testBit k = true then 1 else 0) := by
  unfold X12_has X12_has_j0
  have hb : ((nI a >>> (nI k &&& 31)) &&& 1) = nI (if a.testBit k = true then 1 else 0) := hbit ha hk
  rw [hb]
  by_cases q : a.testBit k = true
  · rw [if_pos q, if_pos q]; rfl
  · rw [if_neg q, if_neg q]; rfl
theorem xisInside (hs : RXS σ n nk nu lo) (h : RXV σ n i c s p o L) {l : Nat} (hl : l < n) : X12_isInside σ (nI l) = some (if i.testBit l = true then 1 else 0) := by
  have h8 := hs.n8
  unfold X12_isInside X12_isInside_j0
  rw [ck3, Option.bind_some, h.ins, xhas (p256 h8 h.ilt) (by omega), Option.bind_some, zb_i, Option.bind_some]
theorem xisOf (hn : n ≤ 8) (h : RXV σ n i c s p o L) {k l : Nat} {x : X3} (hk : L[k]? = some x) (hl : l < 8) : X12_isOf σ (nI k) (nI l) = some (if qO l x = true then 1 else 0) := by
  obtain ⟨h1, h2, h3, h4, h5, h6, h7, h8, h9⟩ := h.x hk
  unfold X12_isOf X12_isOf_j0 X12_isOf_j26
  rw [ckO (by omega), Option.bind_some, h7, ckU (by omega), Option.bind_some, h8]
  by_cases a : x.1 = l
  · have hq : qO l x = true := by simp [qO, a]
    rw [eq_t a, if_pos hq]
  · rw [eq_f a (by omega) (by omega)]
    by_cases b : x.2.1 = l
    · have hq : qO l x = true := by simp [qO, b]
      rw [eq_t b, if_pos hq]
    · have hq : ¬ qO l x = true := by simp [qO, a, b]
      rw [eq_f b (by omega) (by omega), if_neg hq]
theorem v01 {c : Prop} [Decidable c] {α : Type} {x y : α} : (if (if c then (1 : Int32) else 0) = 0 then x else y) = if c then y else x := by
  by_cases h : c
  · rw [if_pos h, if_pos h, if_neg neg1_0]
  · rw [if_neg h, if_neg h, if_pos rfl]
theorem xcrossings (hn : n ≤ 8) (h : RXV σ n i c s p o L) {l : Nat} (hl : l < 8) : X12_crossings σ (nI l) = some (nI (cnt L l)) := by
  have h24 := h.l24
  unfold X12_crossings X12_crossings_j0 X12_crossings_l4
  rw [iter_scan (s := (0, 0)) L (fun a _ x => Sum.inl (a + (if qO l x = true then 1 else 0))) (fun a => a) (fun a k => (a, nI k)) 0 rfl (by omega) (fun k x acc hk => ?_) (fun acc => ?_), scan_fold, foldl_cnt0]
  · rfl
  · obtain ⟨h1, h2, -⟩ := h.x hk
    show X12_crossings_l4c σ (nI l) acc (nI k) = _
    unfold X12_crossings_l4c X12_crossings_j29
    rw [ck1, Option.bind_some, h.len, if_neg (nI_ge h2 (by omega)), xisOf hn h hk hl, Option.bind_some, v01, Option.bind_some, Option.bind_some, nI_1]
  · show X12_crossings_l4c σ (nI l) acc (nI L.length) = _
    unfold X12_crossings_l4c
    rw [ck1, Option.bind_some, h.len, if_pos (nI_le (Nat.le_refl _) (by omega))]
theorem xstateMany (h : RXV σ n i c s p o L) {w : Nat} (hw : w < 4) : X12_stateMany σ (nI w) = some (nI (L.countP (fun x => x.2.2 == w))) := by
  have h24 := h.l24
  unfold X12_stateMany X12_stateMany_j0 X12_stateMany_l4
  rw [iter_scan (s := (0, 0)) L (fun acc _ x => Sum.inl (acc + (if (x.2.2 == w) = true then 1 else 0))) (fun a => a) (fun a k => (a, nI k)) 0 rfl (by omega) (fun k x acc hk => ?_) (fun acc => ?_), scan_fold, foldl_cnt0]
  · rfl
  · obtain ⟨h1, h2, h3, h4, h5, h6, h7, h8, h9⟩ := h.x hk
    show X12_stateMany_l4c σ (nI w) acc (nI k) = _
    unfold X12_stateMany_l4c X12_stateMany_j33
    rw [ck1, Option.bind_some, h.len, if_neg (nI_ge h2 (by omega)), ckS (by omega), Option.bind_some, h9]
    by_cases q : x.2.2 = w
    · rw [eq_t q, Option.bind_some, Option.bind_some, nI_1]
      simp [q]
    · rw [eq_f q (by omega) (by omega), Option.bind_some, Option.bind_some, nI_1]
      simp [q]
  · show X12_stateMany_l4c σ (nI w) acc (nI L.length) = _
    unfold X12_stateMany_l4c
    rw [ck1, Option.bind_some, h.len, if_pos (nI_le (Nat.le_refl _) (by omega))]
theorem xriskOf (h : RXS σ n nk nu lo) {l : Nat} (hl : l < n) : X12_riskOf σ (nI l) = some (nI (risk nu l)) := by
  have h8 := h.n8
  have w0 := h.wf.2.2.1 l hl
  have e0 := h.gn (w := 0) (by decide) hl
  have e1 := h.gn (w := 1) (by decide) hl
  unfold X12_riskOf X12_riskOf_j0
  have c8 : ck (LN 13 34) (8 + nI l) = some (8 + l) := by
    show ck (LN 13 34) (nI 8 + nI l) = _
    rw [nI_add]
    exact ckc (by omega)
  rw [c8, Option.bind_some, ck16 (by omega), Option.bind_some, e0, e1]
  have e2 : nI (nu 0 l) / 2 = nI (nu 0 l / 2) := pk_div (d := 2) (by omega) (by decide) (by decide)
  rw [e2]
  unfold risk
  by_cases q : nu 1 l ≤ nu 0 l / 2
  · rw [nI_subN q]
    show some (imax (nI 0) (imin (nI 15) _)) = _
    rw [imin_nI (by decide) (by omega), imax_nI (by decide) (by omega), Nat.zero_max]
  · have hneg := pk_sneg (a := nu 0 l / 2) (b := nu 1 l) (by omega) (by omega)
    have hz : nu 0 l / 2 - nu 1 l = 0 := by omega
    rw [hz]
    have h15 : imin 15 (nI (nu 0 l / 2) - nI (nu 1 l)) = nI (nu 0 l / 2) - nI (nu 1 l) := by
      unfold imin
      rw [if_pos]
      exact Int32.lt_of_lt_of_le hneg (by decide)
    rw [h15]
    unfold imax
    rw [if_neg]
    · rfl
    · exact fun z => absurd (Int32.lt_trans z hneg) (by decide)
end D1
