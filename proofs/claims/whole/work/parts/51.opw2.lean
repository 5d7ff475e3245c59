/-! ===== the soonest; following ===== -/
def pkS (i : Nat) (val : Nat → Nat) (a : Option Nat × Nat) (l : Nat) : Option Nat × Nat := if i.testBit l = true ∧ val l < a.2 then (some l, val l) else a
def pkF (n i : Nat) (val : Nat → Nat) : Option Nat × Nat := (List.range n).foldl (pkS i val) (none, 1073741824)
theorem pk_inv {i : Nat} {val : Nat → Nat} (m : Nat) : (((List.range m).foldl (pkS i val) (none, 1073741824)).1 = none ∧ ((List.range m).foldl (pkS i val) (none, 1073741824)).2 = 1073741824 ∧ ∀ l, l < m → val l < 1073741824 → i.testBit l = false) ∨ ∃ k, k < m ∧ ((List.range m).foldl (pkS i val) (none, 1073741824)).1 = some k ∧ ((List.range m).foldl (pkS i val) (none, 1073741824)).2 < 1073741824 ∧ i.testBit k = true := by
  induction m with
  | zero => exact .inl ⟨rfl, rfl, fun l hl => absurd hl (Nat.not_lt_zero _)⟩
  | succ m ih =>
    rw [fold_succ]
    generalize (List.range m).foldl (pkS i val) (none, 1073741824) = a at *
    unfold pkS
    by_cases q : i.testBit m = true ∧ val m < a.2
    · rw [if_pos q]
      right
      refine ⟨m, Nat.lt_succ_self m, rfl, ?_, q.1⟩
      rcases ih with ⟨-, z, -⟩ | ⟨k, -, -, z, -⟩
      · show val m < _
        omega
      · show val m < _
        omega
    · rw [if_neg q]
      rcases ih with ⟨z1, z2, z3⟩ | ⟨k, z1, z2, z3, z4⟩
      · refine .inl ⟨z1, z2, fun l hl hv => ?_⟩
        by_cases e : l = m
        · subst e
          cases hb : i.testBit l with
          | false => rfl
          | true => exact absurd ⟨hb, by omega⟩ q
        · exact z3 l (by omega) hv
      · exact .inr ⟨k, by omega, z2, z3, z4⟩
theorem pk_none {n i : Nat} {val : Nat → Nat} (hi : i < 2 ^ n) (hv : ∀ l, l < n → val l < 1073741824) : (i = 0 ∧ (pkF n i val).1 = none) ∨ (i ≠ 0 ∧ ∃ k, k < n ∧ (pkF n i val).1 = some k) := by
  unfold pkF
  by_cases z : i = 0
  · left
    refine ⟨z, ?_⟩
    rcases pk_inv (i := i) (val := val) n with ⟨a, -, -⟩ | ⟨k, -, -, -, a⟩
    · exact a
    · rw [z, Nat.zero_testBit] at a
      cases a
  · right
    refine ⟨z, ?_⟩
    rcases pk_inv (i := i) (val := val) n with ⟨-, -, a⟩ | ⟨k, a, b, -, -⟩
    · exfalso
      apply z
      apply Nat.eq_of_testBit_eq
      intro k
      rw [Nat.zero_testBit]
      by_cases hk : k < n
      · exact a k hk (hv k hk)
      · exact tb_out hi (by omega)
    · exact ⟨k, a, b⟩
section OX
variable {σ : SS} {d n nk i c : Nat} {s p o : Int32} {nu : Nat → Nat → Nat} {lo : Nat → Nat} {L : List X3}
theorem soonestOf_ok (hd : d < 5) (hs : RS σ d n nk nu lo) (h : RV σ d n i c s p o L) : ∃ τ, X7_soonestOf σ d = some (oI (pkF n i (fun l => (alF nu l L).1)).1, τ) ∧ Eqo WF σ τ := by
  have h8 := hs.n8
  obtain ⟨b, w, e, h1, hE⟩ := loopI (f := X7_soonestOf_l8b d) (s := (-1, 1073741824, 0, σ)) n (fun k (b : Option Nat × Nat) (w : SS) => ((oI b.1, nI b.2, nI k, w) : Int32 × Int32 × Int32 × SS)) (fun b w => ((oI b.1, w) : Int32 × SS)) (fun k b w => b = (List.range k).foldl (pkS i (fun l => (alF nu l L).1)) (none, 1073741824) ∧ Eqo WF σ w) (none, 1073741824) σ rfl ⟨rfl, Eqo.rf _ _⟩ (by omega) (fun k a w hk hI => by
      obtain ⟨h1, hE⟩ := hI
      have hs' : RS w d n nk nu lo := hs.keep hE (fun k m j q => by unfold WF WR at q; omega)
      have h' : RV w d n i c s p o L := h.keep hE (fun k m j q => by unfold WF WR at q; omega)
      have hal := (alF_lt hs.wf (l := k) h.wl).1
      have ha2 : a.2 ≤ 1073741824 := by
        rw [h1]
        rcases pk_inv (i := i) (val := fun l => (alF nu l L).1) k with ⟨-, z, -⟩ | ⟨_, -, -, z, -⟩ <;> omega
      have hnext : ∀ q, q = pkS i (fun l => (alF nu l L).1) a k → q = (List.range (k + 1)).foldl (pkS i (fun l => (alF nu l L).1)) (none, 1073741824) := fun q hq => by rw [fold_succ, ← h1, hq]
      show ∃ b' w', X7_soonestOf_l8c w d (oI a.1) (nI a.2) (nI k) = _ ∧ _
      unfold X7_soonestOf_l8c X7_soonestOf_j47 X0_leadCount X0_leadCount_j0
      rw [hs'.ln, Option.bind_some, if_neg (nI_ge hk (by omega)), isIn_in hs' h' hk, Option.bind_some, v01]
      by_cases q : i.testBit k = true
      · rw [if_pos q]
        obtain ⟨w', e, hE', -⟩ := find_ok hd hs' h' hk
        rw [e, Option.bind_some, nI_1, Option.bind_some]
        simp only
        by_cases z : (alF nu k L).1 < a.2
        · rw [if_neg (nI_ge z (by omega)), if_neg (nI_ge z (by omega))]
          exact ⟨(some k, (alF nu k L).1), w', rfl, hnext _ (by unfold pkS; rw [if_pos ⟨q, z⟩]), hE.tr hE'⟩
        · rw [if_pos (nI_le (by omega) (by omega)), if_pos (nI_le (by omega) (by omega))]
          exact ⟨a, w', rfl, hnext a (by unfold pkS; rw [if_neg (fun y => z y.2)]), hE.tr hE'⟩
      · rw [if_neg q, nI_1, Option.bind_some]
        exact ⟨a, w, rfl, hnext a (by unfold pkS; rw [if_neg (fun y => q y.1)]), hE⟩) (fun a w hI => by
      obtain ⟨h1, hE⟩ := hI
      have hs' : RS w d n nk nu lo := hs.keep hE (fun k m j q => by unfold WF WR at q; omega)
      show X7_soonestOf_l8c w d (oI a.1) (nI a.2) (nI n) = _
      unfold X7_soonestOf_l8c X0_leadCount X0_leadCount_j0
      rw [hs'.ln, Option.bind_some, if_pos (nI_le (Nat.le_refl _) (by omega))])
  refine ⟨w, ?_, hE⟩
  unfold X7_soonestOf X7_soonestOf_j0 X7_soonestOf_l8
  rw [e, Option.bind_some, h1]
  rfl
theorem xsoonest (hs : RXS σ n nk nu lo) (h : RXV σ n i c s p o L) : ∃ τ, X12_soonest_l16 σ (-1) 0 0 = (if 0 ≤ oI (pkF n i (fun l => (alF nu l L).1)).1 then some (oI (pkF n i (fun l => (alF nu l L).1)).1, τ) else (X12_refuse τ 8).bind fun p75 => some (p75.1, p75.2)) ∧ Eqo AX σ τ ∧ ∀ j, j < 132 → τ.1 13 34 j = σ.1 13 34 j := by
  have h8 := hs.n8
  obtain ⟨b, w, e, h1, hc, hE⟩ := loopI (f := X12_soonest_l16b) (s := (-1, 0, 0, σ)) n (fun k (b : Option Nat × Nat) (w : SS) => ((oI b.1, (if b.1 = none then 0 else nI b.2), nI k, w) : Int32 × Int32 × Int32 × SS)) (fun b w => ((oI b.1, w) : Int32 × SS)) (fun k b w => b = (List.range k).foldl (pkS i (fun l => (alF nu l L).1)) (none, 1073741824) ∧ (∀ j, j < 132 → w.1 13 34 j = σ.1 13 34 j) ∧ Eqo AX σ w) (none, 1073741824) σ rfl ⟨rfl, fun _ _ => rfl, Eqo.rf _ _⟩ (by omega) (fun k a w hk hI => by
      obtain ⟨h1, hc, hE⟩ := hI
      have hs' : RXS w n nk nu lo := hs.of hc
      have h' : RXV w n i c s p o L := h.of hc
      have hal := (alF_lt hs.wf (l := k) h.wl).1
      have hnext : ∀ q, q = pkS i (fun l => (alF nu l L).1) a k → q = (List.range (k + 1)).foldl (pkS i (fun l => (alF nu l L).1)) (none, 1073741824) := fun q hq => by rw [fold_succ, ← h1, hq]
      show ∃ b' w', X12_soonest_l16c w (oI a.1) (if a.1 = none then 0 else nI a.2) (nI k) = _ ∧ _
      unfold X12_soonest_l16c X12_soonest_j57 X12_soonest_j62
      rw [ck0, Option.bind_some, hs'.ln, if_neg (nI_ge hk (by omega)), xisInside hs' h' hk, Option.bind_some, v01]
      by_cases q : i.testBit k = true
      · rw [if_pos q]
        obtain ⟨w', e, hc', hE', -⟩ := xaloneOf hs' h' hk
        rw [e, Option.bind_some]
        simp only
        have hcw : ∀ j, j < 132 → w'.1 13 34 j = σ.1 13 34 j := fun j hj => (hc' j hj).trans (hc j hj)
        rcases pk_inv (i := i) (val := fun l => (alF nu l L).1) k with ⟨z1, z2, -⟩ | ⟨kk, z0, z1, z2, -⟩
        · rw [← h1] at z1 z2
          rw [z1, if_pos (show oI none < 0 by decide), nI_1, Option.bind_some]
          exact ⟨(some k, (alF nu k L).1), w', rfl, hnext _ (by unfold pkS; rw [if_pos ⟨q, by show (alF nu k L).1 < a.2; omega⟩]), hcw, hE.tr hE'⟩
        · rw [← h1] at z1 z2
          rw [z1, if_neg (show ¬ oI (some kk) < 0 from nI_pos (by omega)), if_neg (Option.some_ne_none _)]
          by_cases z : (alF nu k L).1 < a.2
          · rw [if_pos (nI_lt z (by omega)), nI_1, Option.bind_some]
            exact ⟨(some k, (alF nu k L).1), w', rfl, hnext _ (by unfold pkS; rw [if_pos ⟨q, z⟩]), hcw, hE.tr hE'⟩
          · rw [if_neg (nI_nlt (by omega) (by omega)), nI_1, Option.bind_some]
            refine ⟨a, w', ?_, hnext a (by unfold pkS; rw [if_neg (fun y => z y.2)]), hcw, hE.tr hE'⟩
            rw [z1, if_neg (Option.some_ne_none _)]
      · rw [if_neg q, nI_1, Option.bind_some]
        exact ⟨a, w, rfl, hnext a (by unfold pkS; rw [if_neg (fun y => q y.1)]), hc, hE⟩) (fun a w hI => by
      obtain ⟨h1, hc, hE⟩ := hI
      have hs' : RXS w n nk nu lo := hs.of hc
      show X12_soonest_l16c w (oI a.1) (if a.1 = none then 0 else nI a.2) (nI n) = _
      unfold X12_soonest_l16c
      rw [ck0, Option.bind_some, hs'.ln, if_pos (nI_le (Nat.le_refl _) (by omega))])
  refine ⟨w, ?_, hE, hc⟩
  unfold X12_soonest_l16
  rw [e, Option.bind_some, h1]
  rfl
theorem op_soonest (h : RelD σ n nk nu lo i c s p o L) : OR3 PV σ X11_soonest X12_soonest (fun τ => RelD τ n nk nu lo i c s p o L) := by
  have h1 := h.ps (ps1 σ 0)
  have h8 := h.1.n8
  rcases pk_none (n := n) (val := fun l => (alF nu l L).1) h.2.1.ilt (fun l _ => by
    have := (alF_lt h.1.wf (l := l) h.2.1.wl).1
    show (alF nu l L).1 < _
    omega) with ⟨z, hp⟩ | ⟨z, k, hk, hp⟩
  · have r8 := h.ps (s0_ps σ 8)
    obtain ⟨τ, e, hE, hc⟩ := xsoonest r8.2.2.1 r8.2.2.2
    rw [hp, if_neg (show ¬ (0 : Int32) ≤ oI none by decide), refuse_eq, Option.bind_some] at e
    have hE2 : Eqo PV σ (wI τ 11 0 0 8) := ((PS_PVE (s0_ps σ 8)).tr (AX_PV hE)).tr (PS_PVE (ps2 _ _))
    refine ⟨-1, wI σ 10 0 11 8, wI τ 11 0 0 8, ?_, ?_, ?_, hE2, (r8.of hE hc (fun k n j q => by unfold AX XC FX at q; omega)).ps (ps2 _ _)⟩
    · unfold X11_soonest X11_soonest_j0
      rw [someIn0 h, Option.bind_some, if_pos z, answersN _ (by decide), Option.bind_some, if_pos rfl]
    · unfold X12_soonest X12_soonest_j0
      rw [Option.bind_some, Option.bind_some, s0e, e]
    · unfold St
      rw [wI_ne _ _ (by omega), wI_eq, hE.at1 (by unfold AX XC FX; omega)]
      unfold s0
      rw [wI_ne _ _ (by omega), wI_ne _ _ (by omega), wI_eq]
  · obtain ⟨υ, e1, hE1⟩ := soonestOf_ok (by decide) h1.1 h1.2.1
    have r1 := h1.keep hE1 (fun k n j q => by unfold WF WR at q; unfold RDc; omega)
    have r3 := r1.ps (xb_ps υ)
    obtain ⟨τ, e, hE, hc⟩ := xsoonest r3.2.2.1 r3.2.2.2
    rw [hp] at e e1
    rw [if_pos (show (0 : Int32) ≤ oI (some k) from nI_pos' (by omega))] at e
    refine ⟨oI (some k), υ, τ, ?_, ?_, ?_, (((PS_PVE (ps1 σ 0)).tr (WF_PV hE1)).tr (PS_PVE (xb_ps υ))).tr (AX_PV hE), r3.of hE hc (fun k n j q => by unfold AX XC FX at q; omega)⟩
    · unfold X11_soonest X11_soonest_j0
      rw [someIn0 h, Option.bind_some, if_neg z, answers0, Option.bind_some, if_neg neg1_0, e1, Option.bind_some]
    · unfold X12_soonest X12_soonest_j0
      rw [Option.bind_some, Option.bind_some]
      exact e
    · have g1 : υ.1 10 0 11 = 0 := by
        rw [hE1.at1 (by unfold WF WR; omega), wI_eq]
      have g2 := xb_st g1
      unfold St at g2 ⊢
      rw [hE.at1 (by unfold AX XC FX; omega), hE.at1 (by unfold AX XC FX; omega)]
      exact g2
/-- following: the class -/
theorem ends_ok (hd : d < 5) (hs : RS σ d n nk nu lo) (h : RV σ d n i c s p o L) {l a b : Nat} (hl : l < n) (hab : a + b ≤ cnt L l) : ∃ τ, X7_secondsOfEnds σ d (nI l) (nI a) (nI b) = some (nI (rsum ((rowL nu l 0 0 L).take a) + rsum ((rowL nu l 0 0 L).drop ((rowL nu l 0 0 L).length - b))), τ) ∧ Eqo WF σ τ := by
  have h24 := h.l24
  obtain ⟨τ, e, hE, hR⟩ := layRow_ok hd hs h hl (dn := 0) (m := 0) (by decide) (by decide)
  have hb := rowL_b hs.wf (l := l) (dn := 0) (k := 0) h.wl
  have hlen := rowL_cnt nu l L
  have hcl : cnt L l ≤ L.length := List.countP_le_length
  generalize rowL nu l 0 0 L = R at *
  have hl24 := hb.1.1
  obtain ⟨b1, w1, e1, g1⟩ := loopI (f := X7_secondsOfEnds_l14b τ d (nI a) (nI b)) (s := (0, 0)) a (fun k (b : Int32) (_ : Unit) => ((b, nI k) : Int32 × Int32)) (fun b _ => b) (fun k b _ => b = nI (rsum (R.take k))) 0 () rfl rfl (by omega) (fun k v w hk hI => by
      subst hI
      obtain ⟨y, hy⟩ : ∃ y, R[k]? = some y := ⟨R[k], List.getElem?_eq_getElem (by omega)⟩
      show ∃ b' w', X7_secondsOfEnds_l14c τ d (nI a) (nI b) (nI (rsum (R.take k))) (nI k) = _ ∧ _
      unfold X7_secondsOfEnds_l14c
      rw [if_neg (nI_ge hk (by omega)), (hR.at hl24 hy).1, Option.bind_some, nI_add, Option.bind_some, nI_1, Option.bind_some]
      exact ⟨_, (), rfl, by rw [rsum_take hy]⟩) (fun v w hI => by
      show X7_secondsOfEnds_l14c τ d (nI a) (nI b) v (nI a) = _
      unfold X7_secondsOfEnds_l14c
      rw [if_pos (nI_le (Nat.le_refl _) (by omega))])
  subst g1
  obtain ⟨b2, w2, e2, g2⟩ := loopI (f := X7_secondsOfEnds_l44b τ d (nI b)) (s := (nI (rsum (R.take a)), 0)) b (fun k (b : Int32) (_ : Unit) => ((b, nI k) : Int32 × Int32)) (fun b _ => b) (fun k b _ => b = nI (rsum (R.take a) + rsum (R.drop (R.length - k)))) (nI (rsum (R.take a))) () rfl (by
      rw [Nat.sub_zero, List.drop_length]
      rfl) (by omega) (fun k v w hk hI => by
      subst hI
      obtain ⟨y, hy, hs⟩ := lastSum (R := R) (k := k) (by omega)
      show ∃ b' w', X7_secondsOfEnds_l44c τ d (nI b) (nI (rsum (R.take a) + rsum (R.drop (R.length - k)))) (nI k) = _ ∧ _
      unfold X7_secondsOfEnds_l44c
      rw [if_neg (nI_ge hk (by omega)), hR.1, nI_sub1 (by omega), nI_subN (by omega), show R.length - 1 - k = R.length - k - 1 by omega, (hR.at hl24 hy).1, Option.bind_some, nI_add, Option.bind_some, nI_1, Option.bind_some]
      exact ⟨_, (), rfl, by rw [hs, Nat.add_assoc]⟩) (fun v w hI => by
      show X7_secondsOfEnds_l44c τ d (nI b) v (nI b) = _
      unfold X7_secondsOfEnds_l44c
      rw [if_pos (nI_le (Nat.le_refl _) (by omega))])
  subst g2
  refine ⟨τ, ?_, hE.mono (fun _ _ _ q => .inl q)⟩
  unfold X7_secondsOfEnds X7_secondsOfEnds_j0 X7_secondsOfEnds_l14 X7_secondsOfEnds_l44
  rw [show X7_layRow σ d (nI l) 0 0 = some τ from e, Option.bind_some, e1, Option.bind_some, e2, Option.bind_some]
/-- the reference -/
theorem xcostAt (hs : RXS σ n nk nu lo) (h : RXV σ n i c s p o L) {l m : Nat} (hl : l < n) (hm : m < cnt L l) : ∃ v y, X12_alongOf σ (nI l) (nI m) = some v ∧ (rowL nu l 0 0 L)[m]? = some y ∧ X12_costOf σ v (nI l) = some (nI y.1) := by
  have h8 := hs.n8
  obtain ⟨kk, x, e1, e2, e3, e4⟩ := xalongOf h8 h (l := l) (by omega) hm
  have hrow := nth_row (nu := nu) L h.st3 m 0 kk x (by rw [Nat.zero_add]; exact e1) e2
  exact ⟨nI kk, _, e4, hrow, xcostOf hs h e2 e3 hl⟩
theorem xends (hs : RXS σ n nk nu lo) (h : RXV σ n i c s p o L) {l a b : Nat} (hl : l < n) (hab : a + b ≤ cnt L l) : X12_follows_l80 σ (nI l) (nI a) (nI b) (nI (cnt L l)) 0 0 = some (nI (rsum ((rowL nu l 0 0 L).take a) + rsum ((rowL nu l 0 0 L).drop ((rowL nu l 0 0 L).length - b))), σ) := by
  have h24 := h.l24
  have hlen := rowL_cnt nu l L
  have hcl : cnt L l ≤ L.length := List.countP_le_length
  obtain ⟨b1, w1, e1, g1⟩ := loopI (f := X12_follows_l80b σ (nI l) (nI a) (nI b) (nI (cnt L l))) (s := (0, 0)) a (fun k (b : Int32) (_ : Unit) => ((b, nI k) : Int32 × Int32)) (fun b _ => b) (fun k b _ => b = nI (rsum ((rowL nu l 0 0 L).take k))) 0 () rfl rfl (by omega) (fun k v w hk hI => by
      subst hI
      obtain ⟨u, y, y1, y2, y3⟩ := xcostAt hs h hl (m := k) (by omega)
      show ∃ b' w', X12_follows_l80c σ (nI l) (nI a) (nI b) (nI (cnt L l)) (nI (rsum ((rowL nu l 0 0 L).take k))) (nI k) = _ ∧ _
      unfold X12_follows_l80c
      rw [if_neg (nI_ge hk (by omega)), y1, Option.bind_some, y3, Option.bind_some, nI_add, Option.bind_some, nI_1, Option.bind_some]
      exact ⟨_, (), rfl, by rw [rsum_take y2]⟩) (fun v w hI => by
      show X12_follows_l80c σ (nI l) (nI a) (nI b) (nI (cnt L l)) v (nI a) = _
      unfold X12_follows_l80c
      rw [if_pos (nI_le (Nat.le_refl _) (by omega))])
  subst g1
  obtain ⟨b2, w2, e2, g2⟩ := loopI (f := X12_follows_l112b σ (nI l) (nI b) (nI (cnt L l))) (s := (nI (rsum ((rowL nu l 0 0 L).take a)), 0)) b (fun k (b : Int32) (_ : Unit) => ((b, nI k) : Int32 × Int32)) (fun b _ => b) (fun k b _ => b = nI (rsum ((rowL nu l 0 0 L).take a) + rsum ((rowL nu l 0 0 L).drop ((rowL nu l 0 0 L).length - k)))) (nI (rsum ((rowL nu l 0 0 L).take a))) () rfl (by
      rw [Nat.sub_zero, List.drop_length]
      rfl) (by omega) (fun k v w hk hI => by
      subst hI
      obtain ⟨y, hy, hsum⟩ := lastSum (R := rowL nu l 0 0 L) (k := k) (by omega)
      obtain ⟨u, y', y1, y2, y3⟩ := xcostAt hs h hl (m := cnt L l - 1 - k) (by omega)
      have hyy : y' = y := by
        rw [show cnt L l - 1 - k = (rowL nu l 0 0 L).length - k - 1 by omega, hy] at y2
        exact (Option.some.inj y2).symm
      subst hyy
      show ∃ b' w', X12_follows_l112c σ (nI l) (nI b) (nI (cnt L l)) (nI (rsum ((rowL nu l 0 0 L).take a) + rsum ((rowL nu l 0 0 L).drop ((rowL nu l 0 0 L).length - k)))) (nI k) = _ ∧ _
      unfold X12_follows_l112c
      rw [if_neg (nI_ge hk (by omega)), nI_sub1 (by omega), nI_subN (by omega), y1, Option.bind_some, y3, Option.bind_some, nI_add, Option.bind_some, nI_1, Option.bind_some]
      exact ⟨_, (), rfl, by rw [hsum, Nat.add_assoc]⟩) (fun v w hI => by
      show X12_follows_l112c σ (nI l) (nI b) (nI (cnt L l)) v (nI b) = _
      unfold X12_follows_l112c
      rw [if_pos (nI_le (Nat.le_refl _) (by omega))])
  subst g2
  unfold X12_follows_l80 X12_follows_l112
  rw [e1, Option.bind_some, e2, Option.bind_some]
theorem op_follows (a b e : Int32) (h : RelD σ n nk nu lo i c s p o L) : OR3 PV σ (fun σ => X11_follows σ a b e) (fun σ => X12_follows σ a b e) (fun τ => RelD τ n nk nu lo i c s p o L) := by
  have h1 := h.ps (ps1 σ 0)
  have h8 := h.1.n8
  have hC : ∀ τ, Eqo PS σ τ → RelD τ n nk nu lo i c s p o L := fun τ hE => h.ps hE
  rcases lead_or h.1 a with ⟨l, hl, rfl⟩ | ⟨ha, hn⟩
  · by_cases q : i.testBit l = true
    · have hcl : cnt L l ≤ L.length := List.countP_le_length
      have h24 := h.2.1.l24
      have hin : X0_isIn σ 0 (nI l) = some 1 := by rw [isIn_in h.1 h.2.1 hl, if_pos q]
      have hco := countOn_ok (by decide) h8 h.2.1 (l := l) (by omega)
      have bad : (b < 0 ∨ (¬ b < 0 ∧ (e < 0 ∨ (¬ e < 0 ∧ (nI (cnt L l) < b ∨ (¬ nI (cnt L l) < b ∧ ¬ e ≤ nI (cnt L l) - b)))))) → OR3 PV σ (fun σ => X11_follows σ (nI l) b e) (fun σ => X12_follows σ (nI l) b e) (fun τ => RelD τ n nk nu lo i c s p o L) := fun hbad => by
        have r5 := h.ps (s0_ps σ 5)
        have hxc := xcrossings h8 r5.2.2.2 (l := l) (by omega)
        refine refP hC PS_PV 5 (-1) ?_ ?_
        · show X11_follows σ (nI l) b e = _
          unfold X11_follows X11_follows_j0 X11_follows_j66 X11_follows_j71
          rw [has_in h.1 hl, Option.bind_some, if_neg neg1_0, hin, Option.bind_some, if_neg neg1_0, hco, Option.bind_some, Option.bind_some, answersN _ (by decide), Option.bind_some, if_pos rfl]
          rcases hbad with z | ⟨z0, z | ⟨y, z | ⟨x, z⟩⟩⟩
          · rw [if_pos z]
          · rw [if_neg z0]
            simp only [*, if_true, if_false]
          · rw [if_neg z0]
            simp only [*, if_true, if_false]
          · rw [if_neg z0]
            simp only [*, if_true, if_false]
        · show X12_follows (wI σ 10 0 11 5) (nI l) b e = _
          unfold X12_follows X12_follows_j0 X12_follows_j68
          rw [Option.bind_some, Option.bind_some, s0e, s0b h 5 hl, Option.bind_some, if_neg neg1_0, s0c h 5 hl, Option.bind_some, if_pos q, if_neg neg1_0, hxc, Option.bind_some, refuse_eq, Option.bind_some]
          rcases hbad with z | ⟨z0, z | ⟨y, z | ⟨x, z⟩⟩⟩
          · rw [if_pos z]
          · rw [if_neg z0]
            simp only [*, if_true, if_false]
          · rw [if_neg z0]
            simp only [*, if_true, if_false]
          · rw [if_neg z0]
            simp only [*, if_true, if_false]
      by_cases b0 : b < 0
      · exact bad (.inl b0)
      by_cases e0 : e < 0
      · exact bad (.inr ⟨b0, .inl e0⟩)
      by_cases b1 : nI (cnt L l) < b
      · exact bad (.inr ⟨b0, .inr ⟨e0, .inl b1⟩⟩)
      by_cases e1 : e ≤ nI (cnt L l) - b
      · obtain ⟨bb, hbb, rfl⟩ := nI_of b0
        obtain ⟨ee, hee, rfl⟩ := nI_of e0
        have b2 : bb ≤ cnt L l := by
          rcases Nat.lt_or_ge (cnt L l) bb with z | z
          · exact absurd (nI_lt z hbb) b1
          · exact z
        have e2 : bb + ee ≤ cnt L l := by
          rw [nI_subN b2] at e1
          have := (nI_leI hee (by omega)).mp e1
          omega
        obtain ⟨υ, f1, hE1⟩ := ends_ok (by decide) h1.1 h1.2.1 hl e2
        have r1 := h1.keep hE1 (fun k n j q => by unfold WF WR at q; unfold RDc; omega)
        have r3 := r1.ps (xb_ps υ)
        have f2 := xends r3.2.2.1 r3.2.2.2 hl e2
        refine ⟨nI (rsum ((rowL nu l 0 0 L).take bb) + rsum ((rowL nu l 0 0 L).drop ((rowL nu l 0 0 L).length - ee))), υ, xb υ, ?_, ?_, ?_, ((PS_PVE (ps1 σ 0)).tr (WF_PV hE1)).tr (PS_PVE (xb_ps υ)), r3⟩
        · show X11_follows σ (nI l) (nI bb) (nI ee) = _
          unfold X11_follows X11_follows_j0 X11_follows_j71
          rw [has_in h.1 hl, Option.bind_some, if_neg neg1_0, hin, Option.bind_some, if_neg neg1_0, if_neg b0, if_neg e0, hco, Option.bind_some, if_neg b1, Option.bind_some, if_pos e1, answers0, Option.bind_some, if_neg neg1_0, f1, Option.bind_some]
        · show X12_follows υ (nI l) (nI bb) (nI ee) = _
          unfold X12_follows X12_follows_j0
          rw [Option.bind_some, Option.bind_some]
          show ((X12_isLeadAt (xb υ) (nI l)).bind _) = _
          rw [xisLeadAt_in r3.2.2.1 hl, Option.bind_some, if_neg neg1_0]
          show ((X12_isInside (xb υ) (nI l)).bind _) = _
          rw [xisInside r3.2.2.1 r3.2.2.2 hl, Option.bind_some, if_pos q, if_neg neg1_0]
          show ((X12_crossings (xb υ) (nI l)).bind _) = _
          rw [xcrossings h8 r3.2.2.2 (by omega), Option.bind_some, if_neg b0, if_neg e0, if_neg b1, if_pos e1]
          exact f2
        · refine xb_st ?_
          rw [hE1.at1 (by unfold WF WR; omega), wI_eq]
      · exact bad (.inr ⟨b0, .inr ⟨e0, .inr ⟨b1, e1⟩⟩⟩)
    · refine refP hC PS_PV 9 (-1) ?_ ?_
      · show X11_follows σ (nI l) b e = _
        unfold X11_follows X11_follows_j0 X11_follows_j71
        rw [has_in h.1 hl, Option.bind_some, if_neg neg1_0, isIn_in h.1 h.2.1 hl, Option.bind_some, if_neg q, if_pos rfl, answersN _ (by decide), Option.bind_some, if_pos rfl]
      · show X12_follows (wI σ 10 0 11 9) (nI l) b e = _
        unfold X12_follows X12_follows_j0
        rw [Option.bind_some, Option.bind_some, s0e, s0b h 9 hl, Option.bind_some, if_neg neg1_0, s0c h 9 hl, Option.bind_some, if_neg q, if_pos rfl]
        rfl
  · refine refP hC PS_PV 2 (-1) ?_ ?_
    · show X11_follows σ a b e = _
      unfold X11_follows X11_follows_j0 X11_follows_j71
      rw [hn, Option.bind_some, if_pos rfl, answersN _ (by decide), Option.bind_some, if_pos rfl]
    · show X12_follows (wI σ 10 0 11 2) a b e = _
      unfold X12_follows X12_follows_j0
      rw [Option.bind_some, Option.bind_some, s0e, s0a h 2 ha, Option.bind_some, if_pos rfl]
      rfl
end OX
