/-! ===== ops: all, order, loosens ===== -/
def AB : Nat → Nat → Nat → Prop := fun k n j => CB k n j ∨ (k = 13 ∧ (n = 35 ∨ n = 42)) ∨ (k = 11 ∧ n = 0 ∧ (j = 38 ∨ j = 39))
def OrR (σ : SS) : Prop := (σ.1 6 0 11 = 0 ∧ σ.1 6 0 9 = 0 ∧ σ.1 11 0 38 = -1) ∨ (σ.1 6 0 11 = 1 ∧ ∃ m, m ≤ 8 ∧ σ.1 6 0 9 = nI m ∧ σ.1 11 0 38 = nI m ∧ σ.1 6 0 10 = σ.1 11 0 39 ∧ ∀ j, j < m → σ.1 13 26 j = σ.1 13 42 j)
def OrC : Nat → Nat → Nat → Prop := fun k n j => (k = 6 ∧ n = 0 ∧ 9 ≤ j ∧ j ≤ 11) ∨ (k = 11 ∧ n = 0 ∧ (j = 38 ∨ j = 39)) ∨ (k = 13 ∧ (n = 26 ∨ n = 42))
theorem OrR.keep {σ τ : SS} {P : Nat → Nat → Nat → Prop} (h : OrR σ) (hE : Eqo P σ τ) (hP : ∀ k n j, P k n j → ¬ OrC k n j) : OrR τ := by
  have e : ∀ k n j, OrC k n j → τ.1 k n j = σ.1 k n j := fun k n j q => hE.1 k n j (fun z => hP k n j z q)
  unfold OrR
  rw [e 6 0 11 (by unfold OrC; omega), e 6 0 9 (by unfold OrC; omega), e 11 0 38 (by unfold OrC; omega), e 6 0 10 (by unfold OrC; omega), e 11 0 39 (by unfold OrC; omega)]
  rcases h with ⟨a, b, c⟩ | ⟨a, m, h1, h2, h3, h4, h5⟩
  · exact .inl ⟨a, b, c⟩
  · exact .inr ⟨a, m, h1, h2, h3, h4, fun j hj => by rw [e 13 26 j (by unfold OrC; omega), e 13 42 j (by unfold OrC; omega)]; exact h5 j hj⟩
section OA
variable {σ : SS} {n nk i c : Nat} {s p o : Int32} {nu : Nat → Nat → Nat} {lo : Nat → Nat} {L : List X3}
theorem xall (hs : RXS σ n nk nu lo) (h : RXV σ n i c s p o L) : ∃ τ, X12_all_l14 σ (-1) 0 = some (nI (llF nu n i L).1, τ) ∧ τ.1 11 0 38 = nI (popc i) ∧ τ.1 11 0 39 = nI (llF nu n i L).2 ∧ OrdIs (τ.1 13 42) n i (cfC nu (llF nu n i L).2 L) (popc i) ∧ (∀ j, j < 132 → τ.1 13 34 j = σ.1 13 34 j) ∧ Eqo AB σ τ := by
  have h8 := hs.n8
  have h24 := h.l24
  have hi8 := p256 h8 h.ilt
  have hp8 := popc_le i
  have hk4 := llS_k (nu := nu) (lo := lo) (L := L) n i h8 h.ilt nk hs.wf h.wl
  obtain ⟨b, w, e, h1, hc, hE, hW⟩ := loopI (f := X12_all_l14b) (s := (-1, 0, σ)) 4 (fun k (b : Nat × Nat) (w : SS) => ((bI (b.1, 0, 0), nI k, w) : Int32 × Int32 × SS)) (fun b w => ((bI (b.1, 0, 0), w) : Int32 × SS)) (fun k b w => b = (List.range k).foldl (llS nu n i L) (1073741824, 0) ∧ (∀ j, j < 132 → w.1 13 34 j = σ.1 13 34 j) ∧ Eqo AB σ w ∧ (b.1 < 1073741824 → w.1 11 0 38 = nI (popc i) ∧ w.1 11 0 39 = nI b.2 ∧ OrdIs (w.1 13 42) n i (cfC nu b.2 L) (popc i))) (1073741824, 0) σ rfl ⟨rfl, fun _ _ => rfl, Eqo.rf _ _, fun z => absurd z (Nat.lt_irrefl _)⟩ (by decide) (fun k a w hk hI => by
      obtain ⟨h1, hc, hE, hW⟩ := hI
      have hs' : RXS w n nk nu lo := hs.of hc
      have h' : RXV w n i c s p o L := h.of hc
      obtain ⟨w1, e1, k1⟩ := xkeeps w
      have hs1 : RXS w1 n nk nu lo := hs'.of (fun j hj => k1.2.1 _ _ _ (by omega))
      have h1' : RXV w1 n i c s p o L := h'.of (fun j hj => k1.2.1 _ _ _ (by omega))
      obtain ⟨w2, s2, e2, hR2, hE2⟩ := xlsn (f := X12_all_l28b (bI (a.1, 0, 0)) (nI k)) (k := k) (fun a b υ => rfl) (by omega) h1'
      have hs2 := hs1.keepV hE2
      obtain ⟨w3, e3, hord3, hc3, hE3⟩ := xallOf hs2 hR2
      have hcfe : cfC nu 0 (lsn k L) = cfC nu k L := by
        funext l S
        unfold cfC
        rw [rowL_lsn nu l S k L h.st3]
      rw [hcfe] at e3 hord3
      obtain ⟨w4, e4, k4⟩ := xgives w3
      have hE23 : Eqo CB w1 w3 := (hE2.mono (fun _ _ _ q => .inl (.inl (.inl q)))).tr hE3
      obtain ⟨hT, hE4⟩ := tried2 (P := CB) (fun j q => by unfold CB CA CX XC FX at q; omega) (fun j hj => by unfold CB CA CX XC; omega) k1 hE23 k4
      have hEw : Eqo AB w w4 := hE4.mono (fun k n j q => by
        rcases q with q | q
        · exact .inl q
        · exact .inr (.inl ⟨q.1, .inl q.2⟩))
      have hcw : ∀ j, j < 132 → w4.1 13 34 j = σ.1 13 34 j := fun j hj => (hT j hj).trans (hc j hj)
      have hlo := sLo_le (k := k) (by omega) h24
      have hH := Hf_b (cf := cfC nu k L) h8 h.ilt (fun l S => few_b hs.wf h.wl k l S) (S := 0) (fun k hk => by rw [Nat.zero_testBit] at hk; cases hk)
      have ha' : a.1 ≤ 1073741824 := by
        rcases hk4 k (by omega) with ⟨z1, z2⟩ | ⟨z1, z2⟩
        · rw [h1, z2]; exact Nat.le_refl _
        · rw [h1]; omega
      have hnext : ∀ q, q = llS nu n i L a k → q = (List.range (k + 1)).foldl (llS nu n i L) (1073741824, 0) := fun q hq => by rw [fold_succ, ← h1, hq]
      show ∃ b' w', X12_all_l14c w (bI (a.1, 0, 0)) (nI k) = _ ∧ _
      unfold X12_all_l14c X12_all_l28
      rw [if_neg (show ¬ (4 : Int32) ≤ nI k from nI_ge (b := 4) hk (by decide)), e1, Option.bind_some, e2, Option.bind_some]
      simp only
      rw [e3, Option.bind_some]
      simp only
      rw [nI_add, Option.bind_some, e4, Option.bind_some, bI_lt (a := (a.1, 0, 0)) ha' (by omega)]
      by_cases q : sLo k L + Hf n i (cfC nu k L) 0 < a.1
      · rw [if_pos q]
        have hR4 : RXV w4 n i c s p o L := h.of hcw
        have hord4 : OrdIs (w4.1 13 41) n i (cfC nu k L) (popc i) := fun j hj => by
          rw [k4.2.1 _ _ _ (by omega)]
          exact hord3 j hj
        unfold X12_all_j70
        rw [Option.bind_some, ck3, Option.bind_some, wI_ne _ _ (by omega), hR4.ins, xsizeOf hi8, Option.bind_some, Option.bind_some]
        unfold X12_all_l93
        have hE5 : Eqo AB w4 (wI (wI w4 11 0 39 (nI k)) 11 0 38 (nI (popc i))) := (Eqo.wI (.inr (.inr ⟨rfl, rfl, .inr rfl⟩))).tr (Eqo.wI (.inr (.inr ⟨rfl, rfl, .inl rfl⟩)))
        obtain ⟨b5, w5, e5, g5, gE5⟩ := loopI (f := X12_all_l93b (nI (sLo k L + Hf n i (cfC nu k L) 0)) (nI k)) (s := (0, wI (wI w4 11 0 39 (nI k)) 11 0 38 (nI (popc i)))) (popc i) (fun m (_ : Unit) (w : SS) => ((nI m, w) : Int32 × SS)) (fun _ w => w) (fun m _ w => OrdIs (w.1 13 42) n i (cfC nu k L) m ∧ Eqo (fun k n _ => k = 13 ∧ n = 42) (wI (wI w4 11 0 39 (nI k)) 11 0 38 (nI (popc i))) w) () (wI (wI w4 11 0 39 (nI k)) 11 0 38 (nI (popc i))) rfl ⟨fun j hj => absurd hj (Nat.not_lt_zero _), Eqo.rf _ _⟩ (by omega) (fun m b w hm hI => by
          obtain ⟨g1, g2⟩ := hI
          have e38 : w.1 11 0 38 = nI (popc i) := by rw [g2.at1 (by omega), wI_eq]
          have e41 : w.1 13 41 m = nI (nxF n i (cfC nu k L) (sqF n i (cfC nu k L) m)) := by
            rw [g2.at1 (by omega), wI_ne _ _ (by omega), wI_ne _ _ (by omega)]
            exact hord4 m hm
          show ∃ b' w', X12_all_l93c w (nI (sLo k L + Hf n i (cfC nu k L) 0)) (nI k) (nI m) = _ ∧ _
          unfold X12_all_l93c
          rw [e38, if_neg (nI_ge hm (by omega)), ck41 (by omega), Option.bind_some, ck42 (by omega), Option.bind_some, Option.bind_some, nI_1, Option.bind_some, e41]
          refine ⟨(), _, rfl, fun j hj => ?_, g2.tr (Eqo.wI ⟨rfl, rfl⟩)⟩
          by_cases z : j = m
          · subst z
            rw [wI_eq]
          · rw [wI_ne _ _ (by omega)]
            exact g1 j (by omega)) (fun b w hI => by
          have e38 : w.1 11 0 38 = nI (popc i) := by rw [hI.2.at1 (by omega), wI_eq]
          show X12_all_l93c w (nI (sLo k L + Hf n i (cfC nu k L) 0)) (nI k) (nI (popc i)) = _
          unfold X12_all_l93c
          rw [e38, if_pos (nI_le (Nat.le_refl _) (by omega))])
        rw [e5, Option.bind_some]
        unfold X12_all_j122
        rw [nI_1, Option.bind_some]
        have hbi : nI (sLo k L + Hf n i (cfC nu k L) 0) = bI (sLo k L + Hf n i (cfC nu k L) 0, 0, 0) := by
          unfold bI
          rw [if_neg (by show ¬ sLo k L + Hf n i (cfC nu k L) 0 = 1073741824; omega)]
        rw [hbi]
        refine ⟨(sLo k L + Hf n i (cfC nu k L) 0, k), w5, rfl, hnext _ ?_, fun j hj => ?_, ((hE.tr hEw).tr hE5).tr (gE5.mono (fun k n j q => .inr (.inl ⟨q.1, .inr q.2⟩))), fun _ => ⟨?_, ?_, g5⟩⟩
        · unfold llS
          rw [if_pos (show sLo k L + Hf n i (fun l S => (few (rowL nu l S k L)).1) 0 < a.1 from q)]
          rfl
        · rw [gE5.at1 (by omega), wI_ne _ _ (by omega), wI_ne _ _ (by omega)]
          exact hcw j hj
        · rw [gE5.at1 (by omega), wI_eq]
        · rw [gE5.at1 (by omega), wI_ne _ _ (by omega), wI_eq]
      · rw [if_neg q]
        unfold X12_all_j122
        rw [nI_1, Option.bind_some]
        refine ⟨a, w4, rfl, hnext a ?_, hcw, hE.tr hEw, fun z => ?_⟩
        · unfold llS
          rw [if_neg (show ¬ sLo k L + Hf n i (fun l S => (few (rowL nu l S k L)).1) 0 < a.1 from q)]
        · obtain ⟨y1, y2, y3⟩ := hW z
          refine ⟨?_, ?_, fun j hj => ?_⟩
          · rw [hE4.at1 (by unfold CB CA CX XC FX; omega)]; exact y1
          · rw [hE4.at1 (by unfold CB CA CX XC FX; omega)]; exact y2
          · rw [hE4.at1 (by unfold CB CA CX XC FX; omega)]; exact y3 j hj) (fun a w hI => by
      show X12_all_l14c w (bI (a.1, 0, 0)) (nI 4) = _
      unfold X12_all_l14c
      rw [if_pos (show (4 : Int32) ≤ nI 4 by decide)])
  have e1 : b = llF nu n i L := h1
  subst e1
  have hlt : (llF nu n i L).1 ≤ 11608 := by
    rcases hk4 4 (Nat.le_refl _) with ⟨z, -⟩ | ⟨z, -⟩
    · cases z
    · exact z
  obtain ⟨y1, y2, y3⟩ := hW (by omega)
  refine ⟨w, ?_, y1, y2, y3, hc, hE⟩
  unfold X12_all_l14
  rw [e, Option.bind_some]
  unfold bI
  rw [if_neg (by show ¬ (llF nu n i L).1 = 1073741824; omega)]
def PAl : Nat → Nat → Nat → Prop := fun k n j => PV k n j ∨ OrC k n j
theorem WO_PAl {σ τ : SS} (h : Eqo WO σ τ) : Eqo PAl σ τ := h.mono (fun k n j q => by
  unfold WO WA WR at q
  unfold PAl PV OrC
  omega)
theorem AB_PAl {σ τ : SS} (h : Eqo AB σ τ) : Eqo PAl σ τ := h.mono (fun k n j q => by
  rcases q with q | q | q
  · rcases q with q | q
    · rcases q with q | q
      · rcases q with q | q
        · exact .inl (.inr (.inl (.inl q)))
        · unfold FX at q; unfold PAl PV; omega
      · unfold PAl PV; omega
    · unfold PAl PV; omega
  · unfold PAl PV OrC; omega
  · unfold PAl OrC; omega)
theorem op_all (h : RelD σ n nk nu lo i c s p o L) : OR3 PAl σ X11_all X12_all (fun τ => RelD τ n nk nu lo i c s p o L ∧ OrR τ) := by
  have h1 := h.ps (ps1 σ 0)
  obtain ⟨υ, e1, a1, a2, a3, a4, hE1⟩ := findAll_ok (by decide) h1.1 h1.2.1 h.2.2.2.inn
  have r1 := h1.keep hE1 (fun k n j q => by unfold WO WA WR at q; unfold RDc; omega)
  have r3 := r1.ps (xb_ps υ)
  obtain ⟨τ, e2, b1, b2, b3, hc, hE2⟩ := xall r3.2.2.1 r3.2.2.2
  have r4 := r3.of hE2 hc (fun k n j q => by unfold AB CB CA CX XC FX at q; omega)
  have hx : Eqo PS υ (xb υ) := xb_ps υ
  refine ⟨nI (llF nu n i L).1, υ, τ, ?_, ?_, ?_, ((((ps1 σ 0).mono (fun k n j q => .inl (PS_PV k n j q))).tr (WO_PAl hE1)).tr (hx.mono (fun k n j q => .inl (PS_PV k n j q)))).tr (AB_PAl hE2), r4, .inr ⟨?_, popc i, popc_le i, ?_, b1, ?_, fun j hj => ?_⟩⟩
  · unfold X11_all X11_all_j0
    rw [answers0, Option.bind_some, e1, Option.bind_some]
  · unfold X12_all X12_all_j0
    rw [Option.bind_some, Option.bind_some]
    exact e2
  · have g1 : υ.1 10 0 11 = 0 := by
      rw [hE1.at1 (by unfold WO WA WR; omega), wI_eq]
    have g2 := xb_st g1
    unfold St at g2 ⊢
    rw [hE2.at1 (by unfold AB CB CA CX XC FX; omega), hE2.at1 (by unfold AB CB CA CX XC FX; omega)]
    exact g2
  · rw [hE2.at1 (by unfold AB CB CA CX XC FX; omega), hx.at1 (by unfold PS; omega)]
    exact a4
  · rw [hE2.at1 (by unfold AB CB CA CX XC FX; omega), hx.at1 (by unfold PS; omega)]
    exact a1
  · rw [hE2.at1 (by unfold AB CB CA CX XC FX; omega), hx.at1 (by unfold PS; omega), a3, b2]
  · rw [hE2.at1 (by unfold AB CB CA CX XC FX; omega), hx.at1 (by unfold PS; omega), a2 j hj, b3 j hj]
theorem op_order (a : Int32) (ho : OrR σ) : OR3 PS σ (fun σ => X11_order σ a) (fun σ => X12_order σ a) (fun _ => True) := by
  have k38 : ∀ w, (s0 σ w).1 11 0 38 = σ.1 11 0 38 := fun w => by
    unfold s0
    rw [wI_ne _ _ (by omega), wI_ne _ _ (by omega), wI_ne _ _ (by omega)]
  rcases ho with ⟨o1, o2, o3⟩ | ⟨o1, m, h1, h2, h3, h4, h5⟩
  · refine refP (fun _ _ => trivial) (fun _ _ _ q => q) 8 (-1) ?_ ?_
    · show X11_order σ a = _
      unfold X11_order X11_order_j0 X11_order_j16 X11_order_j22 X7_orderLength X7_orderLength_j0
      rw [o2, Option.bind_some, answersN _ (by decide), Option.bind_some, if_pos rfl]
      by_cases q : a < 0
      · rw [if_pos q]
      · rw [if_neg q, if_neg q]
    · show X12_order (wI σ 10 0 11 8) a = _
      have e : X12_isIn (s0 σ 8) (Int32.toInt64 a) 0 (Int32.toInt64 (σ.1 11 0 38 - 1)) = some 0 := by
        have := xisIn (s0 σ 8) a 0 (-1 - 1)
        rw [if_neg (fun z => by
          have z1 := Int32.le_iff_toInt_le.mp z.1
          have z2 := Int32.le_iff_toInt_le.mp z.2
          have e0 : (0 : Int32).toInt = 0 := by decide
          have e1 : (-1 - 1 : Int32).toInt = -2 := by decide
          omega)] at this
        rw [o3]
        exact this
      unfold X12_order X12_order_j0
      rw [Option.bind_some, Option.bind_some, s0e, k38, e, Option.bind_some, if_pos rfl]
      rfl
  · rcases lt_or a m (by omega) with ⟨k, hk, rfl⟩ | ⟨ha, hn⟩
    · refine tellP (fun _ _ => trivial) (fun _ _ _ q => q) (σ.1 13 26 k) ?_ ?_
      · show X11_order σ (nI k) = _
        unfold X11_order X11_order_j0 X11_order_j22 X7_orderLength X7_orderLength_j0 X7_inOrder X7_inOrder_j0
        rw [if_neg (nI_pos (by omega)), h2, Option.bind_some, if_pos (nI_lt hk (by omega)), answers0, Option.bind_some, if_neg neg1_0, ord_at _ (by omega), Option.bind_some, Option.bind_some, wI_ne _ _ (by omega)]
      · show X12_order (wI σ 10 0 11 0) (nI k) = _
        unfold X12_order X12_order_j0
        rw [Option.bind_some, Option.bind_some, s0e, k38, h3, xin1_in _ hk (by omega), Option.bind_some, if_neg neg1_0, ck42 (by omega), Option.bind_some, h5 k hk]
        unfold s0
        rw [wI_ne _ _ (by omega), wI_ne _ _ (by omega), wI_ne _ _ (by omega)]
    · refine refP (fun _ _ => trivial) (fun _ _ _ q => q) 8 (-1) ?_ ?_
      · show X11_order σ a = _
        unfold X11_order X11_order_j0 X11_order_j16 X11_order_j22 X7_orderLength X7_orderLength_j0
        rw [h2, Option.bind_some, answersN _ (by decide), Option.bind_some, if_pos rfl]
        by_cases q : a < 0
        · rw [if_pos q]
        · rw [if_neg q, if_neg (fun z => hn ⟨q, z⟩)]
      · show X12_order (wI σ 10 0 11 8) a = _
        unfold X12_order X12_order_j0
        rw [Option.bind_some, Option.bind_some, s0e, k38, h3, xin1_out _ (by omega) ha, Option.bind_some, if_pos rfl]
        rfl
theorem op_loosens (ho : OrR σ) : OR3 PS σ X11_loosens X12_loosens (fun _ => True) := by
  have k38 : ∀ w, (s0 σ w).1 11 0 38 = σ.1 11 0 38 := fun w => by
    unfold s0
    rw [wI_ne _ _ (by omega), wI_ne _ _ (by omega), wI_ne _ _ (by omega)]
  rcases ho with ⟨o1, o2, o3⟩ | ⟨o1, m, h1, h2, h3, h4, h5⟩
  · refine refP (fun _ _ => trivial) (fun _ _ _ q => q) 8 (-1) ?_ ?_
    · unfold X11_loosens X11_loosens_j0 X11_loosens_j17 X7_hasOrder X7_hasOrder_j0
      rw [o1, zb_0, Option.bind_some, Option.bind_some, if_pos rfl, answersN _ (by decide), Option.bind_some, if_pos rfl]
    · unfold X12_loosens X12_loosens_j0
      rw [Option.bind_some, Option.bind_some, s0e, k38, o3, if_neg (by decide)]
      rfl
  · refine tellP (fun _ _ => trivial) (fun _ _ _ q => q) (σ.1 6 0 10) ?_ ?_
    · unfold X11_loosens X11_loosens_j0 X11_loosens_j17 X7_hasOrder X7_hasOrder_j0 X7_loosensFirst X7_loosensFirst_j0
      rw [o1, zb_1, Option.bind_some, Option.bind_some, if_neg neg1_0, answers0, Option.bind_some, if_neg neg1_0, Option.bind_some, wI_ne _ _ (by omega)]
    · unfold X12_loosens X12_loosens_j0
      rw [Option.bind_some, Option.bind_some, s0e, k38, h3, if_pos (nI_pos' (by omega)), h4]
      unfold s0
      rw [wI_ne _ _ (by omega), wI_ne _ _ (by omega), wI_ne _ _ (by omega)]
end OA
