/-! ===== ALL: the class, the order ===== -/
def WO : Nat → Nat → Nat → Prop := fun k n j => WA k n j ∨ (k = 13 ∧ n = 26) ∨ (k = 6 ∧ n = 0 ∧ 9 ≤ j ∧ j ≤ 11)
def OrdIs (f : Nat → Int32) (n i : Nat) (cf : Nat → Nat → Nat) (m : Nat) : Prop := ∀ j, j < m → f j = nI (nxF n i cf (sqF n i cf j))
section AD
variable {σ : SS} {d n nk i c : Nat} {s p o : Int32} {nu : Nat → Nat → Nat} {lo : Nat → Nat} {L : List X3}
theorem firstOf_ok (hd : d < 5) (hs : RS σ d n nk nu lo) (h : RV σ d n i c s p o L) (hin : inL i L) {S k : Nat} (hS : Sub S i) (hk : k ≤ 3) (hf : σ.1 6 0 10 = nI k) (hc : RC σ n i (cfC nu k L) 0) : ∃ τ, X7_firstOfBest σ d (nI (S ||| oun n i)) = some (if S = i then -1 else nI (nxF n i (cfC nu k L) S), τ) ∧ Eqo WR σ τ := by
  have h8 := hs.n8
  have hi8 := p256 h8 h.ilt
  have hcf := cfC_b hs h k
  have hlt := so_lt h8 h.ilt hS
  have h256 := p2le h8
  have key : ∃ t, iter (X7_firstOfBest_l2b d (nI (S ||| oun n i))) NF (nI 0, σ) = some t ∧ ((S = i ∧ ∃ τ, t = Sum.inr τ ∧ Eqo WR σ τ) ∨ (S ≠ i ∧ ∃ τ, t = Sum.inl (nI (nxF n i (cfC nu k L) S), τ) ∧ Eqo WR σ τ)) := by
    refine iter_upto (fun m (st : Int32 × SS) => st.1 = nI m ∧ Eqo WR σ st.2 ∧ (S ≠ i → m ≤ nxF n i (cfC nu k L) S)) n (fun t => (S = i ∧ ∃ τ, t = Sum.inr τ ∧ Eqo WR σ τ) ∨ (S ≠ i ∧ ∃ τ, t = Sum.inl (nI (nxF n i (cfC nu k L) S), τ) ∧ Eqo WR σ τ)) (fun m st hm hI => ?_) (fun st hI => ?_) ⟨rfl, Eqo.rf _ _, fun _ => Nat.zero_le _⟩ (by omega)
    · obtain ⟨x, w⟩ := st
      obtain ⟨rfl, hE, hle⟩ := hI
      simp only at hE
      have hs' : RS w d n nk nu lo := hs.keep hE (fun k m j q => by unfold WR at q; omega)
      have h' : RV w d n i c s p o L := h.keep hE (fun k m j q => by unfold WR at q; omega)
      have hbt := so_bit h8 hS hm
      have e0 : X7_firstOfBest_l2b d (nI (S ||| oun n i)) (nI m, w) = X7_firstOfBest_l2c w d (nI (S ||| oun n i)) (nI m) := rfl
      rw [e0]
      unfold X7_firstOfBest_l2c X7_firstOfBest_j43 X0_leadCount X0_leadCount_j0
      rw [hs'.ln, Option.bind_some, if_neg (nI_ge hm (by omega)), show ((nI (S ||| oun n i) >>> (nI m &&& 31)) &&& 1) = nI (if (S ||| oun n i).testBit m = true then 1 else 0) from hbit (by omega) (by omega)]
      by_cases q : alp i S m = true
      · have qb := hbt.mpr q
        obtain ⟨a1, a2⟩ := alp_iff.mp q
        have hne : S ≠ i := fun e => by rw [e, a1] at a2; cases a2
        obtain ⟨-, g1, g2, g3, g4⟩ := nx_ok h8 h.ilt hcf hS hne
        have hsub := or_sub hS a1
        have hH := Hf_b h8 h.ilt hcf hsub
        have hH2 := Hf_b h8 h.ilt hcf hS
        have hcm := hcf m S
        obtain ⟨w', e', hE'⟩ := withNext_ok hd hs' h' hin hS hm hk
        rw [qb, if_neg (show ¬ (false = true) by decide), if_pos (show nI 0 = 0 from rfl), hE.at1 (by unfold WR; omega), hf, e', Option.bind_some]
        simp only
        rw [rest_at w' (by omega), Option.bind_some, hE'.at1 (by unfold WR; omega), hE.at1 (by unfold WR; omega), hE.at1 (by unfold WR; omega), hc _ hsub (Nat.zero_le _), hc _ hS (Nat.zero_le _), nI_add, nI_1, Option.bind_some]
        by_cases z : cfC nu k L m S + Hf n i (cfC nu k L) (S ||| 2 ^ m) = Hf n i (cfC nu k L) S
        · right
          rw [if_pos (by rw [z])]
          have hmx : m = nxF n i (cfC nu k L) S := by
            have h1 := hle hne
            rcases Nat.lt_or_ge m (nxF n i (cfC nu k L) S) with y | y
            · have := g4 m y
              unfold nxp at this
              rw [q, Bool.true_and, decide_eq_false_iff_not] at this
              exact absurd z this
            · omega
          exact ⟨_, rfl, .inr ⟨hne, w', by rw [← hmx], hE.tr hE'⟩⟩
        · left
          rw [if_neg (fun y => z ((nI_eq (by omega) (by omega)).mp y))]
          refine ⟨_, rfl, rfl, hE.tr hE', fun _ => ?_⟩
          have h1 := hle hne
          rcases Nat.lt_or_ge m (nxF n i (cfC nu k L) S) with y | y
          · exact y
          · have : m = nxF n i (cfC nu k L) S := by omega
            rw [← this] at g3
            exact absurd g3 z
      · have qb : (S ||| oun n i).testBit m = true := by
          cases hb : (S ||| oun n i).testBit m with
          | true => rfl
          | false => exact absurd (hbt.mp hb) q
        left
        rw [qb, if_pos (show (true = true) from rfl), if_neg (show ¬ nI 1 = 0 by decide), nI_1, Option.bind_some]
        refine ⟨_, rfl, rfl, hE, fun hne => ?_⟩
        obtain ⟨-, g1, g2, g3, g4⟩ := nx_ok h8 h.ilt hcf hS hne
        have h1 := hle hne
        rcases Nat.lt_or_ge m (nxF n i (cfC nu k L) S) with y | y
        · exact y
        · have : m = nxF n i (cfC nu k L) S := by omega
          rw [← this] at g2
          exact absurd g2 q
    · obtain ⟨x, w⟩ := st
      obtain ⟨rfl, hE, hle⟩ := hI
      simp only at hE
      have hs' : RS w d n nk nu lo := hs.keep hE (fun k m j q => by unfold WR at q; omega)
      refine ⟨Sum.inr w, ?_, .inl ⟨?_, w, rfl, hE⟩⟩
      · show X7_firstOfBest_l2c w d (nI (S ||| oun n i)) (nI n) = _
        unfold X7_firstOfBest_l2c X0_leadCount X0_leadCount_j0
        rw [hs'.ln, Option.bind_some, if_pos (nI_le (Nat.le_refl _) (by omega))]
      · rcases Classical.em (S = i) with z | z
        · exact z
        · obtain ⟨-, g1, -, -, -⟩ := nx_ok h8 h.ilt hcf hS z
          have := hle z
          omega
  obtain ⟨t, e, ht⟩ := key
  unfold X7_firstOfBest X7_firstOfBest_j0 X7_firstOfBest_l2
  rw [show (0 : Int32) = nI 0 from rfl, e, Option.bind_some]
  rcases ht with ⟨z, τ, rfl, hE⟩ | ⟨z, τ, rfl, hE⟩
  · rw [if_pos z]
    exact ⟨τ, rfl, hE⟩
  · rw [if_neg z]
    exact ⟨τ, rfl, hE⟩
theorem popc_le_n {n i : Nat} (hn : n ≤ 8) (hi : i < 2 ^ n) : popc i ≤ n := by
  rw [popc_n n hn i hi]
  have := List.length_filter_le (fun k => i.testBit k) (List.range n)
  rwa [List.length_range] at this
theorem layOrder_ok (hd : d < 5) (hs : RS σ d n nk nu lo) (h : RV σ d n i c s p o L) (hin : inL i L) {k : Nat} (hk : k ≤ 3) (hf : σ.1 6 0 10 = nI k) (hc : RC σ n i (cfC nu k L) 0) : ∃ τ, X7_layOrder σ d = some τ ∧ τ.1 6 0 9 = nI (popc i) ∧ OrdIs (τ.1 13 26) n i (cfC nu k L) (popc i) ∧ τ.1 6 0 10 = nI k ∧ τ.1 6 0 11 = σ.1 6 0 11 ∧ Eqo WO σ τ := by
  have h8 := hs.n8
  have hi8 := p256 h8 h.ilt
  have hcf := cfC_b hs h k
  have hpn := popc_le_n h8 h.ilt
  have hE0 : Eqo (fun k n j => WR k n j ∨ (k = 13 ∧ n = 26) ∨ (k = 6 ∧ n = 0 ∧ j = 9)) σ (wI σ 6 0 9 0) := Eqo.wI (.inr (.inr ⟨rfl, rfl, rfl⟩))
  have hs0 : RS (wI σ 6 0 9 0) d n nk nu lo := hs.keep hE0 (fun k m j q => by unfold WR at q; omega)
  have h0 : RV (wI σ 6 0 9 0) d n i c s p o L := h.keep hE0 (fun k m j q => by unfold WR at q; omega)
  obtain ⟨b, w, e, hE, hlen, hord⟩ := loopI (f := X7_layOrder_l19b d) (s := (nI (oun n i), 0, wI σ 6 0 9 0)) n (fun m (_ : Unit) (w : SS) => ((nI (sqF n i (cfC nu k L) m ||| oun n i), nI m, w) : Int32 × Int32 × SS)) (fun _ w => w) (fun m _ w => Eqo (fun k n j => WR k n j ∨ (k = 13 ∧ n = 26) ∨ (k = 6 ∧ n = 0 ∧ j = 9)) σ w ∧ w.1 6 0 9 = nI (min m (popc i)) ∧ OrdIs (w.1 13 26) n i (cfC nu k L) (min m (popc i))) () (wI σ 6 0 9 0) (by
      have : sqF n i (cfC nu k L) 0 = 0 := rfl
      rw [this, so_0 h8]
      rfl) ⟨hE0, by rw [wI_eq, Nat.zero_min]; rfl, fun j hj => by rw [Nat.zero_min] at hj; exact absurd hj (Nat.not_lt_zero _)⟩ (by omega) (fun m b w hm hI => by
      obtain ⟨hE, hlen, hord⟩ := hI
      have hs' : RS w d n nk nu lo := hs.keep hE (fun k m j q => by unfold WR at q; omega)
      have h' : RV w d n i c s p o L := h.keep hE (fun k m j q => by unfold WR at q; omega)
      obtain ⟨sq1, sq2, sq3⟩ := sq_ok h8 h.ilt hcf m
      have hf' : w.1 6 0 10 = nI k := by rw [hE.at1 (by unfold WR; omega)]; exact hf
      have hc' : RC w n i (cfC nu k L) 0 := fun S hS hm => by rw [hE.at1 (by unfold WR; omega)]; exact hc S hS hm
      obtain ⟨w1, e1, hE1⟩ := firstOf_ok hd hs' h' hin sq1 hk hf' hc'
      show ∃ b' w', X7_layOrder_l19c w d (nI (sqF n i (cfC nu k L) m ||| oun n i)) (nI m) = _ ∧ _
      unfold X7_layOrder_l19c X7_layOrder_j72 X0_leadCount X0_leadCount_j0
      rw [hs'.ln, Option.bind_some, if_neg (nI_ge hm (by omega)), e1, Option.bind_some]
      simp only
      by_cases q : sqF n i (cfC nu k L) m = i
      · have hmp : popc i ≤ m := by
          rcases Nat.lt_or_ge m (popc i) with z | z
          · exact absurd q (sq_ne h8 h.ilt hcf z)
          · exact z
        rw [if_pos q, if_pos rfl, nI_1, Option.bind_some]
        have hsq : sqF n i (cfC nu k L) (m + 1) = sqF n i (cfC nu k L) m := by
          rw [sqF, if_pos q]
        rw [hsq]
        refine ⟨(), w1, rfl, hE.tr (hE1.mono (fun _ _ _ q => .inl q)), ?_, fun j hj => ?_⟩
        · rw [hE1.at1 (by unfold WR; omega), hlen]
          congr 1
          omega
        · rw [hE1.at1 (by unfold WR; omega)]
          exact hord j (by omega)
      · have hmp : m < popc i := by
          rcases Nat.lt_or_ge m (popc i) with z | z
          · exact z
          · exact absurd (sq3 z) q
        obtain ⟨-, g1, g2, -, -⟩ := nx_ok h8 h.ilt hcf sq1 q
        rw [if_neg q, if_neg (show ¬ nI (nxF n i (cfC nu k L) (sqF n i (cfC nu k L) m)) = -1 from ne_m1 (by omega)), hE1.at1 (by unfold WR; omega), hlen, show min m (popc i) = m by omega, ord_put w1 (by omega), Option.bind_some, wI_ne _ _ (by omega), hE1.at1 (by unfold WR; omega), hlen, show min m (popc i) = m by omega, nI_1, Option.bind_some]
        have hor : nI (sqF n i (cfC nu k L) m ||| oun n i) ||| (1 <<< (nI (nxF n i (cfC nu k L) (sqF n i (cfC nu k L) m)) &&& 31)) = nI (sqF n i (cfC nu k L) (m + 1) ||| oun n i) := by
          rw [show (1 : Int32) <<< (nI (nxF n i (cfC nu k L) (sqF n i (cfC nu k L) m)) &&& 31) = nI (2 ^ (nxF n i (cfC nu k L) (sqF n i (cfC nu k L) m))) from hsh (by omega), nI_or, so_or, sqF, if_neg q]
        rw [hor, Option.bind_some, Option.bind_some]
        refine ⟨(), _, rfl, ((hE.tr (hE1.mono (fun _ _ _ q => .inl q))).tr (Eqo.wI (.inr (.inl ⟨rfl, rfl⟩)))).tr (Eqo.wI (.inr (.inr ⟨rfl, rfl, rfl⟩))), ?_, fun j hj => ?_⟩
        · rw [wI_eq, show min (m + 1) (popc i) = m + 1 by omega]
        · rw [wI_ne _ _ (by omega)]
          by_cases z : j = m
          · subst z
            rw [wI_eq]
          · rw [wI_ne _ _ (by omega), hE1.at1 (by unfold WR; omega)]
            exact hord j (by omega)) (fun b w hI => by
      have hs' : RS w d n nk nu lo := hs.keep hI.1 (fun k m j q => by unfold WR at q; omega)
      show X7_layOrder_l19c w d (nI (sqF n i (cfC nu k L) n ||| oun n i)) (nI n) = _
      unfold X7_layOrder_l19c X0_leadCount X0_leadCount_j0
      rw [hs'.ln, Option.bind_some, if_pos (nI_le (Nat.le_refl _) (by omega))])
  rw [show min n (popc i) = popc i by omega] at hlen hord
  refine ⟨w, ?_, hlen, hord, ?_, ?_, hE.mono (fun k n j q => by unfold WR at q; unfold WO WA WR; omega)⟩
  · unfold X7_layOrder X7_layOrder_j0 X7_layOrder_l19
    rw [Option.bind_some, everyone_ok hs0, Option.bind_some, inside_ok h0, Option.bind_some, outset_ok h8, Option.bind_some, e, Option.bind_some]
  · rw [hE.at1 (by unfold WR; omega)]
    exact hf
  · exact hE.at1 (by unfold WR; omega)
theorem llS_k (n i : Nat) (hn : n ≤ 8) (hi : i < 2 ^ n) (nk : Nat) (hw : wfS n nk nu lo) (hL : wfL n L) : ∀ m, m ≤ 4 → (m = 0 ∧ (List.range m).foldl (llS nu n i L) (1073741824, 0) = (1073741824, 0)) ∨ (((List.range m).foldl (llS nu n i L) (1073741824, 0)).1 ≤ 11608 ∧ ((List.range m).foldl (llS nu n i L) (1073741824, 0)).2 ≤ 3) := by
  have hb : ∀ k, k ≤ 3 → sLo k L + Hf n i (fun l S => (few (rowL nu l S k L)).1) 0 ≤ 11608 := fun k hk => by
    have h1 := sLo_le hk hL.1
    have h2 := Hf_b (cf := fun l S => (few (rowL nu l S k L)).1) hn hi (fun l S => few_b hw hL k l S) (S := 0) (fun k hk => by rw [Nat.zero_testBit] at hk; cases hk)
    omega
  intro m
  induction m with
  | zero => intro _; exact .inl ⟨rfl, rfl⟩
  | succ m ih =>
    intro hm
    right
    rw [fold_succ]
    have h1 := hb m (by omega)
    rcases ih (by omega) with ⟨z1, z2⟩ | ⟨z1, z2⟩
    · rw [z2]
      unfold llS
      rw [if_pos (by show _ < 1073741824; omega)]
      exact ⟨h1, by show m ≤ 3; omega⟩
    · unfold llS
      split
      · exact ⟨h1, by show m ≤ 3; omega⟩
      · exact ⟨z1, z2⟩
theorem findAll_ok (hd : d < 5) (hs : RS σ d n nk nu lo) (h : RV σ d n i c s p o L) (hin : inL i L) : ∃ τ, X7_findAll σ d = some (nI (llF nu n i L).1, τ) ∧ τ.1 6 0 9 = nI (popc i) ∧ OrdIs (τ.1 13 26) n i (cfC nu (llF nu n i L).2 L) (popc i) ∧ τ.1 6 0 10 = nI (llF nu n i L).2 ∧ τ.1 6 0 11 = 1 ∧ Eqo WO σ τ := by
  have h8 := hs.n8
  have h24 := h.l24
  have hk4 := llS_k (nu := nu) (lo := lo) (L := L) n i h8 h.ilt nk hs.wf h.wl
  obtain ⟨b, w, e, h1, hE⟩ := loopI (f := X7_findAll_l8b d) (s := (1073741824, 0, 0, σ)) 4 (fun m (b : Nat × Nat) (w : SS) => ((nI b.1, nI b.2, nI m, w) : Int32 × Int32 × Int32 × SS)) (fun b w => ((nI b.1, nI b.2, w) : Int32 × Int32 × SS)) (fun m b w => b = (List.range m).foldl (llS nu n i L) (1073741824, 0) ∧ Eqo WA σ w) (1073741824, 0) σ rfl ⟨rfl, Eqo.rf _ _⟩ (by decide) (fun m a w hm hI => by
      obtain ⟨h1, hE⟩ := hI
      have hs' : RS w d n nk nu lo := hs.keep hE (fun k m j q => by unfold WA WR at q; omega)
      have h' : RV w d n i c s p o L := h.keep hE (fun k m j q => by unfold WA WR at q; omega)
      have ha : a.1 ≤ 1073741824 := by
        rcases hk4 m (by omega) with ⟨z1, z2⟩ | ⟨z1, z2⟩
        · rw [h1, z2]; exact Nat.le_refl _
        · rw [h1]; omega
      have hlo := sLo_le (k := m) (by omega) h24
      have hH := Hf_b (cf := cfC nu m L) h8 h.ilt (cfC_b hs h m) (S := 0) (fun k hk => by rw [Nat.zero_testBit] at hk; cases hk)
      have hnext : ∀ q, q = llS nu n i L a m → q = (List.range (m + 1)).foldl (llS nu n i L) (1073741824, 0) := fun q hq => by rw [fold_succ, ← h1, hq]
      show ∃ b' w', X7_findAll_l8c w d (nI a.1) (nI a.2) (nI m) = _ ∧ _
      unfold X7_findAll_l8c X7_findAll_j43 X7_findAll_j57
      rw [if_neg (show ¬ (3 : Int32) < nI m from nI_nlt (a := 3) (by omega) (by decide)), toLoosen_ok hd h' (by omega), Option.bind_some, nI_1, Option.bind_some]
      by_cases q : a.1 ≤ sLo m L
      · rw [if_pos (nI_le q (by omega)), if_pos (show nI a.1 ≤ 1073741824 from nI_le (b := 1073741824) ha (by decide)), if_pos (show nI a.1 ≤ 1073741824 from nI_le (b := 1073741824) ha (by decide))]
        refine ⟨a, w, rfl, hnext a ?_, hE⟩
        unfold llS
        rw [if_neg (by
          show ¬ sLo m L + Hf n i (cfC nu m L) 0 < a.1
          omega)]
      · rw [if_neg (nI_ge (by omega) (by omega))]
        obtain ⟨w', e', -, hE'⟩ := layRest_ok hd hs' h' hin (k := m) (by omega)
        rw [e', Option.bind_some, nI_add]
        simp only [nI_1, Option.bind_some]
        by_cases z : sLo m L + Hf n i (cfC nu m L) 0 < a.1
        · rw [if_neg (nI_ge z (by omega)), if_neg (nI_ge z (by omega))]
          exact ⟨(sLo m L + Hf n i (cfC nu m L) 0, m), w', rfl, hnext _ (by
            unfold llS
            rw [if_pos (show sLo m L + Hf n i (fun l S => (few (rowL nu l S m L)).1) 0 < a.1 from z)]
            rfl), hE.tr hE'⟩
        · rw [if_pos (nI_le (by omega) (by omega)), if_pos (nI_le (by omega) (by omega))]
          exact ⟨a, w', rfl, hnext a (by
            unfold llS
            rw [if_neg (show ¬ sLo m L + Hf n i (fun l S => (few (rowL nu l S m L)).1) 0 < a.1 from z)]), hE.tr hE'⟩) (fun a w hI => by
      show X7_findAll_l8c w d (nI a.1) (nI a.2) (nI 4) = _
      unfold X7_findAll_l8c
      rw [if_pos (show (3 : Int32) < nI 4 by decide)])
  have hb : b = llF nu n i L := h1
  subst hb
  have hbest : (llF nu n i L).2 ≤ 3 := by
    rcases hk4 4 (Nat.le_refl _) with ⟨z, -⟩ | ⟨-, z⟩
    · cases z
    · exact z
  have hE1 : Eqo WO w (wI (wI w 6 0 10 (nI (llF nu n i L).2)) 6 0 11 1) := (Eqo.wI (.inr (.inr ⟨rfl, rfl, by decide, by decide⟩))).tr (Eqo.wI (.inr (.inr ⟨rfl, rfl, by decide, by decide⟩)))
  have hEw : Eqo WO σ (wI (wI w 6 0 10 (nI (llF nu n i L).2)) 6 0 11 1) := (hE.mono (fun _ _ _ q => .inl q)).tr hE1
  have hs1 : RS (wI (wI w 6 0 10 (nI (llF nu n i L).2)) 6 0 11 1) d n nk nu lo := hs.keep hEw (fun k m j q => by unfold WO WA WR at q; omega)
  have h1' : RV (wI (wI w 6 0 10 (nI (llF nu n i L).2)) 6 0 11 1) d n i c s p o L := h.keep hEw (fun k m j q => by unfold WO WA WR at q; omega)
  obtain ⟨w2, e2, hC2, hE2⟩ := layRest_ok hd hs1 h1' hin hbest
  have hs2 : RS w2 d n nk nu lo := hs1.keep hE2 (fun k m j q => by unfold WA WR at q; omega)
  have h2' : RV w2 d n i c s p o L := h1'.keep hE2 (fun k m j q => by unfold WA WR at q; omega)
  have hf2 : w2.1 6 0 10 = nI (llF nu n i L).2 := by
    rw [hE2.at1 (by unfold WA WR; omega), wI_ne _ _ (by omega), wI_eq]
  have hg2 : w2.1 6 0 11 = 1 := by
    rw [hE2.at1 (by unfold WA WR; omega), wI_eq]
  obtain ⟨w3, e3, g1, g2, g3, g4, hE3⟩ := layOrder_ok hd hs2 h2' hin hbest hf2 hC2
  refine ⟨w3, ?_, g1, g2, g3, by rw [g4, hg2], (hEw.tr (hE2.mono (fun _ _ _ q => .inl q))).tr hE3⟩
  unfold X7_findAll X7_findAll_j0 X7_findAll_l8
  rw [e, Option.bind_some]
  simp only
  rw [Option.bind_some, Option.bind_some, e2, Option.bind_some]
  simp only
  rw [e3, Option.bind_some]
end AD
