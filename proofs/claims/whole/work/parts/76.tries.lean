/-! ===== mean, odds: tried, again and again ===== -/
theorem Took.PrR {σ τ υ : SS} {t f n : Nat} (h : Took σ τ t f) (hp : PrR f n σ υ) : PrR t n τ υ := by
  obtain ⟨ns, nl, K, a, b, c, e, g⟩ := hp
  exact ⟨ns, nl, K, a, b, (h.2.1 2 (by decide) (by decide)).trans c, e, Bk.congr (fun j hj => h.2.2.1 j hj) (fun _ _ _ => rfl) _ _ _ _ _ _ g a b⟩
theorem copy_ok {f : Int32 × SS → Option ((Int32 × SS) ⊕ SS)} (N t r : Nat) (hN : N < 1000) (htr : t ≠ r) (hf : ∀ k w, k < N → f (nI k, w) = some (Sum.inl (nI (k + 1), wI w 13 t k (w.1 13 r k)))) (he : ∀ w, f (nI N, w) = some (Sum.inr w)) (σ : SS) : ∃ τ, iter f NF (0, σ) = some τ ∧ (∀ j, j < N → τ.1 13 t j = σ.1 13 r j) ∧ Eqo (fun k n j => k = 13 ∧ n = t ∧ j < N) σ τ := by
  obtain ⟨b, w, e, h1, h2⟩ := loopI (f := f) (s := (0, σ)) N (fun k (_ : Unit) (w : SS) => ((nI k, w) : Int32 × SS)) (fun _ w => w) (fun k _ w => (∀ j, j < k → w.1 13 t j = σ.1 13 r j) ∧ Eqo (fun k n j => k = 13 ∧ n = t ∧ j < N) σ w) () σ rfl ⟨fun j hj => absurd hj (Nat.not_lt_zero _), Eqo.rf _ _⟩ (by omega) (fun k b w hk hI => by
    obtain ⟨h1, h2⟩ := hI
    refine ⟨(), _, hf k w hk, fun j hj => ?_, h2.tr (Eqo.wI ⟨rfl, rfl, hk⟩)⟩
    by_cases ej : j = k
    · subst ej
      rw [wI_eq]
      exact h2.at1 (by omega)
    · rw [wI_ne _ _ (by omega)]
      exact h1 j (by omega)) (fun b w hI => he w)
  exact ⟨w, e, h1, h2⟩
theorem ck45 {k : Nat} (hk : k < 132) : ck (LN 13 45) (nI k) = some k := by
  rw [show LN 13 45 = 132 by decide]
  exact ck_nI hk (by decide)
/-- the reference keeps its cells, and gives them back -/
theorem before_ok (υ : SS) (x1 x2 x3 : Int32) : ∃ τ, iter (X12_tried_l54b x1 x2 x3) NF (0, υ) = some τ ∧ (∀ j, j < 132 → τ.1 13 45 j = υ.1 13 34 j) ∧ Eqo (fun k n _ => k = 13 ∧ n = 45) υ τ := by
  obtain ⟨τ, e, h1, h2⟩ := copy_ok (f := X12_tried_l54b x1 x2 x3) 132 45 34 (by decide) (by decide) (fun k w hk => by
    show X12_tried_l54c w x1 x2 x3 (nI k) = _
    unfold X12_tried_l54c
    rw [if_neg (show ¬ (132 : Int32) ≤ nI k from nI_ge (b := 132) hk (by decide)), ckc (by omega), Option.bind_some, ck45 hk, Option.bind_some, Option.bind_some, nI_1, Option.bind_some]) (fun w => by
    show X12_tried_l54c w x1 x2 x3 (nI 132) = _
    unfold X12_tried_l54c
    rw [if_pos (by decide)]) υ
  exact ⟨τ, e, h1, h2.mono (fun k n j q => ⟨q.1, q.2.1⟩)⟩
theorem giveback_ok (υ : SS) : ∃ τ, (∀ x1 x2 x3 y4 x6, iter (X12_tried_l144b x1 x2 x3 y4 x6) NF (0, υ) = some τ) ∧ (∀ j, j < 132 → τ.1 13 34 j = υ.1 13 45 j) ∧ Eqo (fun k n j => k = 13 ∧ n = 34 ∧ j < 132) υ τ := by
  obtain ⟨τ, e, h1, h2⟩ := copy_ok (f := X12_tried_l144b 0 0 0 0 0) 132 34 45 (by decide) (by decide) (fun k w hk => by
    show X12_tried_l144c w 0 0 0 0 0 (nI k) = _
    unfold X12_tried_l144c
    rw [if_neg (show ¬ (132 : Int32) ≤ nI k from nI_ge (b := 132) hk (by decide)), ck45 hk, Option.bind_some, ckc (by omega), Option.bind_some, Option.bind_some, nI_1, Option.bind_some]) (fun w => by
    show X12_tried_l144c w 0 0 0 0 0 (nI 132) = _
    unfold X12_tried_l144c
    rw [if_pos (by decide)]) υ
  exact ⟨τ, fun x1 x2 x3 y4 x6 => e, h1, h2⟩
/-- the class's frame: the spare drawer, and its run -/
def TCl : Nat → Nat → Nat → Prop := fun k n j => SP k n j ∨ LRn 1 k n j
/-- the reference's, its cells given back -/
def TXf : Nat → Nat → Nat → Prop := fun k n j => LXt k n j ∨ (k = 13 ∧ n = 45) ∨ (k = 13 ∧ n = 34 ∧ j < 132)
theorem TCl_0 {k n j : Nat} (h : TCl k n j) : ¬ ((k = 0 ∧ n = 0) ∨ (k = 13 ∧ n < 4) ∨ (k = 8 ∧ n = 0) ∨ (k = 13 ∧ n = 34)) := by
  unfold TCl SP LRn LCt LC VO VC WF WR at h
  omega
theorem tryloop {σ0 υ0 : SS} {n nk i c : Nat} {s p o : Int32} {nu : Nat → Nat → Nat} {lo : Nat → Nat} {L : List X3} {f g : Int64 × Int32 × SS → Option ((Int64 × Int32 × SS) ⊕ (Int64 × SS))} {a m : Nat} (ham : a + m ≤ 10000) (hm : m ≤ 20) (hth : ∃ b : Bool, σ0.1 8 0 1 = if b = true then 1 else 0) (hs : RS σ0 0 n nk nu lo) (h : RV σ0 0 n i c s p o L) (hxs : RXS υ0 n nk nu lo) (hx : RXV υ0 n i c s p o L) (hp : PrR 0 n σ0 υ0) (h45 : ∀ j, j < 132 → υ0.1 13 45 j = υ0.1 13 34 j) (cv rv : SS → Option Int64)
    (hval : ∀ w v i' c' s' p' o' L', RS w 0 n nk nu lo → RV w 0 n i c s p o L → RS w 1 n nk nu lo → RV w 1 n i' c' s' p' o' L' → RXS v n nk nu lo → RXV v n i' c' s' p' o' L' → v.1 13 45 5 = s → ∃ u : Int64, cv w = some u ∧ rv v = some u ∧ -(2147483648 : Int) ≤ u.toInt ∧ u.toInt ≤ 2147483648)
    (hf : ∀ k y w w1 (r : Int32) w2 u, k < m → X0_takeOver w 1 0 = some w1 → X2_run w1 1 (nI (a + k)) = some (r, w2) → cv w2 = some u → f (y, nI k, w) = some (Sum.inl (y + u, nI (k + 1), w2)))
    (hg : ∀ k y v v1 u v2, k < m → X12_runs v (nI (a + k)) = some v1 → rv v1 = some u → (∀ x1 x2 x3 y4 x6, iter (X12_tried_l144b x1 x2 x3 y4 x6) NF (0, v1) = some v2) → g (y, nI k, v) = some (Sum.inl (y + u, nI (k + 1), v2)))
    (hfe : ∀ y w, f (y, nI m, w) = some (Sum.inr (y, w))) (hge : ∀ y v, g (y, nI m, v) = some (Sum.inr (y, v))) :
    ∃ y w v, iter f NF (0, 0, σ0) = some (y, w) ∧ iter g NF (0, 0, υ0) = some (y, v) ∧ Eqo TCl σ0 w ∧ Eqo TXf υ0 v ∧ (∀ j, v.1 13 34 j = υ0.1 13 34 j) ∧ -(2147483648 * 20 : Int) ≤ y.toInt := by
  have main : ∀ r k y (w v : SS), r + k = m → Eqo TCl σ0 w → Eqo TXf υ0 v → (∀ j, v.1 13 34 j = υ0.1 13 34 j) → (∀ j, j < 132 → v.1 13 45 j = υ0.1 13 34 j) → (-(2147483648 * (k : Int)) ≤ y.toInt ∧ y.toInt ≤ 2147483648 * (k : Int)) → ∃ y' w' v', (∀ F, r < F → iter f F (y, nI k, w) = some (y', w')) ∧ (∀ F, r < F → iter g F (y, nI k, v) = some (y', v')) ∧ Eqo TCl σ0 w' ∧ Eqo TXf υ0 v' ∧ (∀ j, v'.1 13 34 j = υ0.1 13 34 j) ∧ -(2147483648 * (m : Int)) ≤ y'.toInt := by
    intro r
    induction r with
    | zero =>
      intro k y w v hk hE hE2 e34 hv hy
      have hk : k = m := by omega
      subst hk
      refine ⟨y, w, v, fun F hF => ?_, fun F hF => ?_, hE, hE2, e34, hy.1⟩
      · obtain ⟨F, rfl⟩ := Nat.exists_eq_succ_of_ne_zero (by omega : F ≠ 0)
        exact it_r (hfe y w) F
      · obtain ⟨F, rfl⟩ := Nat.exists_eq_succ_of_ne_zero (by omega : F ≠ 0)
        exact it_r (hge y v) F
    | succ r ih =>
      intro k y w v hk hE hE2 e34 hv hy
      have hs1 : RS w 0 n nk nu lo := hs.keep hE (fun k m j q z => TCl_0 q (by omega))
      have h1 : RV w 0 n i c s p o L := h.keep hE (fun k m j q z => TCl_0 q (by omega))
      have hth1 : ∃ b : Bool, w.1 8 0 1 = if b = true then 1 else 0 := by rw [hE.at1 (fun q => TCl_0 q (by omega))]; exact hth
      obtain ⟨w1, e1, hT, E1⟩ := takeOver_ok (t := 1) (f := 0) (by decide) (by decide) (by decide) hth1
      have hxs1 : RXS v n nk nu lo := hxs.of (fun j _ => e34 j)
      have hx1 : RXV v n i c s p o L := hx.of (fun j _ => e34 j)
      have hp1 : PrR 1 n w1 v := hT.PrR (hp.keep2 (hE.at1 (fun q => TCl_0 q (by omega))) (fun j => hE.at1 (fun q => TCl_0 q (by omega))) (fun j _ => e34 j))
      obtain ⟨done, w2, v1, e2, f1, -, -, -, ⟨i', c', s', p', o', L', A1, A2, A3, A4⟩, E2, F1⟩ := run_ok (d := 1) (by decide) (hT.RS hs1) (hT.RV h1) hxs1 hx1 hp1 (w := a + k) (by omega)
      have EC : Eqo TCl w w2 := ((DC_SP E1).mono (fun _ _ _ q => .inl q)).tr (E2.mono (fun _ _ _ q => .inr q))
      have hs2 : RS w2 0 n nk nu lo := hs1.keep EC (fun k m j q z => TCl_0 q (by omega))
      have h2 : RV w2 0 n i c s p o L := h1.keep EC (fun k m j q z => TCl_0 q (by omega))
      have e45 : ∀ j, v1.1 13 45 j = v.1 13 45 j := fun j => F1.at1 (by unfold LXt LXs LX XO XC FX; omega)
      obtain ⟨u, c1, c2, u1, u2⟩ := hval w2 v1 i' c' s' p' o' L' hs2 h2 A1 A2 A3 A4 (by rw [e45, hv 5 (by decide)]; exact hx.sec)
      obtain ⟨v2, g1, g2, G2⟩ := giveback_ok v1
      have ef := hf k y w w1 _ w2 u (by omega) e1 e2 c1
      have eg := hg k y v v1 u v2 (by omega) f1 c2 g1
      have EX : Eqo TXf v v2 := (F1.mono (fun _ _ _ q => .inl q)).tr (G2.mono (fun _ _ _ q => .inr (.inr q)))
      have e34' : ∀ j, v2.1 13 34 j = υ0.1 13 34 j := fun j => by
        by_cases z3 : j < 132
        · rw [g2 j z3, e45, hv j z3]
        · rw [G2.at1 (by omega), LXt_G F1 j (by omega), e34]
      have hyb : (y + u).toInt = y.toInt + u.toInt := by
        rw [Int64.toInt_add, Int.bmod_eq_of_le (by omega) (by omega)]
      obtain ⟨y', w', v', b1, b2, b3, b4, b5, b6⟩ := ih (k + 1) (y + u) w2 v2 (by omega) (hE.tr EC) (hE2.tr EX) e34' (fun j hj => by rw [G2.at1 (by omega), e45, hv j hj]) (by omega)
      refine ⟨y', w', v', fun F hF => ?_, fun F hF => ?_, b3, b4, b5, b6⟩
      · obtain ⟨F, rfl⟩ := Nat.exists_eq_succ_of_ne_zero (by omega : F ≠ 0)
        rw [it_l ef]
        exact b1 F (by omega)
      · obtain ⟨F, rfl⟩ := Nat.exists_eq_succ_of_ne_zero (by omega : F ≠ 0)
        rw [it_l eg]
        exact b2 F (by omega)
  obtain ⟨y, w, v, b1, b2, b3, b4, b5, b6⟩ := main m 0 0 σ0 υ0 (by omega) (Eqo.rf _ _) (Eqo.rf _ _) (fun _ => rfl) h45 (by decide)
  exact ⟨y, w, v, b1 NF (by unfold NF; omega), b2 NF (by unfold NF; omega), b3, b4, b5, by omega⟩
