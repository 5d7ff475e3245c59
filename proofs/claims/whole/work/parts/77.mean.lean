/-! ===== mean, odds ===== -/
def PM : Nat → Nat → Nat → Prop := fun k n j => PS k n j ∨ TCl k n j ∨ TXf k n j ∨ FrC k n j
theorem i1 : (1 : Int64) = (nI 1).toInt64 := by decide
theorem i0 : (0 : Int64) = (nI 0).toInt64 := by decide
theorem i20 : (20 : Int64) = (nI 20).toInt64 := by decide
theorem xisIn_g (σ : SS) (x lo hi : Int32) (a b : Int64) (ha : a = lo.toInt64) (hb : b = hi.toInt64) : X12_isIn σ x.toInt64 a b = some (if lo ≤ x ∧ x ≤ hi then 1 else 0) := by
  rw [ha, hb]
  exact xisIn σ x lo hi
theorem seeds_or (x1 x2 : Int32) : (∃ a m, x1 = nI a ∧ x2 = nI m ∧ 1 ≤ m ∧ m ≤ 20 ∧ a + m ≤ 10000) ∨ ((∀ σ, X11_seedsStatus σ x1 x2 = some 5) ∧ ∀ σ x, X12_tried σ x x1 x2 = some (0, wI σ 11 0 0 5)) := by
  have j27 : ∀ σ, X12_tried_j27 σ = some (0, wI σ 11 0 0 5) := fun σ => by
    unfold X12_tried_j27
    rw [no_eq, Option.bind_some, zb_0, Option.bind_some]
  have x20 : ∀ σ : SS, X12_isIn σ (Int32.toInt64 x2) 1 20 = some (if nI 1 ≤ x2 ∧ x2 ≤ nI 20 then 1 else 0) := fun σ => xisIn_g σ x2 (nI 1) (nI 20) _ _ i1 i20
  by_cases h2 : nI 1 ≤ x2 ∧ x2 ≤ nI 20
  · have : ∃ m, x2 = nI m ∧ 1 ≤ m ∧ m ≤ 20 := by
      rcases in_or x2 20 (by decide) with ⟨w, hw, rfl⟩ | ⟨-, hn⟩
      · refine ⟨w, rfl, ?_, hw⟩
        by_cases z : w = 0
        · subst z
          exact absurd h2.1 (by decide)
        · omega
      · exact absurd ⟨Int32.le_trans (by decide) h2.1, h2.2⟩ hn
    obtain ⟨m, rfl, hm1, hm⟩ := this
    have e10 : (10000 : Int32) - nI m = nI (10000 - m) := nI_subN (a := 10000) (by omega)
    have x1i : ∀ σ : SS, X12_isIn σ (Int32.toInt64 x1) 0 (Int32.toInt64 (10000 - nI m)) = some (if nI 0 ≤ x1 ∧ x1 ≤ nI (10000 - m) then 1 else 0) := fun σ => by
      rw [e10]
      exact xisIn_g σ x1 (nI 0) (nI (10000 - m)) _ _ i0 rfl
    rcases in_or x1 (10000 - m) (by omega) with ⟨a, ha, rfl⟩ | ⟨ho, hn⟩
    · exact .inl ⟨a, m, rfl, rfl, hm1, hm, by omega⟩
    · right
      refine ⟨fun σ => ?_, fun σ x => ?_⟩
      · unfold X11_seedsStatus X11_seedsStatus_j0 X11_seedsStatus_j29
        rcases in_or x1 9999 (by decide) with ⟨a, ha, rfl⟩ | ⟨ho2, hn2⟩
        · have hb : 10000 ≤ a + m - 1 := by
            by_cases z : a ≤ 10000 - m
            · exact absurd ⟨nI_pos' (by omega), nI_le z (by omega)⟩ hn
            · omega
          rw [isSeed_in σ ha, Option.bind_some, if_neg neg1_0, if_neg (show ¬ nI m < 1 from nI_nlt (b := 1) hm1 (by omega)), if_neg (show ¬ (20 : Int32) < nI m from nI_nlt (a := 20) hm (by decide)), nI_add, nI_sub1 (by omega), isSeed_out σ (.inr ⟨nI_pos (by omega), nI_ge (a := 9999) (b := a + m - 1) (by omega) (by omega)⟩), Option.bind_some, if_pos rfl]
        · rw [isSeed_out σ ho2, Option.bind_some, if_pos rfl]
      · unfold X12_tried X12_tried_j0
        rw [x20, if_pos h2, Option.bind_some, if_neg neg1_0, x1i, if_neg (show ¬ (nI 0 ≤ x1 ∧ x1 ≤ nI (10000 - m)) from hn), Option.bind_some, if_pos rfl, j27]
  · right
    refine ⟨fun σ => ?_, fun σ x => ?_⟩
    · unfold X11_seedsStatus X11_seedsStatus_j0 X11_seedsStatus_j29
      have key : ∀ v : Int32, (if v = 0 then (some 5 : Option Int32) else (if x2 < 1 then some 5 else (if 20 < x2 then some 5 else ((X11_isSeed σ ((x1 + x2) - 1)).bind fun v23 => if v23 = 0 then some 5 else ((X9_isThere σ 0).bind fun v40 => if v40 = 0 then some 8 else some 0))))) = some 5 := fun v => by
        by_cases z : v = 0
        · rw [if_pos z]
        · rw [if_neg z]
          by_cases z1 : x2 < 1
          · rw [if_pos z1]
          · rw [if_neg z1, if_pos]
            exact Int32.not_le.mp (fun w => h2 ⟨Int32.not_lt.mp z1, w⟩)
      rcases in_or x1 9999 (by decide) with ⟨a, ha, rfl⟩ | ⟨ho2, hn2⟩
      · rw [isSeed_in σ ha, Option.bind_some]
        exact key 1
      · rw [isSeed_out σ ho2, Option.bind_some]
        exact key 0
    · unfold X12_tried X12_tried_j0
      rw [x20, if_neg h2, Option.bind_some, if_pos rfl, j27]
theorem seeds_in (σ : SS) {a m : Nat} (hm1 : 1 ≤ m) (hm : m ≤ 20) (ham : a + m ≤ 10000) (hb : σ.1 8 0 1 = 0 ∨ σ.1 8 0 1 = 1) : X11_seedsStatus σ (nI a) (nI m) = some (if σ.1 8 0 1 = 0 then 8 else 0) := by
  unfold X11_seedsStatus X11_seedsStatus_j0 X9_isThere X9_isThere_j0
  rw [isSeed_in σ (by omega), Option.bind_some, if_neg neg1_0, if_neg (show ¬ nI m < 1 from nI_nlt (b := 1) hm1 (by omega)), if_neg (show ¬ (20 : Int32) < nI m from nI_nlt (a := 20) hm (by decide)), nI_add, nI_sub1 (by omega), isSeed_in σ (by omega), Option.bind_some, if_neg neg1_0]
  rcases hb with z | z
  · rw [z, zb_0, Option.bind_some, Option.bind_some, if_pos rfl, if_pos rfl]
  · rw [z, zb_1, Option.bind_some, Option.bind_some, if_neg neg1_0, if_neg neg1_0]
theorem tried_in (σ : SS) (x : Int32) {a m : Nat} (hm1 : 1 ≤ m) (hm : m ≤ 20) (ham : a + m ≤ 10000) : X12_tried σ x (nI a) (nI m) = if σ.1 13 34 132 = 0 then some (0, wI σ 11 0 0 8) else X12_tried_l54 σ x (nI a) (nI m) 0 := by
  have e10 : (10000 : Int32) - nI m = nI (10000 - m) := nI_subN (a := 10000) (by omega)
  have x20 : X12_isIn σ (Int32.toInt64 (nI m)) 1 20 = some (if nI 1 ≤ nI m ∧ nI m ≤ nI 20 then 1 else 0) := xisIn_g σ (nI m) (nI 1) (nI 20) _ _ i1 i20
  have x1i : X12_isIn σ (Int32.toInt64 (nI a)) 0 (Int32.toInt64 (10000 - nI m)) = some (if nI 0 ≤ nI a ∧ nI a ≤ nI (10000 - m) then 1 else 0) := by
    rw [e10]
    exact xisIn_g σ (nI a) (nI 0) (nI (10000 - m)) _ _ i0 rfl
  unfold X12_tried X12_tried_j0
  rw [x20, if_pos ⟨nI_le hm1 (by omega), nI_le hm (by omega)⟩, Option.bind_some, if_neg neg1_0, x1i, if_pos ⟨nI_le (Nat.zero_le _) (by omega), nI_le (by omega) (by omega)⟩, Option.bind_some, if_neg neg1_0, show ck (LN 13 34) 132 = some 132 from ckc (j := 132) (by decide), Option.bind_some, no_eq, Option.bind_some, zb_0, Option.bind_some]
section OM
variable {σ : SS} {n nk i c : Nat} {s p o : Int32} {nu : Nat → Nat → Nat} {lo : Nat → Nat} {L : List X3}
/-- both have tried some seeds -/
theorem try_both (h : RelD σ n nk nu lo i c s p o L) (h81 : σ.1 8 0 1 = 1) (hp : PrR 0 n σ σ) {a m : Nat} (hm1 : 1 ≤ m) (hm : m ≤ 20) (ham : a + m ≤ 10000) (x : Int32) (f : Int64 × Int32 × SS → Option ((Int64 × Int32 × SS) ⊕ (Int64 × SS))) (cv rv : SS → Option Int64)
    (hval : ∀ w v i' c' s' p' o' L', RS w 0 n nk nu lo → RV w 0 n i c s p o L → RS w 1 n nk nu lo → RV w 1 n i' c' s' p' o' L' → RXS v n nk nu lo → RXV v n i' c' s' p' o' L' → v.1 13 45 5 = s → ∃ u : Int64, cv w = some u ∧ rv v = some u ∧ -(2147483648 : Int) ≤ u.toInt ∧ u.toInt ≤ 2147483648)
    (hf : ∀ k y w w1 (r : Int32) w2 u, k < m → X0_takeOver w 1 0 = some w1 → X2_run w1 1 (nI (a + k)) = some (r, w2) → cv w2 = some u → f (y, nI k, w) = some (Sum.inl (y + u, nI (k + 1), w2)))
    (hg : ∀ k y v v1 u v2, k < m → X12_runs v (nI (a + k)) = some v1 → rv v1 = some u → (∀ x1 x2 x3 y4 x6, iter (X12_tried_l144b x1 x2 x3 y4 x6) NF (0, v1) = some v2) → X12_tried_l88b x (nI a) (nI m) (y, nI k, v) = some (Sum.inl (y + u, nI (k + 1), v2)))
    (hfe : ∀ y w, f (y, nI m, w) = some (Sum.inr (y, w))) : ∃ σ1 υ1, ((iter f NF (0, 0, wI σ 10 0 11 0)).bind fun t20 => (X11_tell t20.2 t20.1 (Int32.toInt64 (nI m))).bind fun p82 => (zb p82.1).bind fun b85 => some (p82.1, p82.2)) = some (1, σ1) ∧ X12_tried_l54 (xb σ1) x (nI a) (nI m) 0 = some (1, υ1) ∧ (xb σ1).1 13 34 132 = σ.1 13 34 132 ∧ St υ1 ∧ Eqo PM σ υ1 ∧ RelD υ1 n nk nu lo i c s p o L ∧ Fr υ1 ∧ RXS (xb σ1) n nk nu lo := by
  have h1 := h.ps (ps1 σ 0)
  have hth : ∃ b : Bool, (wI σ 10 0 11 0).1 8 0 1 = if b = true then 1 else 0 := ⟨true, by rw [wI_ne _ _ (by omega), if_pos rfl]; exact h81⟩
  have hp1 : PrR 0 n (wI σ 10 0 11 0) (wI σ 10 0 11 0) := hp.keep2 ((ps1 σ 0).at1 (by unfold PS; omega)) (fun j => (ps1 σ 0).at1 (by unfold PS; omega)) (fun j _ => (ps1 σ 0).at1 (by unfold PS; omega))
  have hge : ∀ y v, X12_tried_l88b x (nI a) (nI m) (y, nI m, v) = some (Sum.inr (y, v)) := fun y v => by
    show X12_tried_l88c v x (nI a) (nI m) y (nI m) = _
    unfold X12_tried_l88c
    rw [if_pos (nI_le (Nat.le_refl _) (by omega))]
  -- the class's part, beside any reference
  have run : ∀ υ : SS, (∀ j, υ.1 13 34 j = (wI σ 10 0 11 0).1 13 34 j) → ∃ τ y w v, iter (X12_tried_l54b x (nI a) (nI m)) NF (0, υ) = some τ ∧ iter f NF (0, 0, wI σ 10 0 11 0) = some (y, w) ∧ iter (X12_tried_l88b x (nI a) (nI m)) NF (0, 0, τ) = some (y, v) ∧ Eqo TCl (wI σ 10 0 11 0) w ∧ Eqo TXf υ v ∧ (∀ j, v.1 13 34 j = (wI σ 10 0 11 0).1 13 34 j) ∧ -(2147483648 * 20 : Int) ≤ y.toInt := fun υ hυ => by
    obtain ⟨τ, e, t1, t2⟩ := before_ok υ x (nI a) (nI m)
    have e34 : ∀ j, τ.1 13 34 j = (wI σ 10 0 11 0).1 13 34 j := fun j => (t2.at1 (by omega)).trans (hυ j)
    have e45 : ∀ j, j < 132 → τ.1 13 45 j = τ.1 13 34 j := fun j hj => by rw [t1 j hj, t2.at1 (by omega)]
    obtain ⟨y, w, v, b1, b2, b3, b4, b5, b6⟩ := tryloop (f := f) (g := X12_tried_l88b x (nI a) (nI m)) ham hm hth h1.1 h1.2.1 (h1.2.2.1.of (fun j _ => e34 j)) (h1.2.2.2.of (fun j _ => e34 j)) (hp1.keep2 rfl (fun _ => rfl) (fun j _ => e34 j)) e45 cv rv hval hf hg hfe hge
    exact ⟨τ, y, w, v, e, b1, b2, b3, (t2.mono (fun k n j q => .inr (.inl q))).tr b4, fun j => (b5 j).trans (e34 j), b6⟩
  obtain ⟨-, y, w, -, -, c1, -, c2, -, -, c3⟩ := run (wI σ 10 0 11 0) (fun _ => rfl)
  obtain ⟨X, hX, hX2⟩ := labs_any y (by omega)
  have t1 := tell_ok w hX hX2 (b := m) (by omega) (by omega)
  have hE1 : Eqo FrC w (wJ (wJ w 10 0 12 (y / lN (Nat.gcd X m))) 10 0 13 (lN m / lN (Nat.gcd X m))) := fr1 w _ _
  have hfr : ∀ (P : Nat → Nat → Nat → Prop) (τ : SS), Eqo P (wJ (wJ w 10 0 12 (y / lN (Nat.gcd X m))) 10 0 13 (lN m / lN (Nat.gcd X m))) τ → (∀ k n j, P k n j → ¬ FrC k n j) → Fr (wJ (wJ τ 11 0 2 (y / lN (Nat.gcd X m))) 11 0 3 (lN m / lN (Nat.gcd X m))) := fun P τ hE hP => Fr.tell hE hP
  generalize wJ (wJ w 10 0 12 (y / lN (Nat.gcd X m))) 10 0 13 (lN m / lN (Nat.gcd X m)) = σ1 at *
  have EA : Eqo (fun k n j => TCl k n j ∨ FrC k n j) (wI σ 10 0 11 0) σ1 := (c2.mono (fun _ _ _ q => .inl q)).tr (hE1.mono (fun _ _ _ q => .inr q))
  have eG : ∀ j, (xb σ1).1 13 34 j = (wI σ 10 0 11 0).1 13 34 j := fun j => ((xb_ps σ1).at1 (by unfold PS; omega)).trans (EA.at1 (fun q => by
    rcases q with q | q
    · exact TCl_0 q (by omega)
    · unfold FrC at q; omega))
  obtain ⟨τ, y2, w2, v, d0, d1, d2, d3, d4, d5, d6⟩ := run (xb σ1) eG
  rw [c1] at d1
  simp only [Option.some.injEq, Prod.mk.injEq] at d1
  obtain ⟨rfl, rfl⟩ := d1
  have t2 := xtell_ok v hX hX2 (b := m) (by omega) (by omega)
  have hE2 : Eqo FrC v (wJ (wJ v 11 0 2 (y / lN (Nat.gcd X m))) 11 0 3 (lN m / lN (Nat.gcd X m))) := fr2 v _ _
  have nX : ∀ k n j, (k = 10 ∨ (k = 11 ∧ n = 0 ∧ j ≤ 24) ∨ (k = 0) ∨ (k = 13 ∧ n < 4)) → ¬ TXf k n j := fun k n j q => by
    unfold TXf LXt LXs LX XO XC FX
    omega
  refine ⟨σ1, _, ?_, ?_, (eG 132).trans ((ps1 σ 0).at1 (by unfold PS; omega)), ?_, ?_, ?_, hfr (fun k n j => PS k n j ∨ TXf k n j) v (((xb_ps σ1).mono (fun _ _ _ q => .inl q)).tr (d4.mono (fun _ _ _ q => .inr q))) (fun k n j q => ?_), h1.2.2.1.of (fun j _ => eG j)⟩
  · rw [c1, Option.bind_some]
    simp only
    rw [nI_l (by omega), t1, Option.bind_some, zb_1, Option.bind_some]
  · unfold X12_tried_l54
    rw [d0, Option.bind_some]
    unfold X12_tried_l88
    rw [d2, Option.bind_some]
    simp only
    rw [nI_l (by omega), t2, Option.bind_some, zb_1, Option.bind_some]
  · have g0 : St (xb σ1) := xb_st (by
      rw [EA.at1 (fun q => by
        unfold TCl SP LRn LCt LC VO VC WF WR FrC at q
        omega), wI_eq])
    unfold St at g0 ⊢
    show v.1 10 0 11 = v.1 11 0 0
    rw [d4.at1 (nX _ _ _ (by omega)), d4.at1 (nX _ _ _ (by omega))]
    exact g0
  · refine (((ps1 σ 0).mono (fun _ _ _ q => .inl q)).tr (EA.mono (fun k n j q => ?_))).tr (((xb_ps σ1).mono (fun _ _ _ q => .inl q)).tr ((d4.mono (fun _ _ _ q => .inr (.inr (.inl q)))).tr (hE2.mono (fun _ _ _ q => .inr (.inr (.inr q))))))
    rcases q with q | q
    · exact .inr (.inl q)
    · exact .inr (.inr (.inr q))
  · have EB : Eqo (fun k n j => TCl k n j ∨ FrC k n j ∨ PS k n j ∨ TXf k n j) (wI σ 10 0 11 0) (wJ (wJ v 11 0 2 (y / lN (Nat.gcd X m))) 11 0 3 (lN m / lN (Nat.gcd X m))) := ((EA.mono (fun k n j q => by
      rcases q with q | q
      · exact .inl q
      · exact .inr (.inl q))).tr ((xb_ps σ1).mono (fun _ _ _ q => .inr (.inr (.inl q))))).tr ((d4.mono (fun _ _ _ q => .inr (.inr (.inr q)))).tr (hE2.mono (fun _ _ _ q => .inr (.inl q))))
    have nB : ∀ k n j, (TCl k n j ∨ FrC k n j ∨ PS k n j ∨ TXf k n j) → ¬ ((k = 0 ∧ n = 0) ∨ (k = 13 ∧ 1 ≤ n ∧ n ≤ 3)) := fun k n j q z => by
      rcases q with q | q | q | q
      · exact TCl_0 q (by omega)
      · unfold FrC at q; omega
      · unfold PS at q; omega
      · exact nX _ _ _ (by omega) q
    have e34 : ∀ j, (wJ (wJ v 11 0 2 (y / lN (Nat.gcd X m))) 11 0 3 (lN m / lN (Nat.gcd X m))).1 13 34 j = (wI σ 10 0 11 0).1 13 34 j := fun j => d5 j
    exact ⟨h1.1.keep EB (fun k m j q z => nB k m j q (by omega)), h1.2.1.keep EB (fun k m j q z => nB k m j q (by omega)), h1.2.2.1.of (fun j _ => e34 j), h1.2.2.2.of (fun j _ => e34 j)⟩
  · rcases q with q | q
    · unfold PS at q; unfold FrC; omega
    · intro z
      exact nX _ _ _ (by unfold FrC at z; omega) q
end OM
