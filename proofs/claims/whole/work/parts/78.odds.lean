/-! ===== mean, odds: the ops ===== -/
section OO
variable {σ : SS} {n nk i c : Nat} {s p o : Int32} {nu : Nat → Nat → Nat} {lo : Nat → Nat} {L : List X3}
theorem toI_b (z : Int32) : -(2147483648 : Int) ≤ z.toInt64.toInt ∧ z.toInt64.toInt ≤ 2147483648 := by
  rw [Int32.toInt_toInt64]
  have h1 := Int32.le_toInt z
  have h2 := Int32.toInt_lt z
  omega
theorem op_mean (x1 x2 : Int32) (h : RelD σ n nk nu lo i c s p o L) (hy : YrR n σ) (hF : Fr σ) : OR3 PM σ (fun σ => X11_mean σ x1 x2) (fun σ => X12_mean σ x1 x2) (fun τ => RelD τ n nk nu lo i c s p o L ∧ Fr τ) := by
  have hC : ∀ τ, Eqo PS σ τ → RelD τ n nk nu lo i c s p o L ∧ Fr τ := fun τ hE => ⟨h.ps hE, hF.keep hE (fun k n j q => by unfold PS at q; unfold FrC; omega)⟩
  have hPS : ∀ k n j, PS k n j → PM k n j := fun _ _ _ q => .inl q
  rcases seeds_or x1 x2 with ⟨a, m, rfl, rfl, hm1, hm, ham⟩ | ⟨e1, e2⟩
  · rcases hy with ⟨y1, y2⟩ | ⟨y1, y2, hp⟩
    · refine refP hC hPS 8 0 ?_ ?_
      · show X11_mean σ (nI a) (nI m) = _
        unfold X11_mean X11_mean_j0
        rw [seeds_in σ hm1 hm ham (.inl y1), if_pos y1, Option.bind_some, answersN _ (by decide), Option.bind_some, if_pos rfl]
      · show X12_mean (wI σ 10 0 11 8) (nI a) (nI m) = _
        unfold X12_mean X12_mean_j0
        rw [Option.bind_some, Option.bind_some, s0e, tried_in _ _ hm1 hm ham, if_pos ((s0_ps σ 8).at1 (by unfold PS; omega) |>.trans y2), Option.bind_some, zb_0, Option.bind_some]
    · obtain ⟨σ1, υ1, f1, f2, f3, f4, f5, f6, f7, -⟩ := try_both h y1 hp hm1 hm ham (-1) (X11_mean_l20b (nI a) (nI m)) (fun w => some (Int32.toInt64 (w.1 0 1 10 - w.1 0 0 10))) (fun v => some (Int32.toInt64 (v.1 13 34 5 - v.1 13 45 5))) (fun w v i' c' s' p' o' L' a1 a2 a3 a4 a5 a6 a7 => by
          have g1 : w.1 0 1 10 = s' := a4.2.2.2.1
          have g2 : w.1 0 0 10 = s := a2.2.2.2.1
          have g3 : v.1 13 34 5 = s' := a6.sec
          refine ⟨Int32.toInt64 (s' - s), ?_, ?_, (toI_b _).1, (toI_b _).2⟩
          · rw [g1, g2]
          · rw [g3, a7]) (fun k y w w1 r w2 u hk e1 e2 e3 => by
          show X11_mean_l20c w (nI a) (nI m) y (nI k) = _
          unfold X11_mean_l20c X0_secondsSpent X0_secondsSpent_j0
          rw [if_neg (nI_ge hk (by omega)), e1, Option.bind_some, nI_add, e2, Option.bind_some, Option.bind_some, Option.bind_some, Option.bind_some, nI_1, Option.bind_some]
          simp only [Option.some.injEq] at e3
          rw [← e3]) (fun k y v v1 u v2 hk e1 e2 e3 => by
          show X12_tried_l88c v (-1) (nI a) (nI m) y (nI k) = _
          unfold X12_tried_l88c X12_tried_j138 X12_tried_l144
          simp only [Option.some.injEq] at e2
          rw [if_neg (nI_ge hk (by omega)), nI_add, e1, Option.bind_some, if_neg (show ¬ (0 : Int32) ≤ -1 by decide), ck5, Option.bind_some, show ck (LN 13 45) 5 = some 5 from ck45 (k := 5) (by decide), Option.bind_some, Option.bind_some, e3, Option.bind_some, nI_1, Option.bind_some, e2]) (fun y w => by
          show X11_mean_l20c w (nI a) (nI m) y (nI m) = _
          unfold X11_mean_l20c
          rw [if_pos (nI_le (Nat.le_refl _) (by omega))])
      refine ⟨1, σ1, υ1, ?_, ?_, f4, f5, f6, f7⟩
      · show X11_mean σ (nI a) (nI m) = _
        unfold X11_mean X11_mean_j0
        rw [seeds_in σ hm1 hm ham (.inr y1), y1, if_neg neg1_0, Option.bind_some, answers0, Option.bind_some, if_neg neg1_0]
        unfold X11_mean_l20
        exact f1
      · show X12_mean σ1 (nI a) (nI m) = _
        unfold X12_mean X12_mean_j0
        rw [Option.bind_some, Option.bind_some]
        show ((X12_tried (xb σ1) (-1) (nI a) (nI m)).bind _) = _
        rw [tried_in _ _ hm1 hm ham, f3, y2, if_neg neg1_0, f2, Option.bind_some, zb_1, Option.bind_some]
  · refine refP hC hPS 5 0 ?_ ?_
    · show X11_mean σ x1 x2 = _
      unfold X11_mean X11_mean_j0
      rw [e1, Option.bind_some, answersN _ (by decide), Option.bind_some, if_pos rfl]
    · show X12_mean (wI σ 10 0 11 5) x1 x2 = _
      unfold X12_mean X12_mean_j0
      rw [Option.bind_some, Option.bind_some, s0e, e2, Option.bind_some, zb_0, Option.bind_some]
theorem op_odds (x0 x1 x2 : Int32) (h : RelD σ n nk nu lo i c s p o L) (hy : YrR n σ) (hF : Fr σ) : OR3 PM σ (fun σ => X11_odds σ x0 x1 x2) (fun σ => X12_odds σ x0 x1 x2) (fun τ => RelD τ n nk nu lo i c s p o L ∧ Fr τ) := by
  have h8 := h.1.n8
  have hC : ∀ τ, Eqo PS σ τ → RelD τ n nk nu lo i c s p o L ∧ Fr τ := fun τ hE => ⟨h.ps hE, hF.keep hE (fun k n j q => by unfold PS at q; unfold FrC; omega)⟩
  have hPS : ∀ k n j, PS k n j → PM k n j := fun _ _ _ q => .inl q
  rcases lead_or h.1 x0 with ⟨l, hl, rfl⟩ | ⟨ha, hn⟩
  · rcases seeds_or x1 x2 with ⟨a, m, rfl, rfl, hm1, hm, ham⟩ | ⟨e1, e2⟩
    · rcases hy with ⟨y1, y2⟩ | ⟨y1, y2, hp⟩
      · refine refP hC hPS 8 0 ?_ ?_
        · show X11_odds σ (nI l) (nI a) (nI m) = _
          unfold X11_odds X11_odds_j0 X11_odds_j22
          rw [has_in h.1 hl, Option.bind_some, if_neg neg1_0, seeds_in σ hm1 hm ham (.inl y1), if_pos y1, Option.bind_some, answersN _ (by decide), Option.bind_some, if_pos rfl]
        · show X12_odds (wI σ 10 0 11 8) (nI l) (nI a) (nI m) = _
          unfold X12_odds X12_odds_j0
          rw [Option.bind_some, Option.bind_some, s0e, s0b h 8 hl, Option.bind_some, if_neg neg1_0, tried_in _ _ hm1 hm ham, if_pos ((s0_ps σ 8).at1 (by unfold PS; omega) |>.trans y2), Option.bind_some, zb_0, Option.bind_some]
      · obtain ⟨σ1, υ1, f1, f2, f3, f4, f5, f6, f7, f8⟩ := try_both h y1 hp hm1 hm ham (nI l) (X11_odds_l36b (nI l) (nI a) (nI m)) (fun w => (X0_isFree w 1 (nI l)).bind fun v => some (if v = 0 then 0 else 1)) (fun v => (X12_isFree v (nI l)).bind fun v => some (if v = 0 then 0 else 1)) (fun w v i' c' s' p' o' L' a1 a2 a3 a4 a5 a6 a7 => by
            refine ⟨if (if i'.testBit l = true ∧ cnt L' l = 0 then (1 : Int32) else 0) = 0 then 0 else 1, ?_, ?_, ?_⟩
            · rw [isFree_in (by decide) a3 a4 hl, Option.bind_some]
            · rw [xisFree a5 a6 hl, Option.bind_some]
            · split <;> decide) (fun k y w w1 r w2 u hk e1 e2 e3 => by
            show X11_odds_l36c w (nI l) (nI a) (nI m) y (nI k) = _
            unfold X11_odds_l36c X11_odds_j87
            rw [if_neg (nI_ge hk (by omega)), e1, Option.bind_some, nI_add, e2, Option.bind_some]
            cases hv : X0_isFree w2 1 (nI l) with
            | none => rw [hv] at e3; cases e3
            | some v =>
              rw [hv, Option.bind_some] at e3
              simp only [Option.some.injEq] at e3
              rw [Option.bind_some, e3, Option.bind_some, nI_1, Option.bind_some]) (fun k y v v1 u v2 hk e1 e2 e3 => by
            show X12_tried_l88c v (nI l) (nI a) (nI m) y (nI k) = _
            unfold X12_tried_l88c X12_tried_j138 X12_tried_l144
            rw [if_neg (nI_ge hk (by omega)), nI_add, e1, Option.bind_some, if_pos (show (0 : Int32) ≤ nI l from nI_pos' (by omega))]
            cases hv : X12_isFree v1 (nI l) with
            | none => rw [hv] at e2; cases e2
            | some v =>
              rw [hv, Option.bind_some] at e2
              simp only [Option.some.injEq] at e2
              rw [Option.bind_some, e2, Option.bind_some, e3, Option.bind_some, nI_1, Option.bind_some]) (fun y w => by
            show X11_odds_l36c w (nI l) (nI a) (nI m) y (nI m) = _
            unfold X11_odds_l36c
            rw [if_pos (nI_le (Nat.le_refl _) (by omega))])
        refine ⟨1, σ1, υ1, ?_, ?_, f4, f5, f6, f7⟩
        · show X11_odds σ (nI l) (nI a) (nI m) = _
          unfold X11_odds X11_odds_j0 X11_odds_j22
          rw [has_in h.1 hl, Option.bind_some, if_neg neg1_0, seeds_in σ hm1 hm ham (.inr y1), y1, if_neg neg1_0, Option.bind_some, answers0, Option.bind_some, if_neg neg1_0]
          unfold X11_odds_l36
          exact f1
        · show X12_odds σ1 (nI l) (nI a) (nI m) = _
          unfold X12_odds X12_odds_j0
          rw [Option.bind_some, Option.bind_some]
          show ((X12_isLeadAt (xb σ1) (nI l)).bind _) = _
          rw [xisLeadAt_in f8 hl, Option.bind_some, if_neg neg1_0]
          show ((X12_tried (xb σ1) (nI l) (nI a) (nI m)).bind _) = _
          rw [tried_in _ _ hm1 hm ham, f3, y2, if_neg neg1_0, f2, Option.bind_some, zb_1, Option.bind_some]
    · refine refP hC hPS 5 0 ?_ ?_
      · show X11_odds σ (nI l) x1 x2 = _
        unfold X11_odds X11_odds_j0 X11_odds_j22
        rw [has_in h.1 hl, Option.bind_some, if_neg neg1_0, e1, Option.bind_some, answersN _ (by decide), Option.bind_some, if_pos rfl]
      · show X12_odds (wI σ 10 0 11 5) (nI l) x1 x2 = _
        unfold X12_odds X12_odds_j0
        rw [Option.bind_some, Option.bind_some, s0e, s0b h 5 hl, Option.bind_some, if_neg neg1_0, e2, Option.bind_some, zb_0, Option.bind_some]
  · refine refP hC hPS 2 0 ?_ ?_
    · show X11_odds σ x0 x1 x2 = _
      unfold X11_odds X11_odds_j0 X11_odds_j22
      rw [hn, Option.bind_some, if_pos rfl, answersN _ (by decide), Option.bind_some, if_pos rfl]
    · show X12_odds (wI σ 10 0 11 2) x0 x1 x2 = _
      unfold X12_odds X12_odds_j0
      rw [Option.bind_some, Option.bind_some, s0e, s0a h 2 ha, Option.bind_some, if_pos rfl, no_eq, Option.bind_some, zb_0, Option.bind_some]
end OO
