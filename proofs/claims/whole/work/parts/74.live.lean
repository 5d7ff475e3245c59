/-! ===== LIFE: the run, live, lived ===== -/
/-- what the class's run touches, drawer d -/
def LRn (d : Nat) : Nat → Nat → Nat → Prop := fun k n j => LCt d k n j ∨ (k = 13 ∧ n = 28)
section RN
variable {σ υ : SS} {d n nk nl i c : Nat} {s p o : Int32} {nu : Nat → Nat → Nat} {lo : Nat → Nat} {L : List X3}
theorem zero_ok (σ : SS) (d : Nat) (x : Int32) : ∃ w, iter (X2_run_l2b d x) NF (0, σ) = some w ∧ Eqo (fun k n _ => k = 13 ∧ n = 28) σ w ∧ ∀ j, j < 5 → w.1 13 28 j = 0 := by
  obtain ⟨b, w, e, h1, h2⟩ := loopI (f := X2_run_l2b d x) (s := (0, σ)) 5 (fun k (_ : Unit) (w : SS) => ((nI k, w) : Int32 × SS)) (fun _ w => w) (fun k _ w => Eqo (fun k n _ => k = 13 ∧ n = 28) σ w ∧ ∀ j, j < k → w.1 13 28 j = 0) () σ rfl ⟨Eqo.rf _ _, fun j hj => absurd hj (Nat.not_lt_zero _)⟩ (by decide) (fun k b w hk hI => by
    obtain ⟨h1, h2⟩ := hI
    show ∃ b' w', X2_run_l2c w d x (nI k) = _ ∧ _
    unfold X2_run_l2c
    rw [if_neg (show ¬ (4 : Int32) < nI k from nI_nlt (a := 4) (by omega) (by decide)), cnt_put w hk, Option.bind_some, nI_1, Option.bind_some]
    refine ⟨(), _, rfl, h1.tr (Eqo.wI ⟨rfl, rfl⟩), fun j hj => ?_⟩
    by_cases ej : j = k
    · subst ej
      rw [wI_eq]
    · rw [wI_ne _ _ (by omega)]
      exact h2 j (by omega)) (fun b w hI => by
    show X2_run_l2c w d x (nI 5) = _
    unfold X2_run_l2c
    rw [if_pos (show (4 : Int32) < nI 5 by decide)])
  exact ⟨w, e, h1, h2⟩
def PrR (d n : Nat) (σ υ : SS) : Prop := ∃ ns nl K, ns ≤ 30 ∧ nl ≤ 60 ∧ σ.1 8 d 2 = nI nl ∧ υ.1 13 34 133 = nI ns ∧ Bk n (σ.1 13 (4 * d)) (υ.1 13 34) K 3 0 ns 0 nl
theorem run_ok (hd : d < 5) (hs : RS σ d n nk nu lo) (h : RV σ d n i c s p o L) (hxs : RXS υ n nk nu lo) (hx : RXV υ n i c s p o L) (hp : PrR d n σ υ) {w : Nat} (hw : w < 65536) : ∃ done σ' υ', X2_run σ d (nI w) = some (nI done, σ') ∧ X12_runs υ (nI w) = some υ' ∧ done ≤ 300 ∧ υ'.1 11 0 44 = nI done ∧ (∀ k, k < 5 → σ'.1 13 28 k = υ'.1 11 0 (45 + k)) ∧ (∃ i c s p o L, RS σ' d n nk nu lo ∧ RV σ' d n i c s p o L ∧ RXS υ' n nk nu lo ∧ RXV υ' n i c s p o L) ∧ Eqo (LRn d) σ σ' ∧ Eqo LXt υ υ' := by
  obtain ⟨ns, nl, K, hns, hnl, h8, hg, hB⟩ := hp
  obtain ⟨σ1, e1, E1, z1⟩ := zero_ok σ d (nI w)
  have hs1 : RS σ1 d n nk nu lo := hs.keep E1 (fun k m j q => by omega)
  have h1 : RV σ1 d n i c s p o L := h.keep E1 (fun k m j q => by omega)
  -- the class begins
  have hE2 : Eqo (fun k m j => k = 0 ∧ m = d ∧ j = 13) σ1 (wI σ1 0 d 13 (nI w)) := Eqo.wI ⟨rfl, rfl, rfl⟩
  have hs2 : RS (wI σ1 0 d 13 (nI w)) d n nk nu lo := hs1.draw (nI w)
  have h2 : RV (wI σ1 0 d 13 (nI w)) d n i c s p o L := h1.draw (nI w)
  have hq2 : Dr (wI σ1 0 d 13 (nI w)) d w := ⟨wI_eq _ _ _ _ _, hw⟩
  have z2 : ∀ j, j < 5 → (wI σ1 0 d 13 (nI w)).1 13 28 j = 0 := fun j hj => (hE2.at1 (by omega)).trans (z1 j hj)
  have hF2 : ∀ j, (wI σ1 0 d 13 (nI w)).1 13 (4 * d) j = σ.1 13 (4 * d) j := fun j => (hE2.at1 (by omega)).trans (E1.at1 (by omega))
  have h82 : (wI σ1 0 d 13 (nI w)).1 8 d 2 = nI nl := ((hE2.at1 (by omega)).trans (E1.at1 (by omega))).trans h8
  have eR : X2_run σ d (nI w) = X2_run_l42 (wI σ1 0 d 13 (nI w)) d 0 0 0 := by
    unfold X2_run X2_run_j0 X2_run_l2 X0_drawFrom X0_drawFrom_j0
    rw [e1, Option.bind_some, Option.bind_some, Option.bind_some]
  have EA : Eqo (LRn d) σ (wI σ1 0 d 13 (nI w)) := (Eqo.mono E1 (fun k m j q => .inr q)).tr (hE2.mono (fun k m j q => .inl (.inl (.inl (.inr q)))))
  generalize wI σ1 0 d 13 (nI w) = σ2 at *
  -- the reference begins
  have hX : ∃ υ2, X12_runs υ (nI w) = (X12_doAllN 5 υ2 0 (nI ns)).bind (fun σ50 => some σ50) ∧ Eqo (fun k m j => k = 11 ∧ m = 0 ∧ (j = 25 ∨ (43 ≤ j ∧ j ≤ 49))) υ υ2 ∧ υ2.1 11 0 25 = nI w ∧ (∀ j, 43 ≤ j → j ≤ 49 → υ2.1 11 0 j = 0) := by
    refine ⟨wI (wI (wI (wI (wI (wI (wI (wI υ 11 0 25 (nI w)) 11 0 44 0) 11 0 45 0) 11 0 46 0) 11 0 47 0) 11 0 48 0) 11 0 49 0) 11 0 43 0, ?_, ?_, ?_, ?_⟩
    · unfold X12_runs X12_runs_j0
      rw [Option.bind_some, Option.bind_some, Option.bind_some, Option.bind_some, Option.bind_some, Option.bind_some, Option.bind_some, Option.bind_some, show ck (LN 13 34) 133 = some 133 from ckc (j := 133) (by decide), Option.bind_some]
      rw [wI_ne _ _ (by omega), wI_ne _ _ (by omega), wI_ne _ _ (by omega), wI_ne _ _ (by omega), wI_ne _ _ (by omega), wI_ne _ _ (by omega), wI_ne _ _ (by omega), wI_ne _ _ (by omega), hg]
    · exact ((((((Eqo.tr (Eqo.wI (by omega)) (Eqo.wI (by omega))).tr (Eqo.wI (by omega))).tr (Eqo.wI (by omega))).tr (Eqo.wI (by omega))).tr (Eqo.wI (by omega))).tr (Eqo.wI (by omega))).tr (Eqo.wI (by omega))
    · rw [wI_ne _ _ (by omega), wI_ne _ _ (by omega), wI_ne _ _ (by omega), wI_ne _ _ (by omega), wI_ne _ _ (by omega), wI_ne _ _ (by omega), wI_ne _ _ (by omega), wI_eq]
    · intro j h1 h2
      by_cases a : j = 43
      · rw [a, wI_eq]
      rw [wI_ne _ _ (by omega)]
      by_cases a : j = 49
      · rw [a, wI_eq]
      rw [wI_ne _ _ (by omega)]
      by_cases a : j = 48
      · rw [a, wI_eq]
      rw [wI_ne _ _ (by omega)]
      by_cases a : j = 47
      · rw [a, wI_eq]
      rw [wI_ne _ _ (by omega)]
      by_cases a : j = 46
      · rw [a, wI_eq]
      rw [wI_ne _ _ (by omega)]
      by_cases a : j = 45
      · rw [a, wI_eq]
      rw [wI_ne _ _ (by omega)]
      by_cases a : j = 44
      · rw [a, wI_eq]
      omega
  obtain ⟨υ2, f1, F1, d25, d43⟩ := hX
  have hxs2 : RXS υ2 n nk nu lo := hxs.keep F1 (fun j q => by omega)
  have hx2 : RXV υ2 n i c s p o L := hx.keep F1 (fun j q => by omega)
  have FA : Eqo LXt υ υ2 := F1.mono (fun k m j q => by
    unfold LXt LXs LX XO
    omega)
  have hJ : JJ d σ2 υ2 n nk nu lo i c s p o L w := ⟨hs2, h2, hq2, hxs2, hx2, ⟨d25, hw⟩, fun k hk => by rw [z2 k (by omega), d43 _ (by omega) (by omega)]⟩
  have hS : SI d n nk nu lo (σ.1 13 (4 * d)) (υ.1 13 34) nl σ2 υ2 0 := ⟨hJ.je, hF2, fun j hj => F1.at1 (by omega), h82, d43 44 (by decide) (by decide), d43 43 (by decide) (by decide), d43 49 (by decide) (by decide), by decide⟩
  have key : ∃ done σ' υ', X2_run_l42 σ2 d 0 0 0 = some (nI done, σ') ∧ YB (X12_doOne (X12_doAllN (3 + 1))) 0 ns υ2 υ' ∧ done ≤ 300 ∧ υ'.1 11 0 44 = nI done ∧ JE d n nk nu lo σ' υ' ∧ σ'.1 13 28 4 = υ'.1 11 0 49 ∧ Eqo (LRn d) σ2 σ' ∧ Eqo LXt υ2 υ' := by
    have hLR : ∀ {a b : SS}, Eqo (LCt d) a b → Eqo (LRn d) a b := fun hE => hE.mono (fun _ _ _ q => .inl q)
    have h284 : ∀ {b : SS}, Eqo (LCt d) σ2 b → b.1 13 28 4 = 0 := fun hE => (hE.at1 (by unfold LCt LC VO VC WF WR; omega)).trans (z2 4 (by decide))
    unfold X2_run_l42
    rcases sim hd hnl K 3 0 ns 0 nl hB hns (Nat.le_refl _) σ2 υ2 0 0 hS (Nat.le_refl _) with ⟨σ', υ', done', m, a1, a2, a3, a4, a5, a6, a7, a8⟩ | ⟨σ', υ', e, done', M, a1, a2, a3, a4, a5, a6, a6', a7, a8, a9⟩
    · have h3 := a3.2.2.2.2.2.2.2
      refine ⟨done', σ', υ', ?_, a2, h3, a3.2.2.2.2.1, a3.1, by rw [h284 a6, a3.2.2.2.2.2.2.1], hLR a6, a8⟩
      have hit : iter (X2_run_l42b d) NF (0, 0, 0, σ2) = some (Sum.inr (Sum.inr (nI done', σ'))) := by
        have h1 := a1 (NF - m)
        rw [Nat.sub_add_cancel (by unfold NF; omega)] at h1
        have h2 : iter (X2_run_l42b d) NF (0, 0, 0, σ2) = iter (X2_run_l42b d) (NF - m) (nI done', nI nl, nI (0 + m), σ') := h1
        rw [h2]
        obtain ⟨R, hR⟩ : ∃ R, NF - m = R + 1 := ⟨NF - m - 1, by unfold NF; omega⟩
        rw [hR]
        refine it_r ?_ R
        show X2_run_l42c σ' d (nI done') (nI nl) (nI (0 + m)) = _
        unfold X2_run_l42c X9_lineCount X9_lineCount_j0
        rw [if_neg (show ¬ (1000000 : Int32) ≤ nI (0 + m) from nI_ge (b := 1000000) (by omega) (by decide)), Option.bind_some, a3.2.2.2.1, if_pos (nI_le (Nat.le_refl _) (by omega))]
      rw [hit, Option.bind_some]
    · have hit : iter (X2_run_l42b d) NF (0, 0, 0, σ2) = some e := a2 NF (by unfold NF; omega)
      rw [hit, Option.bind_some]
      rcases a7 with ⟨rfl, b2⟩ | ⟨rfl, b2⟩
      · refine ⟨done', wI σ' 13 28 4 (σ'.1 13 28 4 + 1), υ', ?_, a3, a6', a6, ?_, ?_, (hLR a8).tr (Eqo.wI (.inr ⟨rfl, rfl⟩)), a9⟩
        · simp only
          rw [show X2_add σ' 4 1 = some (wI σ' 13 28 4 (σ'.1 13 28 4 + 1)) from add_ok σ' (k := 4) (by decide) 1, Option.bind_some]
        · obtain ⟨i, c, s, p, o, L, q, hj⟩ := a4
          have hE : Eqo (fun k m j => k = 13 ∧ m = 28 ∧ j = 4) σ' (wI σ' 13 28 4 (σ'.1 13 28 4 + 1)) := Eqo.wI ⟨rfl, rfl, rfl⟩
          refine ⟨i, c, s, p, o, L, q, hj.rs.keep hE (fun k m j q => by omega), hj.rv.keep hE (fun k m j q => by omega), hj.dr.keep hE (by omega), hj.xs, hj.xv, hj.dx, fun k hk => ?_⟩
          rw [hE.at1 (by omega)]
          exact hj.2.2.2.2.2.2 k hk
        · rw [wI_eq, h284 a8, b2]
          rfl
      · exact ⟨done', σ', υ', rfl, a3, a6', a6, a4, by rw [h284 a8, b2], hLR a8, a9⟩
  obtain ⟨done, σ', υ', k1, k2, k3, k4, ⟨i', c', s', p', o', L', q', kJ⟩, k6, k7, k8⟩ := key
  refine ⟨done, σ', υ', by rw [eR, k1], ?_, k3, k4, fun k hk => ?_, ⟨i', c', s', p', o', L', kJ.rs, kJ.rv, kJ.xs, kJ.xv⟩, EA.tr k7, FA.tr k8⟩
  · rw [f1]
    have : X12_doAllN 5 υ2 0 (nI ns) = some υ' := YB_rc (D := X12_doOne (X12_doAllN (3 + 1))) hns k2
    rw [this, Option.bind_some]
  · by_cases z : k = 4
    · subst z
      exact k6
    · exact kJ.2.2.2.2.2.2 k (by omega)
end RN
