/-! ===== live, lived ===== -/
def YrR (n : Nat) (σ : SS) : Prop := (σ.1 8 0 1 = 0 ∧ σ.1 13 34 132 = 0) ∨ (σ.1 8 0 1 = 1 ∧ σ.1 13 34 132 = 1 ∧ PrR 0 n σ σ)
def CtR (σ : SS) : Prop := (σ.1 2 0 4 = 0 ∧ σ.1 11 0 42 = 0) ∨ (σ.1 2 0 4 = 1 ∧ σ.1 11 0 42 = 1 ∧ ∀ j, j < 5 → σ.1 13 29 j = σ.1 13 44 j)
def CtC : Nat → Nat → Nat → Prop := fun k n j => (k = 2 ∧ n = 0 ∧ j = 4) ∨ (k = 11 ∧ n = 0 ∧ j = 42) ∨ (k = 13 ∧ (n = 29 ∨ n = 44))
theorem CtR.keep {σ τ : SS} {P : Nat → Nat → Nat → Prop} (h : CtR σ) (hE : Eqo P σ τ) (hP : ∀ k n j, P k n j → ¬ CtC k n j) : CtR τ := by
  have e : ∀ k n j, CtC k n j → τ.1 k n j = σ.1 k n j := fun k n j q => hE.1 k n j (fun z => hP k n j z q)
  have e1 : τ.1 2 0 4 = σ.1 2 0 4 := e _ _ _ (by unfold CtC; omega)
  have e2 : τ.1 11 0 42 = σ.1 11 0 42 := e _ _ _ (by unfold CtC; omega)
  have e3 : ∀ j, τ.1 13 29 j = σ.1 13 29 j := fun j => e _ _ _ (by unfold CtC; omega)
  have e4 : ∀ j, τ.1 13 44 j = σ.1 13 44 j := fun j => e _ _ _ (by unfold CtC; omega)
  unfold CtR
  simp only [e1, e2, e3, e4]
  exact h
theorem PrR.keep {d n : Nat} {σ υ σ' υ' : SS} (h : PrR d n σ υ) (h1 : σ'.1 8 d 2 = σ.1 8 d 2) (h2 : ∀ j, σ'.1 13 (4 * d) j = σ.1 13 (4 * d) j) (h3 : ∀ j, υ'.1 13 34 j = υ.1 13 34 j) : PrR d n σ' υ' := by
  unfold PrR
  have e1 : σ'.1 13 (4 * d) = σ.1 13 (4 * d) := funext h2
  have e2 : υ'.1 13 34 = υ.1 13 34 := funext h3
  rw [h1, e1, e2]
  exact h
/-- with the reference's cells from 132 on alone -/
theorem Bk.congr {n : Nat} {F F' G G' : Nat → Int32} (hF : ∀ j, j < 240 → F' j = F j) (hG : ∀ j, 132 ≤ j → j < 410 → G' j = G j) : ∀ K q s t l lt, Bk n F G K q s t l lt → t ≤ 30 → lt ≤ 60 → Bk n F' G' K q s t l lt := by
  intro K
  induction K with
  | zero => exact fun q s t l lt h _ _ => h
  | succ K ih =>
    intro q s t l lt h ht hlt
    rcases h with h | ⟨w, k, hp, h1, h2, h3, h4, h5, h6⟩ | ⟨h1, h2, h3, h4, h5, h6⟩ | ⟨q', m, le, w, k, hq, hp, hw, hk, hk6, hm, hp1, he, hp2, hsm, hmt, hlle, hlelt, hbody, hrest⟩ | ⟨q', m, le, num, hq, hn1, hnum, hw, hf, hk, hg, hm, hp1, he, hp2, hsm, hmt, hlle, hlelt, hbody, hrest⟩
    · exact .inl h
    · refine .inr (.inl ⟨w, k, ?_, ?_, ?_, ?_, h4, h5, ih _ _ _ _ _ h6 ht hlt⟩)
      · rw [hF _ (by omega), hG _ (by omega) (by omega)]; exact hp
      · rw [hF _ (by omega)]; exact h1
      · rw [hG _ (by omega) (by omega)]; exact h2
      · rw [hG _ (by omega) (by omega)]; exact h3
    · refine .inr (.inr (.inl ⟨?_, ?_, ?_, h4, h5, ih _ _ _ _ _ h6 ht hlt⟩))
      · rw [hF _ (by omega)]; exact h1
      · rw [hG _ (by omega) (by omega)]; exact h2
      · rw [hG _ (by omega) (by omega)]; exact h3
    · refine .inr (.inr (.inr (.inl ⟨q', m, le, w, k, hq, ?_, ?_, ?_, ?_, ?_, ?_, ?_, ?_, hsm, hmt, hlle, hlelt, ih _ _ _ _ _ hbody (by omega) (by omega), ih _ _ _ _ _ hrest ht hlt⟩)))
      · rw [hF _ (by omega), hF _ (by omega), hG _ (by omega) (by omega), hG _ (by omega) (by omega), hG _ (by omega) (by omega)]; exact hp
      · rw [hF _ (by omega)]; exact hw
      · rw [hG _ (by omega) (by omega)]; exact hk
      · rw [hG _ (by omega) (by omega)]; exact hk6
      · rw [hG _ (by omega) (by omega)]; exact hm
      · rw [hF _ (by omega)]; exact hp1
      · rw [hF _ (by omega)]; exact he
      · rw [hF _ (by omega)]; exact hp2
    · refine .inr (.inr (.inr (.inr ⟨q', m, le, num, hq, hn1, hnum, ?_, ?_, ?_, ?_, ?_, ?_, ?_, ?_, hsm, hmt, hlle, hlelt, ih _ _ _ _ _ hbody (by omega) (by omega), ih _ _ _ _ _ hrest ht hlt⟩)))
      · rw [hF _ (by omega)]; exact hw
      · rw [hF _ (by omega)]; exact hf
      · rw [hG _ (by omega) (by omega)]; exact hk
      · rw [hG _ (by omega) (by omega)]; exact hg
      · rw [hG _ (by omega) (by omega)]; exact hm
      · rw [hF _ (by omega)]; exact hp1
      · rw [hF _ (by omega)]; exact he
      · rw [hF _ (by omega)]; exact hp2
theorem PrR.keep2 {d n : Nat} {σ υ σ' υ' : SS} (h : PrR d n σ υ) (h1 : σ'.1 8 d 2 = σ.1 8 d 2) (h2 : ∀ j, σ'.1 13 (4 * d) j = σ.1 13 (4 * d) j) (h3 : ∀ j, 132 ≤ j → υ'.1 13 34 j = υ.1 13 34 j) : PrR d n σ' υ' := by
  obtain ⟨ns, nl, K, a, b, c, e, f⟩ := h
  exact ⟨ns, nl, K, a, b, h1.trans c, (h3 _ (by omega)).trans e, Bk.congr (fun j _ => h2 j) (fun j hj _ => h3 j hj) _ _ _ _ _ _ f a b⟩
def PL : Nat → Nat → Nat → Prop := fun k n j => PS k n j ∨ LRn 0 k n j ∨ LXt k n j ∨ CtC k n j
theorem ck44 {k : Nat} (hk : k < 5) : ck (LN 13 44) (nI k) = some k := by
  rw [show LN 13 44 = 5 by decide]
  exact ck_nI hk (by decide)
theorem isSeed_in (σ : SS) {w : Nat} (hw : w ≤ 9999) : X11_isSeed σ (nI w) = some 1 := by
  unfold X11_isSeed X11_isSeed_j0
  rw [if_neg (nI_pos (by omega)), if_neg (show ¬ (9999 : Int32) < nI w from nI_nlt (a := 9999) hw (by decide))]
theorem isSeed_out (σ : SS) {a : Int32} (ha : a < 0 ∨ (¬ a < 0 ∧ ¬ a ≤ 9999)) : X11_isSeed σ a = some 0 := by
  unfold X11_isSeed X11_isSeed_j0
  rcases ha with q | ⟨q1, q2⟩
  · rw [if_pos q]
  · rw [if_neg q1, if_pos (show (9999 : Int32) < a from Int32.not_le.mp q2)]
section OL
variable {σ : SS} {n nk i c : Nat} {s p o : Int32} {nu : Nat → Nat → Nat} {lo : Nat → Nat} {L : List X3}
theorem op_live (a : Int32) (h : RelD σ n nk nu lo i c s p o L) (hy : YrR n σ) (hc : CtR σ) : OR3 PL σ (fun σ => X11_live σ a) (fun σ => X12_live σ a) (fun τ => (∃ i c s p o L, RelD τ n nk nu lo i c s p o L) ∧ CtR τ) := by
  have hC : ∀ τ, Eqo PS σ τ → (∃ i c s p o L, RelD τ n nk nu lo i c s p o L) ∧ CtR τ := fun τ hE => ⟨⟨i, c, s, p, o, L, h.ps hE⟩, hc.keep hE (fun k n j q => by unfold PS at q; unfold CtC; omega)⟩
  have hPS : ∀ k n j, PS k n j → PL k n j := fun _ _ _ q => .inl q
  rcases in_or a 9999 (by decide) with ⟨w, hw, rfl⟩ | ⟨ha, hn⟩
  · rcases hy with ⟨y1, y2⟩ | ⟨y1, y2, hp⟩
    · refine refP hC hPS 8 (-1) ?_ ?_
      · show X11_live σ (nI w) = _
        unfold X11_live X11_live_j0 X11_live_j31 X9_isThere X9_isThere_j0
        rw [isSeed_in σ hw, Option.bind_some, if_neg neg1_0, y1, zb_0, Option.bind_some, Option.bind_some, if_pos rfl, answersN _ (by decide), Option.bind_some, if_pos rfl]
      · show X12_live (wI σ 10 0 11 8) (nI w) = _
        unfold X12_live X12_live_j0
        rw [Option.bind_some, Option.bind_some, s0e, xisIn_in _ hw (by decide) 9999 (by decide), Option.bind_some, if_neg neg1_0, show ck (LN 13 34) 132 = some 132 from ckc (j := 132) (by decide), Option.bind_some, (s0_ps σ 8).at1 (by unfold PS; omega), y2, if_pos rfl]
        rfl
    · -- both live
      have h1 := h.ps (ps1 σ 0)
      have hp1 : PrR 0 n (wI σ 10 0 11 0) (wI σ 10 0 11 0) := hp.keep2 ((ps1 σ 0).at1 (by unfold PS; omega)) (fun j => (ps1 σ 0).at1 (by unfold PS; omega)) (fun j _ => (ps1 σ 0).at1 (by unfold PS; omega))
      obtain ⟨done, σ', -, e1, -, hd3, -, -, -, E1, -⟩ := run_ok (by decide) h1.1 h1.2.1 h1.2.2.1 h1.2.2.2 hp1 (w := w) (by omega)
      obtain ⟨τ, e2, t1, t2, t3⟩ := ttake (σ := σ') (t := 29) (r := 28) (N := 5) (by decide) (by decide) (by decide) (by decide)
      have Et : Eqo CtC σ' (wI τ 2 0 4 1) := by
        have : Eqo CtC σ' τ := ⟨fun k n j q => t2 k n j (fun z => q (.inr (.inr ⟨z.1, .inl z.2⟩))), fun k n j _ => by rw [t1]⟩
        exact this.tr (Eqo.wI (.inl ⟨rfl, rfl, rfl⟩))
      have g204 : (wI τ 2 0 4 1).1 2 0 4 = 1 := wI_eq _ _ _ _ _
      have g29 : ∀ j, j < 5 → (wI τ 2 0 4 1).1 13 29 j = σ'.1 13 28 j := fun j hj => by
        rw [wI_ne _ _ (by omega)]
        exact t3 j hj
      have eC : X11_live σ (nI w) = some (nI done, wI τ 2 0 4 1) := by
        unfold X11_live X11_live_j0 X11_live_j31 X9_isThere X9_isThere_j0 X2_keepCounts X2_keepCounts_j0
        rw [isSeed_in σ hw, Option.bind_some, if_neg neg1_0, y1, zb_1, Option.bind_some, Option.bind_some, if_neg neg1_0, answers0, Option.bind_some, if_neg neg1_0, e1, Option.bind_some]
        simp only
        rw [e2, Option.bind_some, Option.bind_some, Option.bind_some]
      generalize wI τ 2 0 4 1 = τ1 at *
      have Ea : Eqo PL σ τ1 := ((ps1 σ 0).mono hPS).tr ((E1.mono (fun _ _ _ q => .inr (.inl q))).tr (Et.mono (fun _ _ _ q => .inr (.inr (.inr q)))))
      have nG : ∀ j, ¬ (LRn 0 13 34 j ∨ CtC 13 34 j ∨ PS 13 34 j) := fun j => by
        unfold LRn LCt LC VO VC WF WR CtC PS
        omega
      have eG : ∀ j, (xb τ1).1 13 34 j = (wI σ 10 0 11 0).1 13 34 j := fun j => ((xb_ps τ1).at1 (fun z => nG j (.inr (.inr z)))).trans ((Et.at1 (fun z => nG j (.inr (.inl z)))).trans (E1.at1 (fun z => nG j (.inl z))))
      have hxs : RXS (xb τ1) n nk nu lo := h1.2.2.1.of (fun j _ => eG j)
      have hx : RXV (xb τ1) n i c s p o L := h1.2.2.2.of (fun j _ => eG j)
      obtain ⟨done2, σ2, υ', e1', f1, hd4, d44, cnt, ⟨i2, c2, s2, p2, o2, L2, A1, A2, A3, A4⟩, -, F1⟩ := run_ok (by decide) h1.1 h1.2.1 hxs hx (hp1.keep2 rfl (fun _ => rfl) (fun j _ => eG j)) (w := w) (by omega)
      rw [e1] at e1'
      simp only [Option.some.injEq, Prod.mk.injEq] at e1'
      obtain ⟨ed, rfl⟩ := e1'
      -- the reference keeps its counts
      have hY : ∃ υ2, X12_live τ1 (nI w) = some (nI done, υ2) ∧ Eqo CtC υ' υ2 ∧ υ2.1 11 0 42 = 1 ∧ (∀ j, j < 5 → υ2.1 13 44 j = υ'.1 11 0 (45 + j)) ∧ υ2.1 2 0 4 = υ'.1 2 0 4 ∧ ∀ j, υ2.1 13 29 j = υ'.1 13 29 j := by
        refine ⟨wI (wI (wI (wI (wI (wI υ' 13 44 0 (υ'.1 11 0 45)) 13 44 1 (υ'.1 11 0 46)) 13 44 2 (υ'.1 11 0 47)) 13 44 3 (υ'.1 11 0 48)) 13 44 4 (υ'.1 11 0 49)) 11 0 42 1, ?_, ?_, wI_eq _ _ _ _ _, fun j hj => ?_, ?_, fun j => ?_⟩
        · unfold X12_live X12_live_j0
          rw [Option.bind_some, Option.bind_some]
          show ((X12_isIn (xb τ1) (Int32.toInt64 (nI w)) 0 9999).bind _) = _
          rw [xisIn_in _ hw (by decide) 9999 (by decide), Option.bind_some, if_neg neg1_0, show ck (LN 13 34) 132 = some 132 from ckc (j := 132) (by decide), Option.bind_some]
          have e132 : (wI (wI τ1 11 0 1 0) 11 0 0 0).1 13 34 132 = 1 := (eG 132).trans (((ps1 σ 0).at1 (by unfold PS; omega)).trans y2)
          rw [e132, if_neg neg1_0]
          have f1' : X12_runs (wI (wI τ1 11 0 1 0) 11 0 0 0) (nI w) = some υ' := f1
          rw [f1', Option.bind_some, show ck (LN 13 44) 0 = some 0 from ck44 (k := 0) (by decide), Option.bind_some, Option.bind_some, show ck (LN 13 44) 1 = some 1 from ck44 (k := 1) (by decide), Option.bind_some, wI_ne _ _ (by omega), Option.bind_some, show ck (LN 13 44) 2 = some 2 from ck44 (k := 2) (by decide), Option.bind_some, wI_ne _ _ (by omega), wI_ne _ _ (by omega), Option.bind_some, show ck (LN 13 44) 3 = some 3 from ck44 (k := 3) (by decide), Option.bind_some, wI_ne _ _ (by omega), wI_ne _ _ (by omega), wI_ne _ _ (by omega), Option.bind_some, show ck (LN 13 44) 4 = some 4 from ck44 (k := 4) (by decide), Option.bind_some, wI_ne _ _ (by omega), wI_ne _ _ (by omega), wI_ne _ _ (by omega), wI_ne _ _ (by omega), Option.bind_some, Option.bind_some, wI_ne _ _ (by omega), wI_ne _ _ (by omega), wI_ne _ _ (by omega), wI_ne _ _ (by omega), wI_ne _ _ (by omega), wI_ne _ _ (by omega), d44, ← ed]
        · exact ((((Eqo.tr (Eqo.wI (by unfold CtC; omega)) (Eqo.wI (by unfold CtC; omega))).tr (Eqo.wI (by unfold CtC; omega))).tr (Eqo.wI (by unfold CtC; omega))).tr (Eqo.wI (by unfold CtC; omega))).tr (Eqo.wI (by unfold CtC; omega))
        · rw [wI_ne _ _ (by omega)]
          have : j = 4 ∨ j = 3 ∨ j = 2 ∨ j = 1 ∨ j = 0 := by omega
          rcases this with z | z | z | z | z
          · subst z; rw [wI_eq]
          · subst z; rw [wI_ne _ _ (by omega), wI_eq]
          · subst z; rw [wI_ne _ _ (by omega), wI_ne _ _ (by omega), wI_eq]
          · subst z; rw [wI_ne _ _ (by omega), wI_ne _ _ (by omega), wI_ne _ _ (by omega), wI_eq]
          · subst z; rw [wI_ne _ _ (by omega), wI_ne _ _ (by omega), wI_ne _ _ (by omega), wI_ne _ _ (by omega), wI_eq]
        · rw [wI_ne _ _ (by omega), wI_ne _ _ (by omega), wI_ne _ _ (by omega), wI_ne _ _ (by omega), wI_ne _ _ (by omega), wI_ne _ _ (by omega)]
        · rw [wI_ne _ _ (by omega), wI_ne _ _ (by omega), wI_ne _ _ (by omega), wI_ne _ _ (by omega), wI_ne _ _ (by omega), wI_ne _ _ (by omega)]
      obtain ⟨υ2, f2, F2, k42, k44, k204, k29⟩ := hY
      have nX : ∀ k m j, ((k = 2 ∧ m = 0 ∧ j = 4) ∨ (k = 13 ∧ m = 29) ∨ (k = 10) ∨ (k = 11 ∧ m = 0 ∧ j ≤ 1)) → ¬ LXt k m j := fun k m j q => by
        unfold LXt LXs LX XO XC FX
        omega
      have EX : Eqo (fun k m j => PS k m j ∨ LXt k m j ∨ CtC k m j) σ' υ2 := ((Et.mono (fun _ _ _ q => .inr (.inr q))).tr ((xb_ps τ1).mono (fun _ _ _ q => .inl q))).tr ((F1.mono (fun _ _ _ q => .inr (.inl q))).tr (F2.mono (fun _ _ _ q => .inr (.inr q))))
      have nR : ∀ k m j, (PS k m j ∨ LXt k m j ∨ CtC k m j) → ¬ ((k = 0 ∧ m = 0) ∨ (k = 13 ∧ 1 ≤ m ∧ m ≤ 3)) := fun k m j q => by
        unfold PS LXt LXs LX XO XC FX CtC at q
        omega
      refine ⟨nI done, τ1, υ2, eC, f2, ?_, ?_, ⟨i2, c2, s2, p2, o2, L2, ?_⟩, ?_⟩
      · unfold St
        rw [F2.at1 (by unfold CtC; omega), F2.at1 (by unfold CtC; omega), F1.at1 (nX _ _ _ (by omega)), F1.at1 (nX _ _ _ (by omega))]
        refine xb_st ?_
        rw [Et.at1 (by unfold CtC; omega), E1.at1 (by unfold LRn LCt LC VO VC WF WR; omega), wI_eq]
      · exact (Ea.tr ((xb_ps τ1).mono hPS)).tr ((F1.mono (fun _ _ _ q => .inr (.inr (.inl q)))).tr (F2.mono (fun _ _ _ q => .inr (.inr (.inr q)))))
      · have u1 : RS υ2 0 n nk nu lo := A1.keep EX (fun k m j q z => nR k m j q (by omega))
        have u2 : RV υ2 0 n i2 c2 s2 p2 o2 L2 := A2.keep EX (fun k m j q z => nR k m j q (by omega))
        have u3 : RXS υ2 n nk nu lo := A3.keep F2 (fun j q => by unfold CtC at q; omega)
        have u4 : RXV υ2 n i2 c2 s2 p2 o2 L2 := A4.keep F2 (fun j q => by unfold CtC at q; omega)
        exact ⟨u1, u2, u3, u4⟩
      · right
        refine ⟨?_, k42, fun j hj => ?_⟩
        · rw [k204, F1.at1 (nX _ _ _ (by omega)), (xb_ps τ1).at1 (by unfold PS; omega), g204]
        · rw [k29, k44 j hj, F1.at1 (nX _ _ _ (by omega)), (xb_ps τ1).at1 (by unfold PS; omega), g29 j hj, cnt j hj]
  · refine refP hC hPS 5 (-1) ?_ ?_
    · show X11_live σ a = _
      unfold X11_live X11_live_j0 X11_live_j31
      rw [isSeed_out σ ha, Option.bind_some, if_pos rfl, answersN _ (by decide), Option.bind_some, if_pos rfl]
    · show X12_live (wI σ 10 0 11 5) a = _
      unfold X12_live X12_live_j0
      rw [Option.bind_some, Option.bind_some, s0e, xisIn_out _ hn 9999 (by decide), Option.bind_some, if_pos rfl]
      rfl
theorem op_lived (a : Int32) (hc : CtR σ) : OR3 PS σ (fun σ => X11_lived σ a) (fun σ => X12_lived σ a) CtR := by
  have hC : ∀ τ, Eqo PS σ τ → CtR τ := fun τ hE => hc.keep hE (fun k n j q => by unfold PS at q; unfold CtC; omega)
  rcases in_or a 4 (by decide) with ⟨w, hw, rfl⟩ | ⟨ha, hn⟩
  · have eH : X2_hasCounts σ = some (σ.1 2 0 4) := by
      unfold X2_hasCounts X2_hasCounts_j0
      rcases hc with ⟨z, -⟩ | ⟨z, -⟩ <;> rw [z] <;> rfl
    rcases hc with ⟨z1, z2⟩ | ⟨z1, z2, z3⟩
    · refine refP hC (fun _ _ _ q => q) 8 (-1) ?_ ?_
      · show X11_lived σ (nI w) = _
        unfold X11_lived X11_lived_j0 X11_lived_j30
        rw [if_neg (nI_pos (by omega)), if_pos (show nI w ≤ 4 from nI_le (b := 4) hw (by decide)), eH, Option.bind_some, z1, if_pos rfl, answersN _ (by decide), Option.bind_some, if_pos rfl]
      · show X12_lived (wI σ 10 0 11 8) (nI w) = _
        unfold X12_lived X12_lived_j0
        rw [Option.bind_some, Option.bind_some, s0e, xisIn_in _ hw (by decide) 4 (by decide), Option.bind_some, if_neg neg1_0, (s0_ps σ 8).at1 (by unfold PS; omega), z2, if_pos rfl]
        rfl
    · refine tellP hC (fun _ _ _ q => q) (σ.1 13 29 w) ?_ ?_
      · show X11_lived σ (nI w) = _
        have h1 : TR 29 = 1 ∧ TW 29 = 5 := by decide
        have ea := at_ok (wI σ 10 0 11 0) (t := 29) (r := 0) (c := w) (by decide) (by decide) (by rw [h1.2]; omega)
        rw [Nat.zero_mul, Nat.zero_add] at ea
        have ea' : X4_at (wI σ 10 0 11 0) 29 0 (nI w) = some ((wI σ 10 0 11 0).1 13 29 w) := ea
        unfold X11_lived X11_lived_j0 X11_lived_j30 X2_keptCount X2_keptCount_j0
        rw [if_neg (nI_pos (by omega)), if_pos (show nI w ≤ 4 from nI_le (b := 4) hw (by decide)), eH, Option.bind_some, z1, if_neg neg1_0, answers0, Option.bind_some, if_neg neg1_0, ea', Option.bind_some, Option.bind_some, wI_ne _ _ (by omega)]
      · show X12_lived (wI σ 10 0 11 0) (nI w) = _
        unfold X12_lived X12_lived_j0
        rw [Option.bind_some, Option.bind_some, s0e, xisIn_in _ hw (by decide) 4 (by decide), Option.bind_some, if_neg neg1_0, (s0_ps σ 0).at1 (by unfold PS; omega), z2, if_neg neg1_0, ck44 (by omega), Option.bind_some, (s0_ps σ 0).at1 (by unfold PS; omega), ← z3 w (by omega)]
  · refine refP hC (fun _ _ _ q => q) 5 (-1) ?_ ?_
    · show X11_lived σ a = _
      unfold X11_lived X11_lived_j0 X11_lived_j10 X11_lived_j30
      rcases ha with q | ⟨q1, q2⟩
      · rw [if_pos q, answersN _ (by decide), Option.bind_some, if_pos rfl]
      · rw [if_neg q1, if_neg (show ¬ a ≤ 4 from q2), answersN _ (by decide), Option.bind_some, if_pos rfl]
    · show X12_lived (wI σ 10 0 11 5) a = _
      unfold X12_lived X12_lived_j0
      rw [Option.bind_some, Option.bind_some, s0e, xisIn_out _ hn 4 (by decide), Option.bind_some, if_pos rfl]
      rfl
end OL
