/-! ===== mark, back: the ops ===== -/
def MkR (σ : SS) : Prop := ∃ q, q ≤ 3 ∧ σ.1 10 0 10 = nI q ∧ σ.1 11 0 23 = nI q ∧ ∀ k, k < q → BlE (2 + k) (1 + k) σ
def MkC : Nat → Nat → Nat → Prop := fun k n j => (k = 10 ∧ n = 0 ∧ j = 10) ∨ (k = 11 ∧ n = 0 ∧ j = 23)
/-- mark's frame: the marks -/
def PMk : Nat → Nat → Nat → Prop := fun k n j => PS k n j ∨ MkC k n j ∨ (∃ t, 2 ≤ t ∧ t < 5 ∧ DC t k n j) ∨ (∃ b, 1 ≤ b ∧ b < 4 ∧ PC b k n j)
/-- back's frame: the drawer -/
def PBk : Nat → Nat → Nat → Prop := fun k n j => PS k n j ∨ MkC k n j ∨ DC 0 k n j ∨ PC 0 k n j
theorem Took.keep {σ τ υ : SS} {t f : Nat} {P : Nat → Nat → Nat → Prop} (h : Took σ τ t f) (hE : Eqo P τ υ) (hP : ∀ k m j, P k m j → ¬ ((k = 0 ∧ m = t ∧ 5 ≤ j ∧ j ≤ 12) ∨ (k = 13 ∧ 4 * t ≤ m ∧ m < 4 * t + 4) ∨ (k = 8 ∧ m = t) ∨ (k = 14 ∧ m = t))) : Took σ υ t f := by
  obtain ⟨h1, h2, h3, h4, h5, h6, h7⟩ := h
  refine ⟨fun j a b => ?_, fun j a b => ?_, fun j a => ?_, fun j a => ?_, fun j a => ?_, fun j a => ?_, fun j a => ?_⟩
  · rw [hE.at1 (fun q => hP _ _ _ q (by omega))]; exact h1 j a b
  · rw [hE.at1 (fun q => hP _ _ _ q (by omega))]; exact h2 j a b
  · rw [hE.at1 (fun q => hP _ _ _ q (by omega))]; exact h3 j a
  · rw [hE.at1 (fun q => hP _ _ _ q (by omega))]; exact h4 j a
  · rw [hE.at1 (fun q => hP _ _ _ q (by omega))]; exact h5 j a
  · rw [hE.at1 (fun q => hP _ _ _ q (by omega))]; exact h6 j a
  · rw [hE.2 _ _ _ (fun q => hP _ _ _ q (by omega))]; exact h7 j a
theorem YrB.flag {σ : SS} {d b n : Nat} (h : YrB d b n σ) : ∃ x : Bool, σ.1 8 d 1 = if x = true then 1 else 0 := by
  rcases h with ⟨g, -⟩ | ⟨g, -⟩
  · exact ⟨false, by rw [g]; rfl⟩
  · exact ⟨true, by rw [g]; rfl⟩
section MO
variable {σ : SS} {n nk i c : Nat} {s p o : Int32} {nu : Nat → Nat → Nat} {lo : Nat → Nat} {L : List X3}
theorem markAt_ok (σ : SS) {q : Nat} (hq : q < 3) : X11_markAt σ (nI q) = some (some (q + 2)) := by
  unfold X11_markAt X11_markAt_j0
  rw [if_neg (nI_pos (by omega)), show LN 15 0 = 3 from rfl, if_neg (nI_ge hq (by decide)), ck_nI hq (by decide), Option.bind_some]
theorem BlE.keep {σ τ : SS} {d b : Nat} {P : Nat → Nat → Nat → Prop} (h : BlE d b σ) (hE : Eqo P σ τ) (hP : ∀ k m j, P k m j → ¬ ((k = 0 ∧ m = d ∧ 5 ≤ j ∧ j ≤ 12) ∨ (k = 13 ∧ 4 * d ≤ m ∧ m < 4 * d + 4) ∨ (k = 8 ∧ m = d) ∨ (k = 14 ∧ m = d) ∨ PC b k m j)) : BlE d b τ := by
  obtain ⟨n, nk, nu, lo, i, c, s, p, o, L, h⟩ := h
  exact ⟨n, nk, nu, lo, i, c, s, p, o, L, h.keep hE hP⟩
theorem MkR.keep {σ τ : SS} {P : Nat → Nat → Nat → Prop} (h : MkR σ) (hE : Eqo P σ τ) (hP : ∀ k m j, P k m j → ¬ (MkC k m j ∨ (∃ t, 2 ≤ t ∧ t < 5 ∧ ((k = 0 ∧ m = t ∧ 5 ≤ j ∧ j ≤ 12) ∨ (k = 13 ∧ 4 * t ≤ m ∧ m < 4 * t + 4) ∨ (k = 8 ∧ m = t) ∨ (k = 14 ∧ m = t))) ∨ (∃ b, 1 ≤ b ∧ b < 4 ∧ PC b k m j))) : MkR τ := by
  obtain ⟨q, h1, h2, h3, h4⟩ := h
  refine ⟨q, h1, (hE.at1 (fun z => hP _ _ _ z (.inl (by unfold MkC; omega)))).trans h2, (hE.at1 (fun z => hP _ _ _ z (.inl (by unfold MkC; omega)))).trans h3, fun k hk => (h4 k hk).keep hE (fun a b j z w => ?_)⟩
  rcases w with w | w | w | w | w
  · exact hP _ _ _ z (.inr (.inl ⟨2 + k, by omega, by omega, by omega⟩))
  · exact hP _ _ _ z (.inr (.inl ⟨2 + k, by omega, by omega, by omega⟩))
  · exact hP _ _ _ z (.inr (.inl ⟨2 + k, by omega, by omega, by omega⟩))
  · exact hP _ _ _ z (.inr (.inl ⟨2 + k, by omega, by omega, by omega⟩))
  · exact hP _ _ _ z (.inr (.inr ⟨1 + k, by omega, by omega, w⟩))
theorem MkR.ps {σ τ : SS} (h : MkR σ) (hE : Eqo PS σ τ) : MkR τ := h.keep hE (fun k m j q w => by
  rcases w with w | ⟨t, a, b, w⟩ | ⟨t, a, b, w⟩
  · unfold PS at q; unfold MkC at w; omega
  · unfold PS at q; omega
  · unfold PS at q; unfold PC at w; omega)
theorem op_mark (h : BlR 0 0 σ n nk nu lo i c s p o L) (hM : MkR σ) : OR3 PMk σ X11_mark X12_mark (fun τ => BlR 0 0 τ n nk nu lo i c s p o L ∧ MkR τ) := by
  have hC : ∀ τ, Eqo PS σ τ → BlR 0 0 τ n nk nu lo i c s p o L ∧ MkR τ := fun τ hE => ⟨h.keep hE (fun k m j q => by unfold PS at q; unfold PC; omega), hM.ps hE⟩
  have hPS : ∀ k n j, PS k n j → PMk k n j := fun _ _ _ q => .inl q
  obtain ⟨q, hq, h10, h23, hB⟩ := hM
  by_cases z : q = 3
  · subst z
    refine refP hC hPS 7 (-1) ?_ ?_
    · unfold X11_mark X11_mark_j0 X11_mark_j15
      rw [h10, if_neg (show ¬ nI 3 < 3 by decide), answersN _ (by decide), Option.bind_some, if_pos rfl]
    · unfold X12_mark X12_mark_j0
      rw [Option.bind_some, Option.bind_some, s0e, (s0_ps σ 7).at1 (by unfold PS; omega), h23, if_pos (show nI 3 = 3 from rfl)]
      rfl
  · have hq3 : q < 3 := by omega
    have h1 := (hC _ (ps1 σ 0)).1
    have g10 : (wI σ 10 0 11 0).1 10 0 10 = nI q := by rw [wI_ne _ _ (by omega)]; exact h10
    obtain ⟨τ, e1, hT, E1⟩ := takeOver_ok (σ := wI σ 10 0 11 0) (t := q + 2) (f := 0) (by omega) (by decide) (by omega) h1.2.2.2.2.1.flag
    have t10 : τ.1 10 0 10 = nI q := (E1.at1 (by unfold DC; omega)).trans g10
    have t23 : τ.1 11 0 23 = nI q := ((E1.at1 (by unfold DC; omega)).trans ((ps1 σ 0).at1 (by unfold PS; omega))).trans h23
    have t0 : τ.1 10 0 11 = 0 := (E1.at1 (by unfold DC; omega)).trans (wI_eq _ _ _ _ _)
    -- the reference
    have E2 : Eqo (fun k n j => PS k n j ∨ MkC k n j) τ (wI (xb (wI τ 10 0 10 (nI (q + 1)))) 11 0 23 (nI (q + 1))) := ((Eqo.wI (.inr (.inl ⟨rfl, rfl, rfl⟩))).tr ((xb_ps _).mono (fun _ _ _ q => .inl q))).tr (Eqo.wI (.inr (.inr ⟨rfl, rfl, rfl⟩)))
    obtain ⟨υ, e2, c1, c2, E3⟩ := xcopy_ok (wI (xb (wI τ 10 0 10 (nI (q + 1)))) 11 0 23 (nI (q + 1))) (a := 0) (b := q + 1) (by decide) (by omega) (by omega)
    have EB : Eqo (fun k n j => DC (q + 2) k n j ∨ PS k n j ∨ MkC k n j ∨ PC (q + 1) k n j) (wI σ 10 0 11 0) υ := ((E1.mono (fun _ _ _ q => .inl q)).tr (E2.mono (fun _ _ _ q => by
      rcases q with q | q
      · exact .inr (.inl q)
      · exact .inr (.inr (.inl q))))).tr (E3.mono (fun _ _ _ q => .inr (.inr (.inr q))))
    have hT' : Took (wI σ 10 0 11 0) υ (q + 2) 0 := (hT.keep E2 (fun k m j q => by unfold PS MkC at q; omega)).keep E3 (fun k m j q => by unfold PC at q; omega)
    have hnew : BlR (q + 2) (q + 1) υ n nk nu lo i c s p o L := h1.took hT' (fun j hj => by
      rw [c1 j hj, E2.at1 (by unfold PS MkC; omega), E1.at1 (by unfold DC; omega)]) (fun j hj => by
      rw [c2 j hj, E2.2 _ _ _ (by unfold PS MkC; omega), E1.2 _ _ _ (by unfold DC; omega)])
    have u10 : υ.1 10 0 10 = nI (q + 1) := by
      rw [E3.at1 (by unfold PC; omega), wI_ne _ _ (by omega), (xb_ps _).at1 (by unfold PS; omega), wI_eq]
    have u23 : υ.1 11 0 23 = nI (q + 1) := by
      rw [E3.at1 (by unfold PC; omega), wI_eq]
    refine ⟨nI (q + 1), wI τ 10 0 10 (nI (q + 1)), υ, ?_, ?_, ?_, ?_, h1.keep EB (fun k m j z => ?_), q + 1, by omega, u10, u23, fun k hk => ?_⟩
    · unfold X11_mark X11_mark_j0 X11_mark_j15 X11_mark_j54
      rw [h10, if_pos (show nI q < 3 from nI_lt (b := 3) hq3 (by decide)), answers0, Option.bind_some, if_neg neg1_0, g10, markAt_ok _ hq3, Option.bind_some]
      simp only
      rw [if_pos (by omega), e1, Option.bind_some, t10, nI_1, Option.bind_some, wI_eq]
    · unfold X12_mark X12_mark_j0
      rw [Option.bind_some, Option.bind_some]
      show (if (xb (wI τ 10 0 10 (nI (q + 1)))).1 11 0 23 = 3 then _ else _) = _
      have x23 : (xb (wI τ 10 0 10 (nI (q + 1)))).1 11 0 23 = nI q := by
        rw [(xb_ps _).at1 (by unfold PS; omega), wI_ne _ _ (by omega)]
        exact t23
      rw [x23, if_neg (show ¬ nI q = 3 from wne z (by omega) (by decide))]
      have x23r : (wI (wI (wI τ 10 0 10 (nI (q + 1))) 11 0 1 0) 11 0 0 0).1 11 0 23 = nI q := x23
      rw [x23r, nI_1, Option.bind_some]
      show ((X12_copy (wI (xb (wI τ 10 0 10 (nI (q + 1)))) 11 0 23 (nI (q + 1))) 0 ((wI (xb (wI τ 10 0 10 (nI (q + 1)))) 11 0 23 (nI (q + 1))).1 11 0 23)).bind _) = _
      rw [wI_eq, show (0 : Int32) = nI 0 from rfl, e2, Option.bind_some, u23]
    · unfold St
      rw [E3.at1 (by unfold PC; omega), E3.at1 (by unfold PC; omega), wI_ne _ _ (by omega), wI_ne _ _ (by omega)]
      exact xb_st (by rw [wI_ne _ _ (by omega)]; exact t0)
    · refine ((ps1 σ 0).mono hPS).tr (EB.mono (fun k m j z => ?_))
      rcases z with z | z | z | z
      · exact .inr (.inr (.inl ⟨q + 2, by omega, by omega, z⟩))
      · exact .inl z
      · exact .inr (.inl z)
      · exact .inr (.inr (.inr ⟨q + 1, by omega, by omega, z⟩))
    · unfold DC PS MkC PC at z
      unfold PC
      omega
    · by_cases ek : k = q
      · subst ek
        rw [Nat.add_comm 2, Nat.add_comm 1]
        exact ⟨n, nk, nu, lo, i, c, s, p, o, L, hnew⟩
      · refine ((hB k (by omega)).keep (ps1 σ 0) (fun k m j q => by unfold PS at q; unfold PC; omega)).keep EB (fun a b j z => ?_)
        unfold DC PS MkC PC at z
        unfold PC
        omega
theorem op_back (h : BlR 0 0 σ n nk nu lo i c s p o L) (hM : MkR σ) : OR3 PBk σ X11_back X12_back (fun τ => BlE 0 0 τ ∧ MkR τ) := by
  have hC : ∀ τ, Eqo PS σ τ → BlE 0 0 τ ∧ MkR τ := fun τ hE => ⟨⟨n, nk, nu, lo, i, c, s, p, o, L, h.keep hE (fun k m j q => by unfold PS at q; unfold PC; omega)⟩, hM.ps hE⟩
  have hPS : ∀ k n j, PS k n j → PBk k n j := fun _ _ _ q => .inl q
  obtain ⟨q, hq, h10, h23, hB⟩ := hM
  by_cases z : q = 0
  · subst z
    refine refP hC hPS 8 (-1) ?_ ?_
    · unfold X11_back X11_back_j0 X11_back_j14
      rw [h10, if_neg (show ¬ (0 : Int32) < nI 0 by decide), answersN _ (by decide), Option.bind_some, if_pos rfl]
    · unfold X12_back X12_back_j0
      rw [Option.bind_some, Option.bind_some, s0e, (s0_ps σ 8).at1 (by unfold PS; omega), h23, if_pos (show nI 0 = 0 from rfl)]
      rfl
  · obtain ⟨r, rfl⟩ : ∃ r, q = r + 1 := ⟨q - 1, by omega⟩
    obtain ⟨n', nk', nu', lo', i', c', s', p', o', L', hb⟩ := hB r (by omega)
    rw [Nat.add_comm 2, Nat.add_comm 1] at hb
    have E0 : Eqo (fun k n j => PS k n j ∨ MkC k n j) σ (wI (wI σ 10 0 11 0) 10 0 10 (nI r)) := ((ps1 σ 0).mono (fun _ _ _ q => .inl q)).tr (Eqo.wI (.inr (.inl ⟨rfl, rfl, rfl⟩)))
    have hb1 := hb.keep E0 (fun k m j q => by unfold PS MkC at q; unfold PC; omega)
    obtain ⟨τ, e1, hT, E1⟩ := takeOver_ok (σ := wI (wI σ 10 0 11 0) 10 0 10 (nI r)) (t := 0) (f := r + 2) (by decide) (by omega) (by omega) hb1.2.2.2.2.1.flag
    have g10 : (wI (wI σ 10 0 11 0) 10 0 10 (nI r)).1 10 0 10 = nI r := wI_eq _ _ _ _ _
    have t10 : τ.1 10 0 10 = nI r := (E1.at1 (by unfold DC; omega)).trans g10
    have g23 : (wI (wI σ 10 0 11 0) 10 0 10 (nI r)).1 11 0 23 = nI (r + 1) := by
      rw [wI_ne _ _ (by omega), wI_ne _ _ (by omega)]
      exact h23
    have t23 : τ.1 11 0 23 = nI (r + 1) := (E1.at1 (by unfold DC; omega)).trans g23
    have g11 : (wI (wI σ 10 0 11 0) 10 0 10 (nI r)).1 10 0 11 = 0 := by rw [wI_ne _ _ (by omega), wI_eq]
    have t0 : τ.1 10 0 11 = 0 := (E1.at1 (by unfold DC; omega)).trans g11
    obtain ⟨υ, e2, c1, c2, E3⟩ := xcopy_ok (xb τ) (a := r + 1) (b := 0) (by omega) (by decide) (by omega)
    have E4 : Eqo (fun k n j => k = 11 ∧ n = 0 ∧ j = 23) υ (wI υ 11 0 23 (nI r)) := Eqo.wI ⟨rfl, rfl, rfl⟩
    have EB : Eqo (fun k n j => PS k n j ∨ MkC k n j ∨ DC 0 k n j ∨ PC 0 k n j) σ (wI υ 11 0 23 (nI r)) := (((E0.mono (fun _ _ _ q => by
      rcases q with q | q
      · exact .inl q
      · exact .inr (.inl q))).tr (E1.mono (fun _ _ _ q => .inr (.inr (.inl q))))).tr ((xb_ps τ).mono (fun _ _ _ q => .inl q))).tr ((E3.mono (fun _ _ _ q => .inr (.inr (.inr q)))).tr (E4.mono (fun _ _ _ q => .inr (.inl (.inr q)))))
    have hT' : Took (wI (wI σ 10 0 11 0) 10 0 10 (nI r)) (wI υ 11 0 23 (nI r)) 0 (r + 2) := ((hT.keep (xb_ps τ) (fun k m j q => by unfold PS at q; omega)).keep E3 (fun k m j q => by unfold PC at q; omega)).keep E4 (fun k m j q => by omega)
    have hnew : BlR 0 0 (wI υ 11 0 23 (nI r)) n' nk' nu' lo' i' c' s' p' o' L' := hb1.took hT' (fun j hj => by
      rw [E4.at1 (by omega), c1 j hj, (xb_ps τ).at1 (by unfold PS; omega), E1.at1 (by unfold DC; omega)]) (fun j hj => by
      rw [E4.2 _ _ _ (by omega), c2 j hj, (xb_ps τ).2 _ _ _ (by unfold PS; omega), E1.2 _ _ _ (by unfold DC; omega)])
    have u23 : υ.1 11 0 23 = nI (r + 1) := by
      rw [E3.at1 (by unfold PC; omega), (xb_ps _).at1 (by unfold PS; omega)]
      exact t23
    refine ⟨nI r, τ, wI υ 11 0 23 (nI r), ?_, ?_, ?_, EB, ⟨n', nk', nu', lo', i', c', s', p', o', L', hnew⟩, r, by omega, ?_, wI_eq _ _ _ _ _, fun k hk => ?_⟩
    · unfold X11_back X11_back_j0 X11_back_j14
      have g : (wI σ 10 0 11 0).1 10 0 10 = nI (r + 1) := by rw [wI_ne _ _ (by omega)]; exact h10
      rw [h10, if_pos (show (0 : Int32) < nI (r + 1) from nI_lt (a := 0) (Nat.succ_pos r) (by omega)), answers0, Option.bind_some, if_neg neg1_0, g, nI_sub1 (Nat.succ_pos r), show r.succ - 1 = r from rfl, Option.bind_some, g10, markAt_ok _ (by omega), Option.bind_some]
      unfold gq
      rw [Option.bind_some, if_pos (by omega), Option.bind_some, e1, Option.bind_some, t10]
    · unfold X12_back X12_back_j0
      rw [Option.bind_some, Option.bind_some]
      show (if (xb τ).1 11 0 23 = 0 then _ else _) = _
      have x23 : (xb τ).1 11 0 23 = nI (r + 1) := by
        rw [(xb_ps _).at1 (by unfold PS; omega)]
        exact t23
      rw [x23, if_neg (show ¬ nI (r + 1) = 0 from wne (Nat.succ_ne_zero r) (by omega) (by decide))]
      have x23r : (wI (wI τ 11 0 1 0) 11 0 0 0).1 11 0 23 = nI (r + 1) := x23
      rw [x23r]
      show ((X12_copy (xb τ) (nI (r + 1)) (nI 0)).bind _) = _
      rw [e2, Option.bind_some, u23, nI_sub1 (Nat.succ_pos r), show r.succ - 1 = r from rfl, Option.bind_some, wI_eq]
    · unfold St
      rw [E4.at1 (by omega), E4.at1 (by omega), E3.at1 (by unfold PC; omega), E3.at1 (by unfold PC; omega)]
      exact xb_st t0
    · rw [E4.at1 (by omega), E3.at1 (by unfold PC; omega), (xb_ps _).at1 (by unfold PS; omega)]
      exact t10
    · refine (hB k (by omega)).keep EB (fun a b j z => ?_)
      unfold DC PS MkC PC at z
      unfold PC
      omega
end MO
