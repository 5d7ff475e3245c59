/-! ===== LIFE: the whole program ===== -/
section S4
variable {σ υ : SS} {d n nk nl : Nat} {nu : Nat → Nat → Nat} {lo : Nat → Nat} {F G : Nat → Int32}
theorem one_loop (hd : d < 5) {D : SS → Int32 → Option SS} {s m l le num done turn : Nat} (h : SI d n nk nu lo F G nl σ υ done) (hdone : done < 300) (hT : turn ≤ 100 * done) (hs : s < 30) (hm30 : m ≤ 30) (hle : le < nl) (hlle : l < le) (hn : nl ≤ 60) (hw : F l = nI 21) (hf : F (60 + l) = nI num) (hn1 : 1 ≤ num) (hnum : num ≤ 99) (hk : G (134 + 9 * s) = nI 7) (hg : G (135 + 9 * s) = nI num) (hm : G (142 + 9 * s) = nI m) (hp1 : F (180 + l) = nI le) (he : F le = nI 22) (hp2 : F (180 + le) = nI l) (body : ∀ σ' υ' done' turn', SI d n nk nu lo F G nl σ' υ' done' → turn' ≤ 100 * done' → Nrm d n nk nu lo F G nl 0 (l + 1) le done' turn' σ' υ' (YB D (s + 1) m υ') ∨ Ovr d n nk nu lo 0 (l + 1) done' turn' σ' υ' (YB D (s + 1) m υ')) : Nrm d n nk nu lo F G nl 0 l (le + 1) done turn σ υ (fun υ' => X12_doOne (X12_doAll D) υ (nI s) = some υ') ∨ Ovr d n nk nu lo 0 l done turn σ υ (fun υ' => X12_doOne (X12_doAll D) υ (nI s) = some υ') := by
  have hh := h
  obtain ⟨hJ, hF, hG, h8, h44, h43, h49, h300⟩ := h
  have hE0 : Eqo (fun k m j => k = 11 ∧ m = 0 ∧ (j = 43 ∨ j = 44 ∨ j = 49)) υ (wI υ 11 0 44 (nI (done + 1))) := Eqo.wI (by omega)
  have hE1 : Eqo (fun k m _ => k = 13 ∧ m = 30) σ (wI σ 13 30 l (nI num)) := Eqo.wI (by omega)
  have hJ0 : JE d n nk nu lo (wI σ 13 30 l (nI num)) (wI υ 11 0 44 (nI (done + 1))) := hJ.keep hE1 hE0 (fun _ _ _ q => q) (fun _ _ _ q => q) hd
  have e44 : (wI υ 11 0 44 (nI (done + 1))).1 11 0 44 = nI (done + 1) := wI_eq _ _ _ _ _
  have e43 : (wI υ 11 0 44 (nI (done + 1))).1 11 0 43 = 0 := by rw [wI_ne _ _ (by omega)]; exact h43
  have e49 : (wI υ 11 0 44 (nI (done + 1))).1 11 0 49 = 0 := by rw [wI_ne _ _ (by omega)]; exact h49
  have eX : Eqo LXt υ (wI υ 11 0 44 (nI (done + 1))) := LXt4 υ (.inr (.inl rfl))
  have eL : Eqo (LCt d) σ (wI σ 13 30 l (nI num)) := LCt0 σ
  have e1 := doOne_eq (rc := X12_doAll D) hs hG h44 hdone hk
  have hS0 : SI d n nk nu lo F G nl (wI σ 13 30 l (nI num)) (wI υ 11 0 44 (nI (done + 1))) (done + 1) := hh.go hd hJ0 eL eX e44 e43 e49 (by omega)
  have hr0 : (wI σ 13 30 l (nI num)).1 13 30 l = nI num := wI_eq _ _ _ _ _
  have hl0 : ∀ j, j ≠ l → (wI σ 13 30 l (nI num)).1 13 30 j = σ.1 13 30 j := fun j hj => wI_ne _ _ (by omega)
  have hc : X2_run_l42b d (nI done, nI l, nI turn, σ) = some (Sum.inl (nI (done + 1), nI (l + 1), nI (turn + 1), wI σ 13 30 l (nI num))) := by
    rw [cl_eq hd hh hT (by omega) hn hw, if_neg (show ¬ nI 21 = 22 by decide), if_neg (show ¬ nI done = 300 from (fun z => by
      have := (nI_eq (a := done) (b := 300) (by omega) (by decide)).mp z
      omega)), if_neg (show ¬ nI 21 = 23 by decide)]
    unfold X2_behindStep X2_behindStep_j0 X2_behindStep_j212
    rw [lword_at σ hd (by omega), Option.bind_some, lnum_at σ hd (by omega), Option.bind_some, hF, hF, hw, hf, if_neg (by decide), if_neg (by decide), if_neg (by decide), if_pos (by decide), turn_put σ (by omega), Option.bind_some, Option.bind_some, nI_1]
  rw [if_pos (by decide), if_neg (by decide)] at e1
  unfold X12_doOne_j111 X12_doOne_l120 X12_doOne_j162 at e1
  rw [if_pos (show nI 7 = 7 from rfl)] at e1
  generalize wI υ 11 0 44 (nI (done + 1)) = υ0 at *
  generalize wI σ 13 30 l (nI num) = σ0 at *
  obtain ⟨r, rfl⟩ : ∃ r, num = r + 1 := ⟨num - 1, by omega⟩
  rcases turns_ok hd hs hm30 hle hlle hn hnum hw hg hm he hp2 body r 0 σ0 υ0 (done + 1) (turn + 1) (by omega) hS0 (by omega) hr0 with ⟨σ2, υ2, done2, m2, g1, g2, g3, g4, g5, g6, g7, g8⟩ | ⟨σ2, υ2, e, done2, M, g1, g2, g3, g4, g5, g6, g6', g7, g8, g9⟩
  · left
    have g2' : iter (X12_doOne_l120b (X12_doAll D) (nI s) (nI (134 + 9 * s))) NF (0, υ0) = some υ2 := g2 NF (by unfold NF; omega)
    refine ⟨σ2, υ2, done2, 1 + m2, fun R => ?_, ?_, g3, by omega, by omega, eL.tr g6, fun j hj => ?_, eX.tr g8⟩
    · rw [show R + (1 + m2) = (R + m2) + 1 by omega, it_l hc, g1, show turn + (1 + m2) = turn + 1 + m2 by omega]
    · show X12_doOne (X12_doAll D) υ (nI s) = _
      rw [e1, g2', Option.bind_some]
    · rw [g7 j hj, hl0 j (by omega)]
  · right
    have g3' : iter (X12_doOne_l120b (X12_doAll D) (nI s) (nI (134 + 9 * s))) NF (0, υ0) = some υ2 := g3 NF (by unfold NF; omega)
    refine ⟨σ2, υ2, e, done2, 1 + M, by omega, fun R hR => ?_, ?_, g4, g5, g6, g6', g7, eL.tr g8, eX.tr g9⟩
    · obtain ⟨R, rfl⟩ := Nat.exists_eq_succ_of_ne_zero (by omega : R ≠ 0)
      rw [it_l hc]
      exact g2 R (by omega)
    · show X12_doOne (X12_doAll D) υ (nI s) = _
      rw [e1, g3', Option.bind_some]
theorem sim (hd : d < 5) (hn : nl ≤ 60) : ∀ K q s t l lt, Bk n F G K q s t l lt → t ≤ 30 → lt ≤ nl → ∀ σ υ done turn, SI d n nk nu lo F G nl σ υ done → turn ≤ 100 * done → Nrm d n nk nu lo F G nl 0 l lt done turn σ υ (YB (X12_doOne (X12_doAllN (q + 1))) s t υ) ∨ Ovr d n nk nu lo 0 l done turn σ υ (YB (X12_doOne (X12_doAllN (q + 1))) s t υ) := by
  have hnil : ∀ q s t l lt, (s = t ∧ l = lt) → t ≤ 30 → ∀ σ υ done turn, SI d n nk nu lo F G nl σ υ done → Nrm d n nk nu lo F G nl 0 l lt done turn σ υ (YB (X12_doOne (X12_doAllN (q + 1))) s t υ) := fun q s t l lt hz ht σ υ done turn h => by
    obtain ⟨z1, z2⟩ := hz
    subst z1
    subst z2
    refine ⟨σ, υ, done, 0, fun R => rfl, fun R hR => ?_, h, Nat.le_refl _, by omega, Eqo.rf _ _, fun _ _ => rfl, Eqo.rf _ _⟩
    obtain ⟨R, rfl⟩ := Nat.exists_eq_succ_of_ne_zero (by omega : R ≠ 0)
    refine it_r ?_ R
    show X12_doAll_l2c _ υ (nI s) (nI s) = _
    unfold X12_doAll_l2c
    rw [if_pos (nI_le (Nat.le_refl _) (by omega))]
  intro K
  induction K with
  | zero => exact fun q s t l lt hb ht hlt σ υ done turn h hT => .inl (hnil q s t l lt hb ht σ υ done turn h)
  | succ K ih =>
    intro q s t l lt hb ht hlt σ υ done turn h hT
    have h300 := h.2.2.2.2.2.2.2
    rcases hb with hz | ⟨w, k, hp, hw, hk, hm, hst, hll, hrest⟩ | ⟨hw, hk, hm, hst, hll, hrest⟩ | ⟨q', m, le, w, k, hq, hp, hw, hk, hk6, hm, hp1, he, hp2, hsm, hmt, hlle, hlelt, hbody, hrest⟩ | ⟨q', m, le, num, hq, hn1, hnum, hw, hf, hk, hg, hm, hp1, he, hp2, hsm, hmt, hlle, hlelt, hbody, hrest⟩
    · exact .inl (hnil q s t l lt hz ht σ υ done turn h)
    · refine cons_ok (lm := l + 1) h hT ht (Nat.lt_succ_self s) hst (Nat.le_succ l) hll hm ?_ (ih q (s + 1) t (l + 1) lt hrest ht hlt)
      have hw22 : w ≠ 22 ∧ w < 1000 := by
        rcases hp with ⟨z1, -⟩ | ⟨z1, -⟩ | ⟨-, -, -, -, z⟩ <;> omega
      by_cases z : done = 300
      · subst z
        exact .inr (one_full hd h hT (by omega) hn hw hw22.1 hw22.2)
      · exact .inl (one_plain hd h (by omega) hT (by omega) (by omega) hn hw hk hp)
    · refine cons_ok (lm := l + 1) h hT ht (Nat.lt_succ_self s) hst (Nat.le_succ l) hll hm ?_ (ih q (s + 1) t (l + 1) lt hrest ht hlt)
      by_cases z : done = 300
      · subst z
        exact .inr (one_full hd h hT (by omega) hn hw (by decide) (by decide))
      · exact .inr (one_stop hd h (by omega) hT (by omega) (by omega) hn hw hk)
    · subst hq
      refine cons_ok (lm := le + 1) h hT ht (by omega) hmt (by omega) hlelt hm ?_ (ih (q' + 1) m t (le + 1) lt hrest ht hlt)
      have hw22 : w ≠ 22 ∧ w < 1000 := by
        rcases hp with ⟨z1, -⟩ | ⟨⟨z1, -⟩ | ⟨z1, -⟩, -⟩ <;> omega
      by_cases z : done = 300
      · subst z
        exact .inr (one_full hd h hT (by omega) hn hw hw22.1 hw22.2)
      · exact one_when (D := X12_doOne (X12_doAllN (q' + 1))) hd h (by omega) hT (by omega) (by omega) (by omega) (by omega) hn hw hk hk6 hm hp1 he hp2 hp (ih q' (s + 1) m (l + 1) le hbody (by omega) (by omega))
    · subst hq
      refine cons_ok (lm := le + 1) h hT ht (by omega) hmt (by omega) hlelt hm ?_ (ih (q' + 1) m t (le + 1) lt hrest ht hlt)
      by_cases z : done = 300
      · subst z
        exact .inr (one_full hd h hT (by omega) hn hw (by decide) (by decide))
      · exact one_loop (D := X12_doOne (X12_doAllN (q' + 1))) hd h (by omega) hT (by omega) (by omega) (by omega) (by omega) hn hw hf hn1 hnum hk hg hm hp1 he hp2 (ih q' (s + 1) m (l + 1) le hbody (by omega) (by omega))
end S4
