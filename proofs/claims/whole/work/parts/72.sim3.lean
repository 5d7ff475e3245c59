/-! ===== LIFE: WHEN and LOOP ===== -/
section S3
variable {σ υ : SS} {d n nk nl : Nat} {nu : Nat → Nat → Nat} {lo : Nat → Nat} {F G : Nat → Int32}
theorem hold_eq (hd : d < 5) {l w : Nat} (hF : ∀ j, σ.1 13 (4 * d) j = F j) (hl : l < 60) (hw : F l = nI w) (hz : w = 19 ∨ w = 7 ∨ w = 20) : X2_behindStep σ d (nI l) = X2_behindStep_j40 σ d (nI l) := by
  unfold X2_behindStep X2_behindStep_j0
  rw [lword_at σ hd hl, Option.bind_some, lnum_at σ hd hl, Option.bind_some, hF, hw]
  rcases hz with z | z | z
  · subst z
    rw [if_pos (by decide)]
  · subst z
    rw [if_neg (by decide), if_pos (by decide)]
  · subst z
    rw [if_neg (by decide), if_neg (by decide), if_pos (by decide)]
theorem one_when (hd : d < 5) {D : SS → Int32 → Option SS} {s m l le done turn w k : Nat} (h : SI d n nk nu lo F G nl σ υ done) (hdone : done < 300) (hT : turn ≤ 100 * done) (hs : s < 30) (hm30 : m ≤ 30) (hle : le < nl) (hlle : l < le) (hn : nl ≤ 60) (hw : F l = nI w) (hk : G (134 + 9 * s) = nI 6) (hk6 : G (140 + 9 * s) = nI k) (hm : G (142 + 9 * s) = nI m) (hp1 : F (180 + l) = nI le) (he : F le = nI 22) (hp2 : F (180 + le) = nI l) (hp : TsC n w k (F (60 + l)) (F (120 + l)) (G (135 + 9 * s)) (G (136 + 9 * s)) (G (141 + 9 * s))) (body : ∀ σ' υ' done' turn', SI d n nk nu lo F G nl σ' υ' done' → turn' ≤ 100 * done' → Nrm d n nk nu lo F G nl 0 (l + 1) le done' turn' σ' υ' (YB D (s + 1) m υ') ∨ Ovr d n nk nu lo 0 (l + 1) done' turn' σ' υ' (YB D (s + 1) m υ')) : Nrm d n nk nu lo F G nl 0 l (le + 1) done turn σ υ (fun υ' => X12_doOne (X12_doAll D) υ (nI s) = some υ') ∨ Ovr d n nk nu lo 0 l done turn σ υ (fun υ' => X12_doOne (X12_doAll D) υ (nI s) = some υ') := by
  have hh := h
  obtain ⟨hJ, hF, hG, h8, h44, h43, h49, h300⟩ := h
  have hE0 : Eqo (fun k m j => k = 11 ∧ m = 0 ∧ (j = 43 ∨ j = 44 ∨ j = 49)) υ (wI υ 11 0 44 (nI (done + 1))) := Eqo.wI (by omega)
  have hJ0 : JE d n nk nu lo σ (wI υ 11 0 44 (nI (done + 1))) := hJ.keep (P := fun _ _ _ => False) (Eqo.rf _ _) hE0 (fun _ _ _ q => q.elim) (fun _ _ _ q => q) hd
  have hG0 : ∀ j, 132 ≤ j → (wI υ 11 0 44 (nI (done + 1))).1 13 34 j = G j := fun j hj => by
    rw [wI_ne _ _ (by omega)]
    exact hG j hj
  have e44 : (wI υ 11 0 44 (nI (done + 1))).1 11 0 44 = nI (done + 1) := wI_eq _ _ _ _ _
  have e43 : (wI υ 11 0 44 (nI (done + 1))).1 11 0 43 = 0 := by rw [wI_ne _ _ (by omega)]; exact h43
  have e49 : (wI υ 11 0 44 (nI (done + 1))).1 11 0 49 = 0 := by rw [wI_ne _ _ (by omega)]; exact h49
  have eX : Eqo LXt υ (wI υ 11 0 44 (nI (done + 1))) := LXt4 υ (.inr (.inl rfl))
  have e1 := doOne_eq (rc := X12_doAll D) hs hG h44 hdone hk
  obtain ⟨v, hv, a1, a2⟩ := test_ok hd hJ0 hF hG0 hs (by omega : l < 60) hw hk6 hp
  generalize wI υ 11 0 44 (nI (done + 1)) = υ0 at *
  have hS0 : SI d n nk nu lo F G nl σ υ0 (done + 1) := hh.go hd hJ0 (Eqo.rf _ _) eX e44 e43 e49 (by omega)
  have hwz : w = 19 ∨ w = 7 ∨ w = 20 := by
    rcases hp with ⟨z1, -⟩ | ⟨⟨z1, -⟩ | ⟨z1, -⟩, -⟩ <;> omega
  have hw22 : w ≠ 22 := by omega
  have hw23 : w ≠ 23 := by omega
  have hw1 : w < 1000 := by omega
  have hh1 := hold_eq hd hF (by omega : l < 60) hw hwz
  have hcl : ∀ x y, X2_behindStep_j40 σ d (nI l) = some (nI x, y) → X2_run_l42b d (nI done, nI l, nI turn, σ) = some (Sum.inl (nI (done + 1), nI x, nI (turn + 1), y)) := fun x y hx => by
    rw [cl_eq hd hh hT (by omega) hn hw, if_neg (show ¬ nI w = 22 from wne hw22 hw1 (by decide)), if_neg (show ¬ nI done = 300 from (fun z => by
      have := (nI_eq (a := done) (b := 300) (by omega) (by decide)).mp z
      omega)), if_neg (show ¬ nI w = 23 from wne hw23 hw1 (by decide)), hh1, hx, Option.bind_some]
  rw [if_pos (show (6 : Int32) ≤ nI 6 by decide), if_pos (show nI 6 = 6 from rfl), a2, Option.bind_some] at e1
  rcases hv with z | z
  · -- not so
    subst z
    left
    rw [if_pos rfl] at e1
    unfold X12_doOne_j111 at e1
    rw [if_neg (by decide), if_pos (by decide)] at e1
    have hj : X2_behindStep_j40 σ d (nI l) = some (nI (le + 1), σ) := by
      unfold X2_behindStep_j40
      rw [a1, Option.bind_some, if_pos rfl, lpart_at σ hd (by omega), Option.bind_some, hF, hp1, nI_1]
    refine ⟨σ, υ0, done + 1, 1, fun R => ?_, e1, hS0, by omega, by omega, Eqo.rf _ _, fun j _ => rfl, eX⟩
    exact it_l (hcl _ _ hj) R
  · subst z
    rw [if_neg (by decide), hm] at e1
    have hj : X2_behindStep_j40 σ d (nI l) = some (nI (l + 1), σ) := by
      unfold X2_behindStep_j40
      rw [a1, Option.bind_some, if_neg (by decide), nI_1]
    have hc := hcl _ _ hj
    rcases body σ υ0 (done + 1) (turn + 1) hS0 (by omega) with ⟨σ1, υ1, done1, m1, b1, b2, b3, b4, b5, b6, b7, b8⟩ | ⟨σ1, υ1, e, done1, M, b1, b2, b3, b4, b5, b6, b6', b7, b8, b9⟩
    · left
      have hend := end_when hd b3 (by omega : turn + 1 + m1 ≤ 100 * done1) hle hlle hn hw (by omega) (by omega) he hp2
      refine ⟨σ1, υ1, done1, 1 + m1 + 1, fun R => ?_, ?_, b3, by omega, by omega, b6, fun j hj => b7 j (by omega), eX.tr b8⟩
      · rw [show R + (1 + m1 + 1) = (R + 1 + m1) + 1 by omega, it_l hc, b1, it_l hend, show turn + (1 + m1 + 1) = turn + 1 + m1 + 1 by omega]
      · show X12_doOne (X12_doAll D) υ (nI s) = _
        rw [e1, YB_rc hm30 b2, Option.bind_some]
    · right
      refine ⟨σ1, υ1, e, done1, 1 + M, by omega, fun R hR => ?_, ?_, b4, b5, b6, b6', b7, b8, eX.tr b9⟩
      · obtain ⟨R, rfl⟩ := Nat.exists_eq_succ_of_ne_zero (by omega : R ≠ 0)
        rw [it_l hc]
        exact b2 R (by omega)
      · show X12_doOne (X12_doAll D) υ (nI s) = _
        rw [e1, YB_rc hm30 b3, Option.bind_some]
/-- the turns of a LOOP that are left -/
theorem turns_ok (hd : d < 5) {D : SS → Int32 → Option SS} {s m l le num : Nat} (hs : s < 30) (hm30 : m ≤ 30) (hle : le < nl) (hlle : l < le) (hn : nl ≤ 60) (hnum : num ≤ 99) (hw : F l = nI 21) (hg : G (135 + 9 * s) = nI num) (hm : G (142 + 9 * s) = nI m) (he : F le = nI 22) (hp2 : F (180 + le) = nI l) (body : ∀ σ' υ' done' turn', SI d n nk nu lo F G nl σ' υ' done' → turn' ≤ 100 * done' → Nrm d n nk nu lo F G nl 0 (l + 1) le done' turn' σ' υ' (YB D (s + 1) m υ') ∨ Ovr d n nk nu lo 0 (l + 1) done' turn' σ' υ' (YB D (s + 1) m υ')) : ∀ r k σ υ done turn, r + 1 + k = num → SI d n nk nu lo F G nl σ υ done → turn + (r + 1) ≤ 100 * done → σ.1 13 30 l = nI (r + 1) → (∃ σ' υ' done' m1, (∀ R, iter (X2_run_l42b d) (R + m1) (nI done, nI (l + 1), nI turn, σ) = iter (X2_run_l42b d) R (nI done', nI (le + 1), nI (turn + m1), σ')) ∧ (∀ R, r + 1 < R → iter (X12_doOne_l120b (X12_doAll D) (nI s) (nI (134 + 9 * s))) R (nI k, υ) = some υ') ∧ SI d n nk nu lo F G nl σ' υ' done' ∧ done ≤ done' ∧ m1 ≤ 100 * (done' - done) + (r + 1) ∧ Eqo (LCt d) σ σ' ∧ (∀ j, (j < l ∨ le + 1 ≤ j) → σ'.1 13 30 j = σ.1 13 30 j) ∧ Eqo LXt υ υ') ∨ Ovr d n nk nu lo (r + 1) (l + 1) done turn σ υ (fun υ' => ∀ R, r + 1 < R → iter (X12_doOne_l120b (X12_doAll D) (nI s) (nI (134 + 9 * s))) R (nI k, υ) = some υ') := by
  have c1 : ck (LN 13 34) (nI (134 + 9 * s) + 1) = some (135 + 9 * s) := by
    rw [nI_1, ckc (by omega), show 134 + 9 * s + 1 = 135 + 9 * s by omega]
  have c8 : ck (LN 13 34) (nI (134 + 9 * s) + 8) = some (142 + 9 * s) := by
    rw [show (8 : Int32) = nI 8 from rfl, nI_add, ckc (by omega), show 134 + 9 * s + 8 = 142 + 9 * s by omega]
  have hturn : ∀ {k υ υ' done σ}, k < num → SI d n nk nu lo F G nl σ υ done → YB D (s + 1) m υ υ' → X12_doOne_l120b (X12_doAll D) (nI s) (nI (134 + 9 * s)) (nI k, υ) = some (Sum.inl (nI (k + 1), υ')) := fun {k υ υ' done σ} hk hS hY => by
    obtain ⟨hJ, hF, hG, h8, h44, h43, h49, h300⟩ := hS
    show X12_doOne_l120c (X12_doAll D) υ (nI s) (nI (134 + 9 * s)) (nI k) = _
    unfold X12_doOne_l120c
    rw [c1, Option.bind_some, hG _ (by omega), hg, if_neg (nI_ge hk (by omega)), if_pos h43, c8, Option.bind_some, hG _ (by omega), hm, nI_1, YB_rc hm30 hY, Option.bind_some, nI_1, Option.bind_some]
  have hstop : ∀ {k υ'} , (num ≤ k ∨ υ'.1 11 0 43 = 1) → k ≤ num → υ'.1 13 34 (135 + 9 * s) = nI num → X12_doOne_l120b (X12_doAll D) (nI s) (nI (134 + 9 * s)) (nI k, υ') = some (Sum.inr υ') := fun {k υ'} hk hkn hG => by
    show X12_doOne_l120c (X12_doAll D) υ' (nI s) (nI (134 + 9 * s)) (nI k) = _
    unfold X12_doOne_l120c
    rw [c1, Option.bind_some, hG]
    by_cases z : num ≤ k
    · rw [if_pos (nI_le z (by omega))]
    · rw [if_neg (nI_ge (by omega) (by omega)), hk.resolve_left z, if_neg (show ¬ (1 : Int32) = 0 by decide)]
  intro r
  induction r with
  | zero =>
    intro k σ υ done turn hk hS hT hr
    rcases body σ υ done turn hS (by omega) with ⟨σ1, υ1, done1, m1, b1, b2, b3, b4, b5, b6, b7, b8⟩ | ⟨σ1, υ1, e, done1, M, b1, b2, b3, b4, b5, b6, b6', b7, b8, b9⟩
    · left
      have hend := end_loop hd b3 (by omega : turn + m1 ≤ 100 * done1) hle hlle hn hw he hp2 (r := 0) (by rw [b7 l (by omega)]; exact hr) (by decide)
      rw [if_pos rfl] at hend
      refine ⟨σ1, υ1, done1, m1 + 1, fun R => ?_, fun R hR => ?_, b3, b4, by omega, b6, fun j hj => b7 j (by omega), b8⟩
      · rw [show R + (m1 + 1) = (R + 1) + m1 by omega, b1, it_l hend, Nat.add_assoc turn]
      · obtain ⟨R, rfl⟩ := Nat.exists_eq_succ_of_ne_zero (by omega : R ≠ 0)
        obtain ⟨R, rfl⟩ := Nat.exists_eq_succ_of_ne_zero (by omega : R ≠ 0)
        rw [it_l (hturn (by omega) hS b2)]
        exact it_r (hstop (.inl (by omega)) (by omega) ((b3.2.2.1 _ (by omega)).trans hg)) _
    · right
      refine ⟨σ1, υ1, e, done1, M, by omega, b2, fun R hR => ?_, b4, b5, b6, b6', b7, b8, b9⟩
      obtain ⟨R, rfl⟩ := Nat.exists_eq_succ_of_ne_zero (by omega : R ≠ 0)
      obtain ⟨R, rfl⟩ := Nat.exists_eq_succ_of_ne_zero (by omega : R ≠ 0)
      rw [it_l (hturn (by omega) hS b3)]
      exact it_r (hstop (.inr b5) (by omega) ((LXt_G b9 _ (by omega)).trans ((hS.2.2.1 _ (by omega)).trans hg))) _
  | succ r ih =>
    intro k σ υ done turn hk hS hT hr
    rcases body σ υ done turn hS (by omega) with ⟨σ1, υ1, done1, m1, b1, b2, b3, b4, b5, b6, b7, b8⟩ | ⟨σ1, υ1, e, done1, M, b1, b2, b3, b4, b5, b6, b6', b7, b8, b9⟩
    · have hend := end_loop hd b3 (by omega : turn + m1 ≤ 100 * done1) hle hlle hn hw he hp2 (r := r + 1) (by rw [b7 l (by omega)]; exact hr) (by omega)
      rw [if_neg (by omega)] at hend
      have hE3 : Eqo (LCt d) σ1 (wI σ1 13 30 l (nI (r + 1))) := LCt0 _
      have hJ3 : JE d n nk nu lo (wI σ1 13 30 l (nI (r + 1))) υ1 := b3.1.keep (P := fun k m _ => k = 13 ∧ m = 30) (Q := fun _ _ _ => False) (Eqo.wI ⟨rfl, rfl⟩) (Eqo.rf _ _) (fun _ _ _ q => q) (fun _ _ _ q => q.elim) hd
      have hS3 : SI d n nk nu lo F G nl (wI σ1 13 30 l (nI (r + 1))) υ1 done1 := b3.go hd hJ3 hE3 (Eqo.rf _ _) b3.2.2.2.2.1 b3.2.2.2.2.2.1 b3.2.2.2.2.2.2.1 b3.2.2.2.2.2.2.2
      have h31 := b3.2.2.2.2.2.2.2
      have hl3 : ∀ j, (j < l ∨ le + 1 ≤ j) → (wI σ1 13 30 l (nI (r + 1))).1 13 30 j = σ1.1 13 30 j := fun j hj => wI_ne _ _ (by omega)
      have hxst : ∀ υ2, (∀ R, r + 1 < R → iter (X12_doOne_l120b (X12_doAll D) (nI s) (nI (134 + 9 * s))) R (nI (k + 1), υ1) = some υ2) → ∀ R, r + 1 + 1 < R → iter (X12_doOne_l120b (X12_doAll D) (nI s) (nI (134 + 9 * s))) R (nI k, υ) = some υ2 := fun υ2 hY R hR => by
        obtain ⟨R, rfl⟩ := Nat.exists_eq_succ_of_ne_zero (by omega : R ≠ 0)
        rw [it_l (hturn (by omega) hS b2)]
        exact hY R (by omega)
      rcases ih (k + 1) _ υ1 done1 (turn + m1 + 1) (by omega) hS3 (by omega) (wI_eq _ _ _ _ _) with ⟨σ2, υ2, done2, m2, g1, g2, g3, g4, g5, g6, g7, g8⟩ | ⟨σ2, υ2, e, done2, M, g1, g2, g3, g4, g5, g6, g6', g7, g8, g9⟩
      · left
        refine ⟨σ2, υ2, done2, m1 + 1 + m2, fun R => ?_, hxst υ2 g2, g3, by omega, by omega, (b6.tr hE3).tr g6, fun j hj => ?_, b8.tr g8⟩
        · rw [show R + (m1 + 1 + m2) = (R + m2 + 1) + m1 by omega, b1, it_l hend, g1, show turn + (m1 + 1 + m2) = turn + m1 + 1 + m2 by omega]
        · rw [g7 j hj, hl3 j hj, b7 j (by omega)]
      · right
        refine ⟨σ2, υ2, e, done2, m1 + 1 + M, by omega, fun R hR => ?_, hxst υ2 g3, g4, g5, g6, g6', g7, (b6.tr hE3).tr g8, b8.tr g9⟩
        obtain ⟨R, rfl⟩ : ∃ R', R = (R' + 1) + m1 := ⟨R - m1 - 1, by omega⟩
        rw [b1, it_l hend]
        exact g2 R (by omega)
    · right
      refine ⟨σ1, υ1, e, done1, M, by omega, b2, fun R hR => ?_, b4, b5, b6, b6', b7, b8, b9⟩
      obtain ⟨R, rfl⟩ := Nat.exists_eq_succ_of_ne_zero (by omega : R ≠ 0)
      obtain ⟨R, rfl⟩ := Nat.exists_eq_succ_of_ne_zero (by omega : R ≠ 0)
      rw [it_l (hturn (by omega) hS b3)]
      exact it_r (hstop (.inr b5) (by omega) ((LXt_G b9 _ (by omega)).trans ((hS.2.2.1 _ (by omega)).trans hg))) _
end S3
