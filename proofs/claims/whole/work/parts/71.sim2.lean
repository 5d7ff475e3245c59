/-! ===== LIFE: each kind of STEP ===== -/
section S2
variable {σ υ : SS} {d n nk nl : Nat} {nu : Nat → Nat → Nat} {lo : Nat → Nat} {F G : Nat → Int32}
theorem LCt0 (σ : SS) {x : Int32} {l : Nat} : Eqo (LCt d) σ (wI σ 13 30 l x) := Eqo.wI (.inr ⟨rfl, rfl⟩)
theorem LXt4 (υ : SS) {x : Int32} {j : Nat} (hj : j = 43 ∨ j = 44 ∨ j = 49) : Eqo LXt υ (wI υ 11 0 j x) := Eqo.wI (.inr ⟨rfl, rfl, hj⟩)
theorem one_full (hd : d < 5) {rc : SS → Int32 → Int32 → Option SS} {s l turn w : Nat} (h : SI d n nk nu lo F G nl σ υ 300) (hT : turn ≤ 30000) (hl : l < nl) (hn : nl ≤ 60) (hw : F l = nI w) (hw22 : w ≠ 22) (hw1 : w < 1000) : Ovr d n nk nu lo 0 l 300 turn σ υ (fun υ' => X12_doOne rc υ (nI s) = some υ') := by
  obtain ⟨hJ, hF, hG, h8, h44, h43, h49, h300⟩ := h
  refine ⟨σ, wI (wI υ 11 0 43 1) 11 0 49 1, _, 300, 1, by omega, fun R hR => ?_, ?_, hJ.keep (P := fun _ _ _ => False) (Q := fun k m j => k = 11 ∧ m = 0 ∧ (j = 43 ∨ j = 44 ∨ j = 49)) (Eqo.rf _ _) (Eqo.tr (Eqo.wI (by omega)) (Eqo.wI (by omega))) (fun _ _ _ q => q.elim) (fun _ _ _ q => q) hd, ?_, ?_, Nat.le_refl _, .inl ⟨rfl, wI_eq _ _ _ _ _⟩, Eqo.rf _ _, (LXt4 υ (.inl rfl)).tr (LXt4 _ (.inr (.inr rfl)))⟩
  · obtain ⟨R, rfl⟩ := Nat.exists_eq_succ_of_ne_zero (by omega : R ≠ 0)
    refine it_r ?_ R
    rw [cl_eq hd ⟨hJ, hF, hG, h8, h44, h43, h49, h300⟩ (by omega) hl hn hw, if_neg (show ¬ nI w = 22 from wne hw22 hw1 (by decide)), if_pos (show nI 300 = 300 from rfl)]
  · show X12_doOne rc υ (nI s) = _
    unfold X12_doOne X12_doOne_j0
    rw [h44, if_pos (show nI 300 = 300 from rfl), Option.bind_some, Option.bind_some]
  · rw [wI_ne _ _ (by omega), wI_eq]
  · rw [wI_ne _ _ (by omega), wI_ne _ _ (by omega)]
    exact h44
/-- the reference's STEP begins -/
theorem doOne_eq {rc : SS → Int32 → Int32 → Option SS} {s done k : Nat} (hs : s < 30) (hG : ∀ j, 132 ≤ j → υ.1 13 34 j = G j) (h44 : υ.1 11 0 44 = nI done) (hdone : done < 300) (hk : G (134 + 9 * s) = nI k) : X12_doOne rc υ (nI s) = if 6 ≤ nI k then (if nI k = 6 then ((X12_isSo (wI υ 11 0 44 (nI (done + 1))) (nI (134 + 9 * s))).bind fun v86 => if v86 = 0 then X12_doOne_j111 rc (wI υ 11 0 44 (nI (done + 1))) (nI s) (nI (134 + 9 * s)) (nI k) else (rc (wI υ 11 0 44 (nI (done + 1))) (nI (s + 1)) (G (142 + 9 * s))).bind fun σ105 => some σ105) else X12_doOne_j111 rc (wI υ 11 0 44 (nI (done + 1))) (nI s) (nI (134 + 9 * s)) (nI k)) else ((X12_does (wI υ 11 0 44 (nI (done + 1))) (nI (134 + 9 * s))).bind fun p60 => X12_doOne_j71 rc p60.2 ((wI υ 11 0 44 (nI (done + 1))).1 11 0 45) (if p60.1 = 0 then 1 else 0)) := by
  have e9 : 134 + (9 * nI s) = nI (134 + 9 * s) := by
    show nI 134 + nI 9 * nI s = _
    rw [pk_mul, nI_add]
  have hG1 : ∀ j, 132 ≤ j → (wI υ 11 0 44 (nI (done + 1))).1 13 34 j = G j := fun j hj => by
    rw [wI_ne _ _ (by omega)]
    exact hG j hj
  have c8 : ck (LN 13 34) (nI (134 + 9 * s) + 8) = some (142 + 9 * s) := by
    rw [show (8 : Int32) = nI 8 from rfl, nI_add, ckc (by omega), show 134 + 9 * s + 8 = 142 + 9 * s by omega]
  unfold X12_doOne X12_doOne_j0
  rw [h44, if_neg (show ¬ nI done = 300 from (fun z => by
    have := (nI_eq (a := done) (b := 300) (by omega) (by decide)).mp z
    omega)), nI_1, Option.bind_some, e9, Option.bind_some, ckc (by omega), Option.bind_some, hG1 _ (by omega), hk, Option.bind_some, nI_1]
  simp only [c8, Option.bind_some, hG1 (142 + 9 * s) (by omega)]
theorem one_plain (hd : d < 5) {rc : SS → Int32 → Int32 → Option SS} {s l done turn w k : Nat} (h : SI d n nk nu lo F G nl σ υ done) (hdone : done < 300) (hT : turn ≤ 100 * done) (hs : s < 30) (hl : l < nl) (hn : nl ≤ 60) (hw : F l = nI w) (hk : G (134 + 9 * s) = nI k) (hp : PlC n w k (F (60 + l)) (G (135 + 9 * s))) : Nrm d n nk nu lo F G nl 0 l (l + 1) done turn σ υ (fun υ' => X12_doOne rc υ (nI s) = some υ') := by
  have hh := h
  obtain ⟨hJ, hF, hG, h8, h44, h43, h49, h300⟩ := h
  have hE0 : Eqo (fun k m j => k = 11 ∧ m = 0 ∧ (j = 43 ∨ j = 44 ∨ j = 49)) υ (wI υ 11 0 44 (nI (done + 1))) := Eqo.wI (by omega)
  have hJ0 : JE d n nk nu lo σ (wI υ 11 0 44 (nI (done + 1))) := hJ.keep (P := fun _ _ _ => False) (Eqo.rf _ _) hE0 (fun _ _ _ q => q.elim) (fun _ _ _ q => q) hd
  have hG0 : ∀ j, 132 ≤ j → (wI υ 11 0 44 (nI (done + 1))).1 13 34 j = G j := fun j hj => by
    rw [wI_ne _ _ (by omega)]
    exact hG j hj
  have e44 : (wI υ 11 0 44 (nI (done + 1))).1 11 0 44 = nI (done + 1) := wI_eq _ _ _ _ _
  have e43 : (wI υ 11 0 44 (nI (done + 1))).1 11 0 43 = 0 := by rw [wI_ne _ _ (by omega)]; exact h43
  have e49 : (wI υ 11 0 44 (nI (done + 1))).1 11 0 49 = 0 := by rw [wI_ne _ _ (by omega)]; exact h49
  have eX : Eqo LXt υ (wI υ 11 0 44 (nI (done + 1))) := LXt4 υ (.inr (.inl rfl))
  have e1 := doOne_eq (rc := rc) hs hG h44 hdone hk
  obtain ⟨r, σ', υ', a1, a2, a3, a4, a5⟩ := plain_ok hd hJ0 hF hG0 hs (by omega : l < 60) hw hk hp
  generalize wI υ 11 0 44 (nI (done + 1)) = υ0 at *
  have hkw : k < 6 ∧ w < 1000 ∧ w ≠ 22 ∧ w ≠ 23 := by
    rcases hp with ⟨z1, z2, -⟩ | ⟨z1, z2⟩ | ⟨-, -, -, -, z⟩ <;> omega
  obtain ⟨hk6, hw1, hw22, hw23⟩ := hkw
  have aX : Eqo LXt υ0 (wI υ' 11 0 45 (υ0.1 11 0 45 + (if r = 0 then 1 else 0))) := a5.mono (fun _ _ _ q => .inl q)
  have f4 : ∀ j, (j = 43 ∨ j = 44 ∨ j = 49) → (wI υ' 11 0 45 (υ0.1 11 0 45 + (if r = 0 then 1 else 0))).1 11 0 j = υ0.1 11 0 j := fun j hj => a5.at1 (by unfold LXs LX XO XC FX; omega)
  refine ⟨σ', _, done + 1, 1, fun R => ?_, ?_, hh.go hd a3 (a4.mono (fun _ _ _ q => .inl q)) (eX.tr aX) ((f4 44 (by omega)).trans e44) ((f4 43 (by omega)).trans e43) ((f4 49 (by omega)).trans e49) (by omega), by omega, by omega, a4.mono (fun _ _ _ q => .inl q), fun j _ => a4.at1 (by unfold LC VO VC WF WR; omega), eX.tr aX⟩
  · refine it_l ?_ R
    rw [cl_eq hd hh hT hl hn hw, if_neg (show ¬ nI w = 22 from wne hw22 hw1 (by decide)), if_neg (show ¬ nI done = 300 from (fun z => by
      have := (nI_eq (a := done) (b := 300) (by omega) (by decide)).mp z
      omega)), if_neg (show ¬ nI w = 23 from wne hw23 hw1 (by decide)), a1, Option.bind_some]
  · show X12_doOne rc υ (nI s) = _
    rw [e1, if_neg (show ¬ (6 : Int32) ≤ nI k from nI_ge (b := 6) hk6 (by decide)), a2, Option.bind_some]
    unfold X12_doOne_j71
    rw [Option.bind_some]
theorem one_stop (hd : d < 5) {rc : SS → Int32 → Int32 → Option SS} {s l done turn : Nat} (h : SI d n nk nu lo F G nl σ υ done) (hdone : done < 300) (hT : turn ≤ 100 * done) (hs : s < 30) (hl : l < nl) (hn : nl ≤ 60) (hw : F l = nI 23) (hk : G (134 + 9 * s) = nI 8) : Ovr d n nk nu lo 0 l done turn σ υ (fun υ' => X12_doOne rc υ (nI s) = some υ') := by
  have hh := h
  obtain ⟨hJ, hF, hG, h8, h44, h43, h49, h300⟩ := h
  have hE0 : Eqo (fun k m j => k = 11 ∧ m = 0 ∧ (j = 43 ∨ j = 44 ∨ j = 49)) υ (wI (wI υ 11 0 44 (nI (done + 1))) 11 0 43 1) := Eqo.tr (Eqo.wI (by omega)) (Eqo.wI (by omega))
  have hJ0 : JE d n nk nu lo σ (wI (wI υ 11 0 44 (nI (done + 1))) 11 0 43 1) := hJ.keep (P := fun _ _ _ => False) (Eqo.rf _ _) hE0 (fun _ _ _ q => q.elim) (fun _ _ _ q => q) hd
  refine ⟨σ, _, _, done + 1, 1, by omega, fun R hR => ?_, ?_, hJ0, wI_eq _ _ _ _ _, ?_, by omega, .inr ⟨rfl, ?_⟩, Eqo.rf _ _, (LXt4 υ (.inr (.inl rfl))).tr (LXt4 _ (.inl rfl))⟩
  · obtain ⟨R, rfl⟩ := Nat.exists_eq_succ_of_ne_zero (by omega : R ≠ 0)
    refine it_r ?_ R
    rw [cl_eq hd hh hT hl hn hw, if_neg (show ¬ nI 23 = 22 by decide), if_neg (show ¬ nI done = 300 from (fun z => by
      have := (nI_eq (a := done) (b := 300) (by omega) (by decide)).mp z
      omega)), if_pos (show nI 23 = 23 from rfl)]
  · show X12_doOne rc υ (nI s) = _
    rw [doOne_eq (rc := rc) hs hG h44 hdone hk, if_pos (by decide), if_neg (by decide)]
    unfold X12_doOne_j111
    rw [if_neg (by decide), if_neg (by decide), Option.bind_some]
  · rw [wI_ne _ _ (by omega), wI_eq]
  · rw [wI_ne _ _ (by omega), wI_ne _ _ (by omega)]
    exact h49
/-- the reference's inner block -/
theorem YB_rc {D : SS → Int32 → Option SS} {s t : Nat} {υ υ' : SS} (ht : t ≤ 30) (h : YB D s t υ υ') : X12_doAll D υ (nI s) (nI t) = some υ' := by
  unfold X12_doAll X12_doAll_j0 X12_doAll_l2
  rw [h NF (by unfold NF; omega), Option.bind_some]
/-- a line END, behind a WHEN -/
theorem end_when (hd : d < 5) {l le done turn w : Nat} (h : SI d n nk nu lo F G nl σ υ done) (hT : turn ≤ 100 * done) (hle : le < nl) (hl : l < le) (hn : nl ≤ 60) (hw : F l = nI w) (hw21 : w ≠ 21) (hw1 : w < 1000) (he : F le = nI 22) (hpe : F (180 + le) = nI l) : X2_run_l42b d (nI done, nI le, nI turn, σ) = some (Sum.inl (nI done, nI (le + 1), nI (turn + 1), σ)) := by
  have hh := h
  obtain ⟨hJ, hF, hG, h8, h44, h43, h49, h300⟩ := h
  rw [cl_eq hd hh hT hle hn he, if_pos (show nI 22 = 22 from rfl)]
  unfold X2_behindEnd X2_behindEnd_j0 X2_behindEnd_j34
  rw [lpart_at σ hd (by omega), Option.bind_some, hF, hpe, turn_at σ (by omega), Option.bind_some, Option.bind_some, lword_at σ hd (by omega), Option.bind_some, hF, hw, if_neg (show ¬ nI w = 21 from wne hw21 hw1 (by decide)), Option.bind_some, nI_1]
/-- behind a LOOP: r turns were left -/
theorem end_loop (hd : d < 5) {l le done turn r : Nat} (h : SI d n nk nu lo F G nl σ υ done) (hT : turn ≤ 100 * done) (hle : le < nl) (hl : l < le) (hn : nl ≤ 60) (hw : F l = nI 21) (he : F le = nI 22) (hpe : F (180 + le) = nI l) (hr : σ.1 13 30 l = nI (r + 1)) (hr1 : r < 1000) : X2_run_l42b d (nI done, nI le, nI turn, σ) = some (Sum.inl (if r = 0 then (nI done, nI (le + 1), nI (turn + 1), σ) else (nI done, nI (l + 1), nI (turn + 1), wI σ 13 30 l (nI r)))) := by
  have hh := h
  obtain ⟨hJ, hF, hG, h8, h44, h43, h49, h300⟩ := h
  rw [cl_eq hd hh hT hle hn he, if_pos (show nI 22 = 22 from rfl)]
  unfold X2_behindEnd X2_behindEnd_j0 X2_behindEnd_j34
  rw [lpart_at σ hd (by omega), Option.bind_some, hF, hpe, turn_at σ (by omega), Option.bind_some, hr, nI_sub1 (Nat.succ_pos r), show r.succ - 1 = r from rfl, Option.bind_some, lword_at σ hd (by omega), Option.bind_some, hF, hw, if_pos (show nI 21 = 21 from rfl)]
  by_cases z : r = 0
  · subst z
    rw [if_neg (by decide), if_pos rfl, Option.bind_some, nI_1]
  · rw [if_pos (show (0 : Int32) < nI r from nI_lt (a := 0) (Nat.pos_of_ne_zero z) (by omega)), if_neg z, turn_put σ (by omega), Option.bind_some, Option.bind_some, nI_1]
end S2
