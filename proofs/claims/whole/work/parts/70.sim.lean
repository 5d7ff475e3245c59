/-! ===== LIFE: the flat program and the nested one, together ===== -/
theorem it_l {S T : Type} {f : S → Option (S ⊕ T)} {s s' : S} (h : f s = some (Sum.inl s')) (R : Nat) : iter f (R + 1) s = iter f R s' := by
  simp only [iter]
  rw [h]
  rfl
theorem it_r {S T : Type} {f : S → Option (S ⊕ T)} {s : S} {e : T} (h : f s = some (Sum.inr e)) (R : Nat) : iter f (R + 1) s = some e := by
  simp only [iter]
  rw [h]
  rfl
def LCt (d : Nat) : Nat → Nat → Nat → Prop := fun k n j => LC d k n j ∨ (k = 13 ∧ n = 30)
def LXt : Nat → Nat → Nat → Prop := fun k n j => LXs k n j ∨ (k = 11 ∧ n = 0 ∧ (j = 43 ∨ j = 44 ∨ j = 49))
/-- a block of STEPs: on the reference's side s to t, on the class's side lines l to lt; q: how many WHENs or LOOPs may still open -/
def Bk (n : Nat) (F G : Nat → Int32) : Nat → Nat → Nat → Nat → Nat → Nat → Prop
  | 0, _, s, t, l, lt => s = t ∧ l = lt
  | K + 1, q, s, t, l, lt => (s = t ∧ l = lt)
    ∨ (∃ w k, PlC n w k (F (60 + l)) (G (135 + 9 * s)) ∧ F l = nI w ∧ G (134 + 9 * s) = nI k ∧ G (142 + 9 * s) = nI (s + 1) ∧ s + 1 ≤ t ∧ l + 1 ≤ lt ∧ Bk n F G K q (s + 1) t (l + 1) lt)
    ∨ (F l = nI 23 ∧ G (134 + 9 * s) = nI 8 ∧ G (142 + 9 * s) = nI (s + 1) ∧ s + 1 ≤ t ∧ l + 1 ≤ lt ∧ Bk n F G K q (s + 1) t (l + 1) lt)
    ∨ (∃ q' m le w k, q = q' + 1 ∧ TsC n w k (F (60 + l)) (F (120 + l)) (G (135 + 9 * s)) (G (136 + 9 * s)) (G (141 + 9 * s)) ∧ F l = nI w ∧ G (134 + 9 * s) = nI 6 ∧ G (140 + 9 * s) = nI k ∧ G (142 + 9 * s) = nI m ∧ F (180 + l) = nI le ∧ F le = nI 22 ∧ F (180 + le) = nI l ∧ s + 1 ≤ m ∧ m ≤ t ∧ l + 1 ≤ le ∧ le + 1 ≤ lt ∧ Bk n F G K q' (s + 1) m (l + 1) le ∧ Bk n F G K q m t (le + 1) lt)
    ∨ (∃ q' m le num, q = q' + 1 ∧ 1 ≤ num ∧ num ≤ 99 ∧ F l = nI 21 ∧ F (60 + l) = nI num ∧ G (134 + 9 * s) = nI 7 ∧ G (135 + 9 * s) = nI num ∧ G (142 + 9 * s) = nI m ∧ F (180 + l) = nI le ∧ F le = nI 22 ∧ F (180 + le) = nI l ∧ s + 1 ≤ m ∧ m ≤ t ∧ l + 1 ≤ le ∧ le + 1 ≤ lt ∧ Bk n F G K q' (s + 1) m (l + 1) le ∧ Bk n F G K q m t (le + 1) lt)
section SM
variable {σ υ : SS} {d n nk nl : Nat} {nu : Nat → Nat → Nat} {lo : Nat → Nat} {F G : Nat → Int32}
def SI (d n nk : Nat) (nu : Nat → Nat → Nat) (lo : Nat → Nat) (F G : Nat → Int32) (nl : Nat) (σ υ : SS) (done : Nat) : Prop := JE d n nk nu lo σ υ ∧ (∀ j, σ.1 13 (4 * d) j = F j) ∧ (∀ j, 132 ≤ j → υ.1 13 34 j = G j) ∧ σ.1 8 d 2 = nI nl ∧ υ.1 11 0 44 = nI done ∧ υ.1 11 0 43 = 0 ∧ υ.1 11 0 49 = 0 ∧ done ≤ 300
/-- it goes on behind line lm -/
def Nrm (d n nk : Nat) (nu : Nat → Nat → Nat) (lo : Nat → Nat) (F G : Nat → Int32) (nl z l lm done turn : Nat) (σ υ : SS) (Y : SS → Prop) : Prop := ∃ σ' υ' done' m, (∀ R, iter (X2_run_l42b d) (R + m) (nI done, nI l, nI turn, σ) = iter (X2_run_l42b d) R (nI done', nI lm, nI (turn + m), σ')) ∧ Y υ' ∧ SI d n nk nu lo F G nl σ' υ' done' ∧ done ≤ done' ∧ m ≤ 100 * (done' - done) + z ∧ Eqo (LCt d) σ σ' ∧ (∀ j, (j < l ∨ lm ≤ j) → σ'.1 13 30 j = σ.1 13 30 j) ∧ Eqo LXt υ υ'
/-- it is over -/
def Ovr (d n nk : Nat) (nu : Nat → Nat → Nat) (lo : Nat → Nat) (z l done turn : Nat) (σ υ : SS) (Y : SS → Prop) : Prop := ∃ σ' υ' e done' M, M ≤ 100 * (300 - done) + 1 + z ∧ (∀ R, M ≤ R → iter (X2_run_l42b d) R (nI done, nI l, nI turn, σ) = some e) ∧ Y υ' ∧ JE d n nk nu lo σ' υ' ∧ υ'.1 11 0 43 = 1 ∧ υ'.1 11 0 44 = nI done' ∧ done' ≤ 300 ∧ ((e = Sum.inl (nI done', σ') ∧ υ'.1 11 0 49 = 1) ∨ (e = Sum.inr (Sum.inl (nI done', σ')) ∧ υ'.1 11 0 49 = 0)) ∧ Eqo (LCt d) σ σ' ∧ Eqo LXt υ υ'
/-- the reference's block -/
def YB (D : SS → Int32 → Option SS) (s t : Nat) (υ υ' : SS) : Prop := ∀ R, t - s < R → iter (X12_doAll_l2b D (nI t)) R (nI s, υ) = some υ'
theorem LCt_F (hd : d < 5) {τ : SS} (h : Eqo (LCt d) σ τ) : (∀ j, τ.1 13 (4 * d) j = σ.1 13 (4 * d) j) ∧ τ.1 8 d 2 = σ.1 8 d 2 := by
  have e : ∀ k m j, ((k = 13 ∧ m = 4 * d) ∨ k = 8) → ¬ LCt d k m j := fun k m j q => by
    have h5 : d = 0 ∨ d = 1 ∨ d = 2 ∨ d = 3 ∨ d = 4 := by omega
    unfold LCt LC VO VC WF WR
    omega
  exact ⟨fun j => h.at1 (e _ _ _ (.inl ⟨rfl, rfl⟩)), h.at1 (e _ _ _ (.inr rfl))⟩
theorem LXt_G {τ : SS} (h : Eqo LXt υ τ) : ∀ j, 132 ≤ j → τ.1 13 34 j = υ.1 13 34 j := fun j hj => h.at1 (by unfold LXt LXs LX XO XC FX; omega)
theorem JE.keep {σ' υ' : SS} {P Q : Nat → Nat → Nat → Prop} (h : JE d n nk nu lo σ υ) (hE : Eqo P σ σ') (hE2 : Eqo Q υ υ') (hP : ∀ k m j, P k m j → (k = 13 ∧ m = 30)) (hQ : ∀ k m j, Q k m j → (k = 11 ∧ m = 0 ∧ (j = 43 ∨ j = 44 ∨ j = 49))) (hd : d < 5) : JE d n nk nu lo σ' υ' := by
  obtain ⟨i, c, s, p, o, L, q, h⟩ := h
  have hE : Eqo (fun k m _ => k = 13 ∧ m = 30) σ σ' := hE.mono hP
  have hE2 : Eqo (fun k m j => k = 11 ∧ m = 0 ∧ (j = 43 ∨ j = 44 ∨ j = 49)) υ υ' := hE2.mono hQ
  refine ⟨i, c, s, p, o, L, q, h.rs.keep hE (fun k m j q => by omega), h.rv.keep hE (fun k m j q => by omega), h.dr.keep hE (by omega), h.xs.keep hE2 (fun j q => by omega), h.xv.keep hE2 (fun j q => by omega), h.dx.keep hE2 (by omega), fun m hm => ?_⟩
  rw [hE.at1 (by omega), hE2.at1 (by omega)]
  exact h.2.2.2.2.2.2 m hm
/-- one turn of the class's loop -/
theorem cl_eq (hd : d < 5) {done l turn w : Nat} (h : SI d n nk nu lo F G nl σ υ done) (ht : turn ≤ 100 * done) (hl : l < nl) (hn : nl ≤ 60) (hw : F l = nI w) : X2_run_l42b d (nI done, nI l, nI turn, σ) = if nI w = 22 then ((X2_behindEnd σ d (nI l)).bind fun p77 => some (Sum.inl (nI done, p77.1, nI (turn + 1), p77.2))) else (if nI done = 300 then some (Sum.inr (Sum.inl (nI done, σ))) else (if nI w = 23 then some (Sum.inr (Sum.inr (Sum.inl (nI (done + 1), σ)))) else ((X2_behindStep σ d (nI l)).bind fun p119 => some (Sum.inl (nI (done + 1), p119.1, nI (turn + 1), p119.2))))) := by
  obtain ⟨hJ, hF, hG, h8, -, -, -, h300⟩ := h
  show X2_run_l42c σ d (nI done) (nI l) (nI turn) = _
  unfold X2_run_l42c X9_lineCount X9_lineCount_j0 X2_run_j124
  rw [if_neg (show ¬ (1000000 : Int32) ≤ nI turn from nI_ge (b := 1000000) (by omega) (by decide)), Option.bind_some, h8, if_neg (nI_ge hl (by omega)), lword_at σ hd (by omega), Option.bind_some, hF, hw, nI_1, nI_1]
  rfl
theorem SI.go (hd : d < 5) {done done' : Nat} {σ' υ' : SS} (h : SI d n nk nu lo F G nl σ υ done) (hJ : JE d n nk nu lo σ' υ') (hE : Eqo (LCt d) σ σ') (hE2 : Eqo LXt υ υ') (h44 : υ'.1 11 0 44 = nI done') (h43 : υ'.1 11 0 43 = 0) (h49 : υ'.1 11 0 49 = 0) (h300 : done' ≤ 300) : SI d n nk nu lo F G nl σ' υ' done' := by
  obtain ⟨-, hF, hG, h8, -, -, -, -⟩ := h
  obtain ⟨g1, g2⟩ := LCt_F hd hE
  exact ⟨hJ, fun j => (g1 j).trans (hF j), fun j hj => (LXt_G hE2 j hj).trans (hG j hj), g2.trans h8, h44, h43, h49, h300⟩
/-- a STEP, and the rest of its block -/
theorem cons_ok {D : SS → Int32 → Option SS} {s t m l lm lt done turn : Nat} (h : SI d n nk nu lo F G nl σ υ done) (hT : turn ≤ 100 * done) (ht : t ≤ 30) (hst : s < m) (hmt : m ≤ t) (hl : l ≤ lm) (hlt : lm ≤ lt) (hm : G (142 + 9 * s) = nI m) (one : Nrm d n nk nu lo F G nl 0 l lm done turn σ υ (fun υ' => D υ (nI s) = some υ') ∨ Ovr d n nk nu lo 0 l done turn σ υ (fun υ' => D υ (nI s) = some υ')) (rest : ∀ σ' υ' done' turn', SI d n nk nu lo F G nl σ' υ' done' → turn' ≤ 100 * done' → Nrm d n nk nu lo F G nl 0 lm lt done' turn' σ' υ' (YB D m t υ') ∨ Ovr d n nk nu lo 0 lm done' turn' σ' υ' (YB D m t υ')) : Nrm d n nk nu lo F G nl 0 l lt done turn σ υ (YB D s t υ) ∨ Ovr d n nk nu lo 0 l done turn σ υ (YB D s t υ) := by
  have h43 : υ.1 11 0 43 = 0 := h.2.2.2.2.2.1
  have hone : ∀ υ', D υ (nI s) = some υ' → Eqo LXt υ υ' → X12_doAll_l2b D (nI t) (nI s, υ) = some (Sum.inl (nI m, υ')) := fun υ' hD hE => by
    show X12_doAll_l2c D υ (nI t) (nI s) = _
    unfold X12_doAll_l2c
    rw [if_neg (nI_ge (by omega) (by omega)), if_pos h43, hD, Option.bind_some]
    have e : (134 + (9 * nI s)) + 8 = nI (142 + 9 * s) := by
      show (nI 134 + nI 9 * nI s) + nI 8 = _
      rw [pk_mul, nI_add, nI_add]
      congr 1
      omega
    rw [e, ckc (by omega), Option.bind_some, Option.bind_some, LXt_G hE _ (by omega), h.2.2.1 _ (by omega), hm]
  rcases one with ⟨σ1, υ1, done1, m1, a1, a2, a3, a4, a5, a6, a7, a8⟩ | ⟨σ1, υ1, e, done1, M, a1, a2, a3, a4, a5, a6, a6', a7, a8, a9⟩
  · have hst1 : ∀ υ2, YB D m t υ1 υ2 → YB D s t υ υ2 := fun υ2 hY R hR => by
      obtain ⟨R, rfl⟩ := Nat.exists_eq_succ_of_ne_zero (by omega : R ≠ 0)
      rw [it_l (hone υ1 a2 a8)]
      exact hY R (by omega)
    have h300 := a3.2.2.2.2.2.2.2
    rcases rest σ1 υ1 done1 (turn + m1) a3 (by omega) with ⟨σ2, υ2, done2, m2, b1, b2, b3, b4, b5, b6, b7, b8⟩ | ⟨σ2, υ2, e, done2, M, b1, b2, b3, b4, b5, b6, b6', b7, b8, b9⟩
    · left
      refine ⟨σ2, υ2, done2, m1 + m2, fun R => ?_, hst1 υ2 b2, b3, by omega, by omega, a6.tr b6, fun j hj => ?_, a8.tr b8⟩
      · rw [show R + (m1 + m2) = (R + m2) + m1 by omega, a1, b1, Nat.add_assoc turn]
      · rw [b7 j (by omega), a7 j (by omega)]
    · right
      refine ⟨σ2, υ2, e, done2, m1 + M, by omega, fun R hR => ?_, hst1 υ2 b3, b4, b5, b6, b6', b7, a6.tr b8, a8.tr b9⟩
      obtain ⟨R, rfl⟩ : ∃ R', R = R' + m1 := ⟨R - m1, by omega⟩
      rw [a1]
      exact b2 R (by omega)
  · right
    refine ⟨σ1, υ1, e, done1, M, a1, a2, fun R hR => ?_, a4, a5, a6, a6', a7, a8, a9⟩
    obtain ⟨R, rfl⟩ := Nat.exists_eq_succ_of_ne_zero (by omega : R ≠ 0)
    obtain ⟨R, rfl⟩ := Nat.exists_eq_succ_of_ne_zero (by omega : R ≠ 0)
    rw [it_l (hone υ1 a3 a9)]
    refine it_r ?_ _
    show X12_doAll_l2c D υ1 (nI t) (nI m) = _
    unfold X12_doAll_l2c
    rw [a5, if_neg (show ¬ (1 : Int32) = 0 by decide)]
    split <;> rfl
end SM
