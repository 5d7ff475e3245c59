/-! ===== TEXTS: a lead's cells ===== -/
theorem risk_all : ∀ A, A ≤ 30 → ∀ q, q ≤ 9 → imax 0 (imin 15 (nI A / 2 - nI q)) = nI (min 15 (A / 2 - q)) := by decide +kernel
theorem or_all : ∀ n, n < 8 → (2 ^ n - 1) ||| 2 ^ n = 2 ^ (n + 1) - 1 := by decide +kernel
/-- the reference, as if the lead that is read were told already -/
def fin (n : Nat) (υ : SS) : SS := wI (wI υ 13 34 1643 (nI (2 ^ (n + 1) - 1))) 13 34 1640 (nI (n + 1))
theorem sub_and {a b : Nat} (h : Sub a b) : a &&& b = a := by
  apply Nat.eq_of_testBit_eq
  intro k
  rw [Nat.testBit_and]
  cases e : a.testBit k with
  | false => rfl
  | true => rw [h k e]; rfl
def upN (nu : Nat → Nat → Nat) (w l v : Nat) : Nat → Nat → Nat := fun a b => if a = w ∧ b = l then v else nu a b
def nuN (nu : Nat → Nat → Nat) (l v : Nat) : Nat → Nat → Nat := fun a b => if b = l then (if a = 0 then v else if a = 2 ∨ a = 3 then 3 else 0) else nu a b
def okW (w m : Nat) : Prop := w < 6 ∧ m ≤ 999 ∧ (w = 0 → 1 ≤ m ∧ m ≤ 30) ∧ (w = 1 → m ≤ 9) ∧ ((w = 2 ∨ w = 3) → 1 ≤ m ∧ m ≤ 9) ∧ (w = 5 → m ≤ 16)
theorem upN_at {nu : Nat → Nat → Nat} {w l v : Nat} : upN nu w l v w l = v := if_pos ⟨rfl, rfl⟩
theorem upN_ne {nu : Nat → Nat → Nat} {w l v a b : Nat} (h : ¬ (a = w ∧ b = l)) : upN nu w l v a b = nu a b := if_neg h
theorem wfS.upd {n nk : Nat} {nu : Nat → Nat → Nat} {lo : Nat → Nat} (h : wfS n nk nu lo) {w l v : Nat} (hv : okW w v) : wfS n nk (upN nu w l v) lo := by
  obtain ⟨h1, h2, h3, h4⟩ := h
  refine ⟨h1, h2, fun m hm => ?_, h4⟩
  have g := h3 m hm
  obtain ⟨vw, v9, v0, v1, v2, v5⟩ := hv
  unfold upN
  by_cases e : m = l
  · subst e
    simp only [and_true]
    have e0 : (0 : Nat) = w ∨ (1 : Nat) = w ∨ (2 : Nat) = w ∨ (3 : Nat) = w ∨ (4 : Nat) = w ∨ (5 : Nat) = w := by omega
    rcases e0 with z | z | z | z | z | z <;> subst z <;> simp <;> omega
  · simp only [e, and_false, if_false]
    exact g
theorem wfS.nxt {n nk : Nat} {nu : Nat → Nat → Nat} {lo : Nat → Nat} (h : wfS n nk nu lo) (hn : n < 8) {v : Nat} (hv : 1 ≤ v ∧ v ≤ 30) : wfS (n + 1) nk (nuN nu n v) lo := by
  obtain ⟨h1, h2, h3, h4⟩ := h
  refine ⟨by omega, h2, fun m hm => ?_, fun k hk => Nat.lt_trans (h4 k hk) (Nat.pow_lt_pow_right (by decide) (by omega))⟩
  unfold nuN
  by_cases e : m = n
  · subst e
    simp
    omega
  · simp only [e, if_false]
    exact h3 m (by omega)
section NL
variable {σ υ τ : SS} {n nk c : Nat} {nu : Nat → Nat → Nat} {lo : Nat → Nat} {L : List X3}
theorem nu_put (r : Nat) (hr : r < 7) {k : Nat} (hk : k < 8) (x : Int32) : X4_put σ (4 * 1 + 1) (nI r) (nI k) x = some (wI σ 13 (4 * 1 + 1) (r * 8 + k) x) := by
  obtain ⟨-, -, h1, h2, -⟩ := T_d 1 (by decide)
  have := put_ok σ (t := 4 * 1 + 1) (r := r) (c := k) x (by decide) (by rw [h1]; exact hr) (by rw [h2]; exact hk)
  rw [h2] at this
  exact this
theorem setN_any {w l : Nat} (hw : w < 6) (hl : l < 8) (x : Int32) : ∃ τ, X0_setNumber σ 1 (nI w) (nI l) x = some τ ∧ Eqo (DC 1) σ τ := by
  have p0 := nu_at (σ := wI σ 13 (4 * 1 + 1) (w * 8 + l) x) (d := 1) (by decide) 0 (by decide) hl
  have p1 := nu_at (σ := wI σ 13 (4 * 1 + 1) (w * 8 + l) x) (d := 1) (by decide) 1 (by decide) hl
  have p0' : X4_at (wI σ 13 (4 * 1 + 1) (w * 8 + l) x) (4 * 1 + 1) 0 (nI l) = _ := p0
  have p1' : X4_at (wI σ 13 (4 * 1 + 1) (w * 8 + l) x) (4 * 1 + 1) 1 (nI l) = _ := p1
  have p6 : ∀ y, X4_put (wI σ 13 (4 * 1 + 1) (w * 8 + l) x) (4 * 1 + 1) 6 (nI l) y = _ := fun y => nu_put (σ := wI σ 13 (4 * 1 + 1) (w * 8 + l) x) 6 (by decide) hl y
  have key : X0_setNumber σ 1 (nI w) (nI l) x = some (wI (wI σ 13 (4 * 1 + 1) (w * 8 + l) x) 13 (4 * 1 + 1) (6 * 8 + l) (imax 0 (imin 15 ((wI σ 13 (4 * 1 + 1) (w * 8 + l) x).1 13 (4 * 1 + 1) (0 * 8 + l) / 2 - (wI σ 13 (4 * 1 + 1) (w * 8 + l) x).1 13 (4 * 1 + 1) (1 * 8 + l))))) := by
    unfold X0_setNumber X0_setNumber_j0
    rw [nu_put w (by omega) hl, Option.bind_some, p0', Option.bind_some, p1', Option.bind_some, Option.bind_some, p6, Option.bind_some]
  exact ⟨_, key, (Eqo.wI (by unfold DC; omega)).tr (Eqo.wI (by unfold DC; omega))⟩
theorem setN_ok {w l : Nat} {x : Int32} {A q : Nat} (hw : w < 6) (hl : l < 8) (hA : (wI σ 13 5 (w * 8 + l) x).1 13 5 l = nI A) (hq : (wI σ 13 5 (w * 8 + l) x).1 13 5 (8 + l) = nI q) (h30 : A ≤ 30) (h9 : q ≤ 9) : X0_setNumber σ 1 (nI w) (nI l) x = some (wI (wI σ 13 5 (w * 8 + l) x) 13 5 (48 + l) (nI (min 15 (A / 2 - q)))) := by
  have p0' : X4_at (wI σ 13 (4 * 1 + 1) (w * 8 + l) x) (4 * 1 + 1) 0 (nI l) = _ := nu_at (σ := wI σ 13 (4 * 1 + 1) (w * 8 + l) x) (d := 1) (by decide) 0 (by decide) hl
  have p1' : X4_at (wI σ 13 (4 * 1 + 1) (w * 8 + l) x) (4 * 1 + 1) 1 (nI l) = _ := nu_at (σ := wI σ 13 (4 * 1 + 1) (w * 8 + l) x) (d := 1) (by decide) 1 (by decide) hl
  have a0 : (wI σ 13 (4 * 1 + 1) (w * 8 + l) x).1 13 (4 * 1 + 1) (0 * 8 + l) = nI A := by rw [Nat.zero_mul, Nat.zero_add]; exact hA
  have a1 : (wI σ 13 (4 * 1 + 1) (w * 8 + l) x).1 13 (4 * 1 + 1) (1 * 8 + l) = nI q := by rw [Nat.one_mul]; exact hq
  rw [a0] at p0'
  rw [a1] at p1'
  unfold X0_setNumber X0_setNumber_j0
  rw [nu_put w (by omega) hl, Option.bind_some, p0', Option.bind_some, p1', Option.bind_some, Option.bind_some, risk_all A h30 q h9]
  rw [show X4_put (wI σ 13 (4 * 1 + 1) (w * 8 + l) x) (4 * 1 + 1) 6 (nI l) (nI (min 15 (A / 2 - q))) = _ from nu_put (σ := wI σ 13 (4 * 1 + 1) (w * 8 + l) x) 6 (by decide) hl _, Option.bind_some]
/-- what addLead touches -/
def AL (n : Nat) : Nat → Nat → Nat → Prop := fun k m j => (k = 0 ∧ m = 1 ∧ (j = 5 ∨ j = 8)) ∨ (k = 13 ∧ m = 5 ∧ (j = 8 + n ∨ j = 16 + n ∨ j = 24 + n ∨ j = 32 + n ∨ j = 40 + n)) ∨ (k = 14 ∧ m = 1 ∧ j = n)
theorem addLead_ok (h : DT n nk nu lo c L σ υ) (hn : n < 8) (y : Int64) : ∃ τ, X0_addLead σ 1 y = some (nI n, τ) ∧ τ.2 14 1 n = y ∧ τ.1 0 1 5 = nI (n + 1) ∧ τ.1 0 1 8 = nI (2 ^ (n + 1) - 1) ∧ τ.1 13 5 (8 + n) = nI 0 ∧ τ.1 13 5 (16 + n) = nI 3 ∧ τ.1 13 5 (24 + n) = nI 3 ∧ τ.1 13 5 (32 + n) = nI 0 ∧ τ.1 13 5 (40 + n) = nI 0 ∧ Eqo (AL n) σ τ := by
  have h5 := h.1.ln
  have h8 := h.2.1.ins
  have hl : LN 14 1 = 11 := by decide
  have g5 : (wJ σ 14 1 n y).1 0 1 5 = nI n := h5
  have g8 : (wI (wJ σ 14 1 n y) 0 1 5 (nI (n + 1))).1 0 1 8 = nI (2 ^ n - 1) := by rw [wI_ne _ _ (by omega)]; exact h8
  refine ⟨wI (wI (wI (wI (wI (wI (wI (wJ σ 14 1 n y) 0 1 5 (nI (n + 1))) 0 1 8 (nI (2 ^ (n + 1) - 1))) 13 5 (1 * 8 + n) 0) 13 5 (2 * 8 + n) 3) 13 5 (3 * 8 + n) 3) 13 5 (4 * 8 + n) 0) 13 5 (5 * 8 + n) 0, ?_, ?_, ?_, ?_, ?_, ?_, ?_, ?_, ?_, ?_⟩
  · unfold X0_addLead X0_addLead_j0
    rw [h5, Option.bind_some, if_neg (nI_pos (by omega)), if_neg (show ¬ (8 : Int32) ≤ nI n from nI_ge (b := 8) hn (by decide)), hl, if_neg (nI_ge (by omega) (by decide)), ck_nI (by omega) (by decide), Option.bind_some, Option.bind_some, g5, nI_1, Option.bind_some, g8, show nI (2 ^ n - 1) ||| ((1 : Int32) <<< (nI n &&& 31)) = nI (2 ^ (n + 1) - 1) by
      rw [show (1 : Int32) <<< (nI n &&& 31) = nI (2 ^ n) from hsh hn, nI_or, or_all n hn], Option.bind_some]
    have p : ∀ (w : SS) (x : Int32), X4_put w (4 * 1 + 1) 1 (nI n) x = some (wI w 13 5 (1 * 8 + n) x) ∧ X4_put w (4 * 1 + 1) 2 (nI n) x = some (wI w 13 5 (2 * 8 + n) x) ∧ X4_put w (4 * 1 + 1) 3 (nI n) x = some (wI w 13 5 (3 * 8 + n) x) ∧ X4_put w (4 * 1 + 1) 4 (nI n) x = some (wI w 13 5 (4 * 8 + n) x) ∧ X4_put w (4 * 1 + 1) 5 (nI n) x = some (wI w 13 5 (5 * 8 + n) x) := fun w x => ⟨nu_put 1 (by decide) hn x, nu_put 2 (by decide) hn x, nu_put 3 (by decide) hn x, nu_put 4 (by decide) hn x, nu_put 5 (by decide) hn x⟩
    rw [(p _ _).1, Option.bind_some, (p _ _).2.1, Option.bind_some, (p _ _).2.2.1, Option.bind_some, (p _ _).2.2.2.1, Option.bind_some, (p _ _).2.2.2.2, Option.bind_some]
  · exact wJ_eq _ _ _ _ _
  · rw [wI_ne _ _ (by omega), wI_ne _ _ (by omega), wI_ne _ _ (by omega), wI_ne _ _ (by omega), wI_ne _ _ (by omega), wI_ne _ _ (by omega), wI_eq]
  · rw [wI_ne _ _ (by omega), wI_ne _ _ (by omega), wI_ne _ _ (by omega), wI_ne _ _ (by omega), wI_ne _ _ (by omega), wI_eq]
  · rw [wI_ne _ _ (by omega), wI_ne _ _ (by omega), wI_ne _ _ (by omega), wI_ne _ _ (by omega), show 8 + n = 1 * 8 + n by omega, wI_eq]; rfl
  · rw [wI_ne _ _ (by omega), wI_ne _ _ (by omega), wI_ne _ _ (by omega), show 16 + n = 2 * 8 + n by omega, wI_eq]; rfl
  · rw [wI_ne _ _ (by omega), wI_ne _ _ (by omega), show 24 + n = 3 * 8 + n by omega, wI_eq]; rfl
  · rw [wI_ne _ _ (by omega), show 32 + n = 4 * 8 + n by omega, wI_eq]; rfl
  · rw [show 40 + n = 5 * 8 + n by omega, wI_eq]; rfl
  · exact (((((((Eqo.wJ (by unfold AL; omega)).tr (Eqo.wI (by unfold AL; omega))).tr (Eqo.wI (by unfold AL; omega))).tr (Eqo.wI (by unfold AL; omega))).tr (Eqo.wI (by unfold AL; omega))).tr (Eqo.wI (by unfold AL; omega))).tr (Eqo.wI (by unfold AL; omega))).tr (Eqo.wI (by unfold AL; omega))
/-- a lead more -/
def LW (n : Nat) : Nat → Nat → Nat → Prop := fun k m j => NCf k m j ∨ AL n k m j ∨ (k = 13 ∧ m = 5 ∧ (j = n ∨ j = 48 + n))
def LX1 (n : Nat) : Nat → Nat → Nat → Prop := fun k m j => NXf k m j ∨ (k = 14 ∧ m = 7 ∧ j = 44 + n) ∨ (k = 13 ∧ m = 34 ∧ (j = 1648 + n ∨ j = 1664 + n ∨ j = 1672 + n))
theorem DT.newl {σ' υ' : SS} {v : Nat} (h : DT n nk nu lo c L σ υ) (hn : n < 8) (hv : 1 ≤ v ∧ v ≤ 30) (hE : Eqo (LW n) σ σ') (hE2 : Eqo (LX1 n) υ υ') (hN : σ'.2 14 1 n = υ'.2 14 7 (44 + n)) (a5 : σ'.1 0 1 5 = nI (n + 1)) (a8 : σ'.1 0 1 8 = nI (2 ^ (n + 1) - 1)) (c0 : σ'.1 13 5 n = nI v) (c1 : σ'.1 13 5 (8 + n) = nI 0) (c2 : σ'.1 13 5 (16 + n) = nI 3) (c3 : σ'.1 13 5 (24 + n) = nI 3) (c4 : σ'.1 13 5 (32 + n) = nI 0) (c5 : σ'.1 13 5 (40 + n) = nI 0) (c6 : σ'.1 13 5 (48 + n) = nI (min 15 (v / 2))) (b0 : υ'.1 13 34 (1648 + n) = nI v) (b2 : υ'.1 13 34 (1664 + n) = nI 3) (b3 : υ'.1 13 34 (1672 + n) = nI 3) : DT (n + 1) nk (nuN nu n v) lo c L σ' (fin n υ') := by
  obtain ⟨h1, h2, h3, h4, h5, h6, h7, h8, h9, h10⟩ := h
  have hk := h1.k3
  have hw := h1.wf.nxt hn hv
  have hp : 2 ^ n < 2 ^ (n + 1) := Nat.pow_lt_pow_right (by decide) (by omega)
  have hp0 : 0 < 2 ^ n := Nat.pow_pos (by decide)
  have hsubb : Sub (2 ^ n - 1) (2 ^ (n + 1) - 1) := fun k hk => by
    rw [Nat.testBit_two_pow_sub_one] at hk ⊢
    simp at hk ⊢
    omega
  have nuo : ∀ w l, l < n → nuN nu n v w l = nu w l := fun w l hl => if_neg (by omega)
  have eC : ∀ k m j, ¬ LW n k m j → σ'.1 k m j = σ.1 k m j := fun k m j q => hE.at1 q
  have eX : ∀ j, 1640 ≤ j → ¬ (j = 1648 + n ∨ j = 1664 + n ∨ j = 1672 + n) → υ'.1 13 34 j = υ.1 13 34 j := fun j a b => hE2.at1 (by unfold LX1 NXf NX; omega)
  have eF : ∀ j, 4 ≤ j → (shb 4 (fin n υ')).1 13 34 j = υ'.1 13 34 (1640 + j) := fun j hj => by
    rw [shb_at]
    unfold fin
    rw [wI_ne _ _ (by omega), wI_ne _ _ (by omega)]
  have eF0 : (shb 4 (fin n υ')).1 13 34 0 = nI (n + 1) := by
    rw [shb_at]
    exact wI_eq _ _ _ _ _
  have eF3 : (shb 4 (fin n υ')).1 13 34 3 = nI (2 ^ (n + 1) - 1) := by
    rw [shb_at]
    unfold fin
    rw [wI_ne _ _ (by omega)]
    exact wI_eq _ _ _ _ _
  have eF12 : ∀ j, (j = 1 ∨ j = 2) → (shb 4 (fin n υ')).1 13 34 j = (shb 4 υ).1 13 34 j := fun j hj => by
    rw [shb_at, shb_at]
    unfold fin
    rw [wI_ne _ _ (by omega), wI_ne _ _ (by omega)]
    exact eX _ (by omega) (by omega)
  have eG : ∀ j, 4 ≤ j → ¬ (j = 8 + n ∨ j = 24 + n ∨ j = 32 + n) → (shb 4 (fin n υ')).1 13 34 j = (shb 4 υ).1 13 34 j := fun j hj hne => by
    rw [eF j hj, shb_at, eX _ (by omega) (by omega)]
  have z : ∀ w, (w = 1 ∨ w = 4 ∨ w = 5) → υ'.1 13 34 (1640 + (8 + 8 * w + n)) = nI 0 := fun w hw => by
    rw [eX _ (by omega) (by omega)]
    exact h7 w n hw (Nat.le_refl _) hn
  have b20 := h2.wl
  have hwl : wfL (n + 1) L := ⟨b20.1, fun x hx => by
    obtain ⟨g1, g2, g3, g4⟩ := b20.2 x hx
    exact ⟨by omega, by omega, g3, g4⟩⟩
  refine ⟨⟨a5, ?_, fun w l hw hl => ?_, fun l hl => ?_, fun k hkk => ?_, hw⟩, ⟨?_, a8, ?_, ?_, ?_, ?_, ?_, by omega, hwl⟩, ⟨eF0, ?_, fun w l hw hl => ?_, fun k hkk => ?_, hw⟩, ⟨?_, eF3, ?_, ?_, ?_, ?_, ?_, by omega, hwl, ?_, ?_⟩, fun l hl => ?_, fun k hkk => ?_, fun w l hw h1 h2 => ?_, ?_, ?_, ?_⟩
  · rw [eC _ _ _ (by unfold LW NCf NC AL; omega)]; exact h1.2.1
  · show σ'.1 13 5 (w * 8 + l) = _
    by_cases e : l = n
    · subst e
      have e0 : w = 0 ∨ w = 1 ∨ w = 2 ∨ w = 3 ∨ w = 4 ∨ w = 5 := by omega
      rcases e0 with y | y | y | y | y | y <;> subst y
      · rw [Nat.zero_mul, Nat.zero_add, c0]; unfold nuN; simp
      · rw [Nat.one_mul, c1]; unfold nuN; simp
      · rw [show 2 * 8 = 16 from rfl, c2]; unfold nuN; simp
      · rw [show 3 * 8 = 24 from rfl, c3]; unfold nuN; simp
      · rw [show 4 * 8 = 32 from rfl, c4]; unfold nuN; simp
      · rw [show 5 * 8 = 40 from rfl, c5]; unfold nuN; simp
    · rw [eC _ _ _ (by unfold LW NCf NC AL; omega), nuo w l (by omega)]
      exact h1.2.2.1 w l hw (by omega)
  · show σ'.1 13 5 (48 + l) = _
    by_cases e : l = n
    · subst e
      rw [c6]
      unfold risk nuN
      simp
    · rw [eC _ _ _ (by unfold LW NCf NC AL; omega)]
      have : risk (nuN nu n v) l = risk nu l := by
        unfold risk
        rw [nuo _ _ (by omega), nuo _ _ (by omega)]
      rw [this]
      exact h1.2.2.2.1 l (by omega)
  · rw [eC _ _ _ (by unfold LW NCf NC AL; omega)]; exact h1.2.2.2.2.1 k hkk
  · rw [eC _ _ _ (by unfold LW NCf NC AL; omega)]; exact h2.len
  · have hs := h4.sub
    obtain ⟨r, r1, r2, r3⟩ := h2.raw
    refine ⟨c, ?_, ?_, ?_⟩
    · rw [← r3]
      exact Nat.lt_of_le_of_lt Nat.and_le_left r1
    · rw [eC _ _ _ (by unfold LW NCf NC AL; omega)]; exact h10
    · exact sub_and (hs.tr hsubb)
  · rw [eC _ _ _ (by unfold LW NCf NC AL; omega)]; exact h2.sec
  · rw [eC _ _ _ (by unfold LW NCf NC AL; omega)]; exact h2.pen
  · rw [eC _ _ _ (by unfold LW NCf NC AL; omega)]; exact h2.opn
  · intro k x hx
    have := h2.x hx
    refine ⟨?_, ?_, ?_⟩
    · show σ'.1 13 (4 * 1 + 2) (24 * 0 + k) = _
      rw [eC _ _ _ (by unfold LW NCf NC AL; omega)]; exact this.2.2.2.2.2.2.1
    · show σ'.1 13 (4 * 1 + 2) (24 * 1 + k) = _
      rw [eC _ _ _ (by unfold LW NCf NC AL; omega)]; exact this.2.2.2.2.2.2.2.1
    · show σ'.1 13 (4 * 1 + 2) (24 * 2 + k) = _
      rw [eC _ _ _ (by unfold LW NCf NC AL; omega)]; exact this.2.2.2.2.2.2.2.2
  · rw [eF12 2 (.inr rfl)]; exact h3.lk
  · by_cases e : l = n
    · subst e
      rw [eF _ (by omega)]
      have e0 : w = 0 ∨ w = 1 ∨ w = 2 ∨ w = 3 ∨ w = 4 ∨ w = 5 := by omega
      rcases e0 with y | y | y | y | y | y <;> subst y
      · rw [show 1640 + (8 + 8 * 0 + l) = 1648 + l by omega, b0]; unfold nuN; simp
      · rw [z 1 (by omega)]; unfold nuN; simp
      · rw [show 1640 + (8 + 8 * 2 + l) = 1664 + l by omega, b2]; unfold nuN; simp
      · rw [show 1640 + (8 + 8 * 3 + l) = 1672 + l by omega, b3]; unfold nuN; simp
      · rw [z 4 (by omega)]; unfold nuN; simp
      · rw [z 5 (by omega)]; unfold nuN; simp
    · rw [eG _ (by omega) (by omega), nuo w l (by omega)]
      exact h3.gn hw (by omega)
  · rw [eG _ (by omega) (by omega)]; exact h3.2.2.2.1 k hkk
  · rw [eF12 1 (.inl rfl)]; exact h4.len
  · rw [eG _ (by omega) (by omega)]; exact h4.clp
  · rw [eG _ (by omega) (by omega)]; exact h4.sec
  · rw [eG _ (by omega) (by omega)]; exact h4.pen
  · rw [eG _ (by omega) (by omega)]; exact h4.opn
  · intro k x hx
    have := h4.x hx
    refine ⟨?_, ?_, ?_⟩
    · show (shb 4 (fin n υ')).1 13 34 (60 + 24 * 0 + k) = _
      rw [eG _ (by omega) (by omega)]; exact this.2.2.2.2.2.2.1
    · show (shb 4 (fin n υ')).1 13 34 (60 + 24 * 1 + k) = _
      rw [eG _ (by omega) (by omega)]; exact this.2.2.2.2.2.2.2.1
    · show (shb 4 (fin n υ')).1 13 34 (60 + 24 * 2 + k) = _
      rw [eG _ (by omega) (by omega)]; exact this.2.2.2.2.2.2.2.2
  · intro x hx
    have := h4.inn x hx
    exact ⟨hsubb _ this.1, hsubb _ this.2⟩
  · exact h4.sub.tr hsubb
  · show σ'.2 14 1 l = υ'.2 14 7 (44 + l)
    by_cases e : l = n
    · subst e
      exact hN
    · rw [hE.2 _ _ _ (by unfold LW NCf NC AL; omega), hE2.2 _ _ _ (by unfold LX1 NXf NX; omega)]
      exact h5 l (by omega)
  · show σ'.2 14 1 (8 + k) = υ'.2 14 7 (52 + k)
    rw [hE.2 _ _ _ (by unfold LW NCf NC AL; omega), hE2.2 _ _ _ (by unfold LX1 NXf NX; omega)]
    exact h6 k hkk
  · unfold fin
    rw [wI_ne _ _ (by omega), wI_ne _ _ (by omega), eX _ (by omega) (by omega)]
    exact h7 w l hw (by omega) h2
  · rw [eC _ _ _ (by unfold LW NCf NC AL; omega)]; exact h8
  · unfold fin
    rw [wI_ne _ _ (by omega), wI_ne _ _ (by omega), eX _ (by omega) (by omega)]; exact h9
  · rw [eC _ _ _ (by unfold LW NCf NC AL; omega)]; exact h10
end NL
