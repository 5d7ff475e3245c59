/-! ===== TEXTS: the next token, the reference ===== -/
/-- a word as a number -/
def cdF (B : Nat → Nat) (a : Nat) : Nat → Int64
  | 0 => 0
  | k + 1 => if 8 ≤ k then -1 else ((cdF B a k * 32) + Int32.toInt64 (nI (B (a + k)))) - 96
/-- a number of at most four digits -/
def nvF (B : Nat → Nat) (a : Nat) : Nat → Nat
  | 0 => 0
  | k + 1 => if 4 ≤ k then nvF B a k else 10 * nvF B a k + B (a + k) - 48
section XN
variable {υ : SS} {B : Nat → Nat} {S : Nat}
def TxX (B : Nat → Nat) (S : Nat) (υ : SS) : Prop := S ≤ 900 ∧ υ.1 11 0 9 = nI S ∧ ∀ j, j < S → B j < 256 ∧ (υ.1 12 0 j) &&& 255 = nI (B j)
theorem TxX.keep {τ : SS} {P : Nat → Nat → Nat → Prop} (h : TxX B S υ) (hE : Eqo P υ τ) (hP : ∀ k n j, P k n j → ¬ ((k = 11 ∧ n = 0 ∧ j = 9) ∨ (k = 12 ∧ n = 0))) : TxX B S τ := by
  obtain ⟨h1, h2, h3⟩ := h
  exact ⟨h1, (hE.at1 (fun q => hP _ _ _ q (by omega))).trans h2, fun j hj => ⟨(h3 j hj).1, by rw [hE.at1 (fun q => hP _ _ _ q (by omega))]; exact (h3 j hj).2⟩⟩
/-- a byte, or 0 behind the end -/
def byE (B : Nat → Nat) (S e : Nat) : Nat := if e < S then B e else 0
theorem byE_lt (h : TxX B S υ) (e : Nat) : byE B S e < 256 := by
  unfold byE
  split
  · rename_i q
    exact (h.2.2 e q).1
  · decide
theorem TxX.at (h : TxX B S υ) {e : Nat} (he : e < 2000) : X12_look2 υ (nI e) = some (nI (byE B S e)) := by
  unfold byE
  by_cases q : e < S
  · rw [if_pos q]
    exact look2_in h.2.1 h.1 q (h.2.2 e q).2
  · rw [if_neg q]
    exact look2_out h.2.1 h.1 (by omega) he
theorem byE_le (P : Nat → Bool) (h0 : P 0 = false) (e : Nat) : P (byE B S e) = true ↔ (e < S ∧ P (B e) = true) := by
  unfold byE
  by_cases q : e < S
  · rw [if_pos q]
    exact ⟨fun z => ⟨q, z⟩, fun z => z.2⟩
  · rw [if_neg q, h0]
    exact ⟨fun z => (by cases z), fun z => absurd z.1 q⟩
theorem nvF_le (hb : ∀ j, B j < 256) (a k : Nat) : nvF B a k ≤ 500000 := by
  have main : ∀ k, nvF B a k ≤ (if k = 0 then 0 else if k = 1 then 208 else if k = 2 then 2300 else if k = 3 then 23300 else 233300) := by
    intro k
    induction k with
    | zero => exact Nat.le_refl _
    | succ k ih =>
      unfold nvF
      have hv := hb (a + k)
      generalize B (a + k) = v at *
      by_cases q : 4 ≤ k
      · rw [if_pos q]
        rw [if_neg (by omega), if_neg (by omega), if_neg (by omega), if_neg (by omega)] at ih ⊢
        exact ih
      · rw [if_neg q]
        have : k = 0 ∨ k = 1 ∨ k = 2 ∨ k = 3 := by omega
        rcases this with z | z | z | z <;> subst z <;> simp at ih ⊢ <;> omega
  have := main k
  split at this
  · omega
  · split at this
    · omega
    · split at this
      · omega
      · split at this <;> omega
theorem xnext_ok (h : TxX B S υ) {p : Nat} (hp : p ≤ S) (h16 : υ.1 11 0 16 = nI p) : ∃ τ, X12_next υ = some τ ∧ τ.1 11 0 15 = nI (tkA B S p) ∧ τ.1 11 0 16 = nI (tkZ B S (tkA B S p)) ∧ τ.1 11 0 14 = nI (tkK B S (tkA B S p)) ∧ (tkK B S (tkA B S p) = 1 → τ.1 11 0 18 = nI (tkZ B S (tkA B S p) - tkA B S p) ∧ τ.2 11 0 19 = cdF B (tkA B S p) (tkZ B S (tkA B S p) - tkA B S p)) ∧ (tkK B S (tkA B S p) = 2 → τ.1 11 0 17 = nI (nvF B (tkA B S p) (tkZ B S (tkA B S p) - tkA B S p))) ∧ (tkK B S (tkA B S p) = 3 → τ.1 11 0 17 = nI (B (tkA B S p))) ∧ Eqo (fun k n j => k = 11 ∧ n = 0 ∧ 14 ≤ j ∧ j ≤ 19) υ τ := by
  have hS := h.1
  have hE0 : Eqo (fun k n j => k = 11 ∧ n = 0 ∧ 14 ≤ j ∧ j ≤ 19) υ (wI υ 11 0 15 (nI p)) := Eqo.wI (by omega)
  obtain ⟨υ1, e1, a1, E1⟩ := rn_loop (f := X12_next_l8b) (k := 11) (n := 0) (j := 15) isBl B S p hS hp (σ := wI υ 11 0 15 (nI p)) (wI_eq _ _ _ _ _) (fun w e he hE hc => by
    have hw1 := (h.keep hE0 (fun k n j q => by omega)).keep hE (fun k n j q => by omega)
    show X12_next_l8c w = _
    unfold X12_next_l8c X12_next_j45
    rw [hw1.2.1, hc]
    by_cases q : e < S
    · have hb := (hw1.2.2 e q).1
      rw [if_neg (nI_ge q (by omega)), look2_in hw1.2.1 hS q (hw1.2.2 e q).2, Option.bind_some, Option.bind_some, nI_1, Option.bind_some]
      by_cases y : B e = 10
      · rw [if_pos (show nI (B e) = 10 by rw [y]; rfl), if_pos ⟨q, by unfold isBl; simp [y]⟩]
      · rw [if_neg (show ¬ nI (B e) = 10 from wne y (by omega) (by decide))]
        by_cases y2 : B e = 32
        · rw [if_pos (show nI (B e) = 32 by rw [y2]; rfl), if_pos ⟨q, by unfold isBl; simp [y2]⟩]
        · rw [if_neg (show ¬ nI (B e) = 32 from wne y2 (by omega) (by decide)), if_neg (fun z => by
            have := z.2
            unfold isBl at this
            simp [y, y2] at this)]
    · rw [if_pos (nI_le (by omega) (by omega)), if_neg (fun z => q z.1)])
  have hA : rnn isBl B S p = tkA B S p := rfl
  rw [hA] at a1
  have haS : tkA B S p ≤ S := (rnn_ok isBl B S p).2.1 hp
  generalize tkA B S p = a at *
  have E2 : Eqo (fun k n j => k = 11 ∧ n = 0 ∧ 14 ≤ j ∧ j ≤ 19) υ (wI υ1 11 0 16 (nI a)) := (hE0.tr (E1.mono (fun k n j q => by omega))).tr (Eqo.wI (by omega))
  have b15 : (wI υ1 11 0 16 (nI a)).1 11 0 15 = nI a := by rw [wI_ne _ _ (by omega)]; exact a1
  have b16 : (wI υ1 11 0 16 (nI a)).1 11 0 16 = nI a := wI_eq _ _ _ _ _
  have hN : X12_next υ = X12_next_j58 υ1 := by
    unfold X12_next X12_next_j0 X12_next_l8
    rw [h16, Option.bind_some, e1, Option.bind_some]
  unfold X12_next_j58 at hN
  rw [a1, Option.bind_some] at hN
  generalize wI υ1 11 0 16 (nI a) = υ2 at *
  have hT2 := h.keep E2 (fun k n j q => by omega)
  rw [b15, hT2.2.1] at hN
  by_cases q : a < S
  · rw [if_pos (nI_lt q (by omega)), look2_in hT2.2.1 hS q (hT2.2.2 a q).2, Option.bind_some, (cl_letter υ2 (hT2.2.2 a q).1).2, Option.bind_some] at hN
    have hb := (hT2.2.2 a q).1
    by_cases hle : isLe (B a) = true
    · -- a word
      have hz : tkZ B S a = rnn isLe B S a := by
        unfold tkZ
        rw [if_neg (by omega), if_pos hle]
      have hk : tkK B S a = 1 := by
        unfold tkK
        rw [if_neg (by omega), if_pos hle]
      obtain ⟨n1, n2, n3, n4⟩ := rnn_ok isLe B S a
      have n2' := n2 haS
      rw [if_pos hle, if_neg neg1_0, Option.bind_some, Option.bind_some] at hN
      have E3 : Eqo (fun k n j => k = 11 ∧ n = 0 ∧ 14 ≤ j ∧ j ≤ 19) υ (wJ (wI υ2 11 0 14 1) 11 0 19 0) := (E2.tr (Eqo.wI (by omega))).tr (Eqo.wJ (by omega))
      have c15 : (wJ (wI υ2 11 0 14 1) 11 0 19 0).1 11 0 15 = nI a := by
        show (wI υ2 11 0 14 1).1 11 0 15 = _
        rw [wI_ne _ _ (by omega)]; exact b15
      have c16 : (wJ (wI υ2 11 0 14 1) 11 0 19 0).1 11 0 16 = nI a := by
        show (wI υ2 11 0 14 1).1 11 0 16 = _
        rw [wI_ne _ _ (by omega)]; exact b16
      have c14 : (wJ (wI υ2 11 0 14 1) 11 0 19 0).1 11 0 14 = 1 := by
        show (wI υ2 11 0 14 1).1 11 0 14 = _
        exact wI_eq _ _ _ _ _
      have c19 : (wJ (wI υ2 11 0 14 1) 11 0 19 0).2 11 0 19 = 0 := wJ_eq _ _ _ _ _
      generalize wJ (wI υ2 11 0 14 1) 11 0 19 0 = υ3 at *
      obtain ⟨-, w, e, g1, g2, g3⟩ := loopI (f := X12_next_l109b) (s := υ3) (rnn isLe B S a - a) (fun _ (_ : Unit) (w : SS) => w) (fun _ w => w) (fun m _ w => w.1 11 0 16 = nI (a + m) ∧ w.2 11 0 19 = cdF B a m ∧ Eqo (fun k n j => k = 11 ∧ n = 0 ∧ (j = 16 ∨ j = 19)) υ3 w) () υ3 rfl ⟨c16, c19, Eqo.rf _ _⟩ (by omega) (fun m u w hm hI => by
        obtain ⟨g1, g2, g3⟩ := hI
        have hj := n3 (a + m) (by omega) (by omega)
        have hw := (h.keep E3 (fun k n j q => by omega)).keep g3 (fun k n j q => by omega)
        have w15 : w.1 11 0 15 = nI a := (g3.at1 (by omega)).trans c15
        refine ⟨(), wI (wJ w 11 0 19 (cdF B a (m + 1))) 11 0 16 (nI (a + m + 1)), ?_, by rw [wI_eq, Nat.add_assoc], ?_, (g3.tr (Eqo.wJ (by omega))).tr (Eqo.wI (by omega))⟩
        · show X12_next_l109c w = _
          unfold X12_next_l109c X12_next_j166
          rw [g1, w15, look2_in hw.2.1 hS hj.1 (hw.2.2 _ hj.1).2, Option.bind_some, (cl_letter w (hw.2.2 _ hj.1).1).2, Option.bind_some, if_pos hj.2, if_neg neg1_0, nI_subN (by omega), show a + m - a = m by omega, Option.bind_some, Option.bind_some, Option.bind_some, Option.bind_some, Option.bind_some, g2]
          rw [show cdF B a (m + 1) = if 8 ≤ m then -1 else ((cdF B a m * 32) + Int32.toInt64 (nI (B (a + m)))) - 96 from rfl]
          by_cases y : 8 ≤ m
          · rw [if_pos (show (8 : Int32) ≤ nI m from nI_le (a := 8) y (by omega)), if_pos y]
            show some (Sum.inl (wI (wJ w 11 0 19 (-1)) 11 0 16 (w.1 11 0 16 + 1))) = _
            rw [g1, nI_1]
          · rw [if_neg (show ¬ (8 : Int32) ≤ nI m from nI_ge (b := 8) (by omega) (by decide)), if_neg y]
            show some (Sum.inl (wI (wJ w 11 0 19 (((cdF B a m * 32) + (Int32.toInt64 (nI (B (a + m))))) - 96)) 11 0 16 (w.1 11 0 16 + 1))) = _
            rw [g1, nI_1]
        · show (wJ w 11 0 19 (cdF B a (m + 1))).2 11 0 19 = _
          exact wJ_eq _ _ _ _ _) (fun u w hI => by
        obtain ⟨g1, g2, g3⟩ := hI
        rw [show a + (rnn isLe B S a - a) = rnn isLe B S a by omega] at g1
        have hw := (h.keep E3 (fun k n j q => by omega)).keep g3 (fun k n j q => by omega)
        show X12_next_l109c w = _
        unfold X12_next_l109c
        rw [g1, hw.at (by omega), Option.bind_some, (cl_letter w (byE_lt hw _)).2, Option.bind_some, if_neg (fun z => n4 ((byE_le isLe (by decide) _).mp z)), if_pos rfl])
      rw [show a + (rnn isLe B S a - a) = rnn isLe B S a by omega] at g1
      have w15 : w.1 11 0 15 = nI a := (g3.at1 (by omega)).trans c15
      unfold X12_next_l109 at hN
      rw [e, Option.bind_some, g1, w15, nI_subN n1, Option.bind_some] at hN
      refine ⟨_, hN, ?_, ?_, ?_, fun _ => ⟨?_, ?_⟩, fun z => ?_, fun z => ?_, (E3.tr (g3.mono (fun k n j q => by omega))).tr (Eqo.wI (by omega))⟩
      · rw [wI_ne _ _ (by omega)]; exact w15
      · rw [wI_ne _ _ (by omega), hz]; exact g1
      · rw [wI_ne _ _ (by omega), g3.at1 (by omega), c14, hk]; rfl
      · rw [wI_eq, hz]
      · show w.2 11 0 19 = _
        rw [g2, hz]
      · rw [hk] at z; cases z
      · rw [hk] at z; cases z
    · rw [if_neg hle, if_pos rfl, (cl_digit υ2 hb).2, Option.bind_some] at hN
      by_cases hdi : isDi (B a) = true
      · have hz : tkZ B S a = rnn isDi B S a := by
          unfold tkZ
          rw [if_neg (by omega), if_neg hle, if_pos hdi]
        have hk : tkK B S a = if rnn isDi B S a - a ≤ 4 then 2 else 4 := by
          unfold tkK
          rw [if_neg (by omega), if_neg hle, if_pos hdi]
        obtain ⟨n1, n2, n3, n4⟩ := rnn_ok isDi B S a
        have n2' := n2 haS
        rw [if_pos hdi, if_neg neg1_0, Option.bind_some] at hN
        have E3 : Eqo (fun k n j => k = 11 ∧ n = 0 ∧ 14 ≤ j ∧ j ≤ 19) υ (wI υ2 11 0 17 0) := E2.tr (Eqo.wI (by omega))
        have c15 : (wI υ2 11 0 17 0).1 11 0 15 = nI a := by rw [wI_ne _ _ (by omega)]; exact b15
        have c16 : (wI υ2 11 0 17 0).1 11 0 16 = nI a := by rw [wI_ne _ _ (by omega)]; exact b16
        have c17 : (wI υ2 11 0 17 0).1 11 0 17 = nI 0 := wI_eq _ _ _ _ _
        generalize wI υ2 11 0 17 0 = υ3 at *
        obtain ⟨-, w, e, g1, g2, g3⟩ := loopI (f := X12_next_l210b) (s := υ3) (rnn isDi B S a - a) (fun _ (_ : Unit) (w : SS) => w) (fun _ w => w) (fun m _ w => w.1 11 0 16 = nI (a + m) ∧ w.1 11 0 17 = nI (nvF B a m) ∧ Eqo (fun k n j => k = 11 ∧ n = 0 ∧ (j = 16 ∨ j = 17)) υ3 w) () υ3 rfl ⟨c16, c17, Eqo.rf _ _⟩ (by omega) (fun m u w hm hI => by
          obtain ⟨g1, g2, g3⟩ := hI
          have hj := n3 (a + m) (by omega) (by omega)
          have hw := (h.keep E3 (fun k n j q => by omega)).keep g3 (fun k n j q => by omega)
          have w15 : w.1 11 0 15 = nI a := (g3.at1 (by omega)).trans c15
          have h48 : 48 ≤ B (a + m) := by
            have := hj.2
            unfold isDi at this
            simp at this
            exact this.1
          have ev : nvF B a (m + 1) = if 4 ≤ m then nvF B a m else 10 * nvF B a m + B (a + m) - 48 := rfl
          show ∃ b' w', X12_next_l210c w = _ ∧ _
          unfold X12_next_l210c X12_next_j260
          rw [g1, w15, look2_in hw.2.1 hS hj.1 (hw.2.2 _ hj.1).2, Option.bind_some, (cl_digit w (hw.2.2 _ hj.1).1).2, Option.bind_some, if_pos hj.2, if_neg neg1_0, nI_subN (by omega), show a + m - a = m by omega]
          by_cases y : 4 ≤ m
          · rw [if_pos (show (4 : Int32) ≤ nI m from nI_le (a := 4) y (by omega)), nI_1, Option.bind_some]
            refine ⟨(), wI w 11 0 16 (nI (a + m + 1)), rfl, by rw [wI_eq, Nat.add_assoc], ?_, g3.tr (Eqo.wI (by omega))⟩
            rw [wI_ne _ _ (by omega), g2, ev, if_pos y]
          · rw [if_neg (show ¬ (4 : Int32) ≤ nI m from nI_ge (b := 4) (by omega) (by decide)), Option.bind_some, g2]
            have e10 : ((10 : Int32) * nI (nvF B a m) + nI (B (a + m))) - 48 = nI (nvF B a (m + 1)) := by
              rw [ev, if_neg y]
              show (nI 10 * nI (nvF B a m) + nI (B (a + m))) - nI 48 = _
              rw [pk_mul, nI_add, nI_subN (by omega)]
            rw [e10, Option.bind_some, wI_ne _ _ (by omega), g1, nI_1, Option.bind_some]
            refine ⟨(), wI (wI w 11 0 17 (nI (nvF B a (m + 1)))) 11 0 16 (nI (a + m + 1)), rfl, by rw [wI_eq, Nat.add_assoc], ?_, (g3.tr (Eqo.wI (by omega))).tr (Eqo.wI (by omega))⟩
            rw [wI_ne _ _ (by omega), wI_eq]) (fun u w hI => by
          obtain ⟨g1, g2, g3⟩ := hI
          rw [show a + (rnn isDi B S a - a) = rnn isDi B S a by omega] at g1
          have hw := (h.keep E3 (fun k n j q => by omega)).keep g3 (fun k n j q => by omega)
          show X12_next_l210c w = _
          unfold X12_next_l210c
          rw [g1, hw.at (by omega), Option.bind_some, (cl_digit w (byE_lt hw _)).2, Option.bind_some, if_neg (fun z => n4 ((byE_le isDi (by decide) _).mp z)), if_pos rfl])
        rw [show a + (rnn isDi B S a - a) = rnn isDi B S a by omega] at g1
        have w15 : w.1 11 0 15 = nI a := (g3.at1 (by omega)).trans c15
        unfold X12_next_l210 X12_next_j292 at hN
        rw [e, Option.bind_some, g1, w15, nI_subN n1, Option.bind_some] at hN
        refine ⟨_, hN, ?_, ?_, ?_, fun z => ?_, fun _ => ?_, fun z => ?_, (E3.tr (g3.mono (fun k n j q => by omega))).tr (Eqo.wI (by omega))⟩
        · rw [wI_ne _ _ (by omega)]; exact w15
        · rw [wI_ne _ _ (by omega), hz]; exact g1
        · rw [wI_eq, hk]
          by_cases y : rnn isDi B S a - a ≤ 4
          · rw [if_pos y, if_pos (show nI (rnn isDi B S a - a) ≤ 4 from nI_le (b := 4) y (by decide))]; rfl
          · rw [if_neg y, if_neg (show ¬ nI (rnn isDi B S a - a) ≤ 4 from nI_ge (a := 4) (by omega) (by omega))]; rfl
        · rw [hk] at z
          split at z <;> cases z
        · rw [wI_ne _ _ (by omega), hz]; exact g2
        · rw [hk] at z
          split at z <;> cases z
      · have hz : tkZ B S a = a + 1 := by
          unfold tkZ
          rw [if_neg (by omega), if_neg hle, if_neg hdi]
        have hk : tkK B S a = if isSi (B a) = true then 3 else 4 := by
          unfold tkK
          rw [if_neg (by omega), if_neg hle, if_neg hdi]
        rw [if_neg hdi, if_pos rfl, nI_1, Option.bind_some, Option.bind_some, (cl_sign _ hb).2, Option.bind_some] at hN
        unfold X12_next_j327 at hN
        rw [Option.bind_some] at hN
        refine ⟨_, hN, ?_, ?_, ?_, fun z => ?_, fun z => ?_, fun _ => ?_, ((E2.tr (Eqo.wI (by omega))).tr (Eqo.wI (by omega))).tr (Eqo.wI (by omega))⟩
        · rw [wI_ne _ _ (by omega), wI_ne _ _ (by omega), wI_ne _ _ (by omega)]; exact b15
        · rw [wI_ne _ _ (by omega), wI_ne _ _ (by omega), wI_eq, hz]
        · rw [wI_eq, hk]
          by_cases y : isSi (B a) = true
          · rw [if_pos y, if_pos y, if_neg neg1_0]; rfl
          · rw [if_neg y, if_neg y, if_pos rfl]; rfl
        · rw [hk] at z
          split at z <;> cases z
        · rw [hk] at z
          split at z <;> cases z
        · rw [wI_ne _ _ (by omega), wI_eq]
  · have hz : tkZ B S a = a := by
      unfold tkZ
      rw [if_pos (by omega)]
    have hk : tkK B S a = 0 := by
      unfold tkK
      rw [if_pos (by omega)]
    rw [if_neg (nI_nlt (by omega) (by omega)), Option.bind_some] at hN
    refine ⟨_, hN, ?_, ?_, ?_, fun z => ?_, fun z => ?_, fun z => ?_, E2.tr (Eqo.wI (by omega))⟩
    · rw [wI_ne _ _ (by omega)]; exact b15
    · rw [wI_ne _ _ (by omega), hz]; exact b16
    · rw [wI_eq, hk]; rfl
    · rw [hk] at z; cases z
    · rw [hk] at z; cases z
    · rw [hk] at z; cases z
end XN
