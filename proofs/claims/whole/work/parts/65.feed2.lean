/-! ===== copyStates, feed ===== -/
theorem op_copyStates (a : Int32) {σ : SS} {n nk i c : Nat} {s p o : Int32} {nu : Nat → Nat → Nat} {lo : Nat → Nat} {L : List X3} (h : RelD σ n nk nu lo i c s p o L) (ht : RT σ) : OR3 PT σ (fun σ => X11_copyStates σ a) (fun σ => X12_copyStates σ a) (fun τ => RelD τ n nk nu lo i c s p o L ∧ RT τ) := by
  have hC : ∀ τ, Eqo PS σ τ → RelD τ n nk nu lo i c s p o L ∧ RT τ := fun τ hE => ⟨h.ps hE, ht.ps hE⟩
  have hP : ∀ k n j, PS k n j → PT k n j := fun _ _ _ q => .inl q
  have hlen : X0_crossingCount σ 0 = some (nI L.length) := by
    unfold X0_crossingCount X0_crossingCount_j0
    rw [h.2.1.len]
  have h24 := h.2.1.l24
  have cbad : ∀ w, w ≠ 0 → X11_copyStates_j57 σ a (nI L.length) w = some (-1, wI σ 10 0 11 w) := fun w hw => by
    unfold X11_copyStates_j57
    rw [answersN _ hw, Option.bind_some, if_pos rfl]
  rcases lt_or a 4 (by decide) with ⟨t, ht4, rfl⟩ | ⟨ha, hn⟩
  · have xtr : ∀ υ, X12_isTray υ (nI t) = some 1 := fun υ => by
      unfold X12_isTray X12_isTray_j0
      rw [xisIn_in υ (w := t) (m := 3) (by omega) (by decide) 3 (by decide), Option.bind_some, zb_1, Option.bind_some]
    rcases th_or ht ht4 with ⟨h1, h2⟩ | ⟨m, so, h1, hT, hv⟩
    · refine refP hC hP 3 (-1) ?_ ?_
      · show X11_copyStates σ (nI t) = _
        unfold X11_copyStates X11_copyStates_j0
        rw [hlen, Option.bind_some, isNum_in σ ht4, Option.bind_some, if_neg neg1_0, h1, Option.bind_some, if_pos rfl, cbad 3 (by decide)]
      · show X12_copyStates (wI σ 10 0 11 3) (nI t) = _
        unfold X12_copyStates X12_copyStates_j0
        rw [Option.bind_some, Option.bind_some, s0e, xtr, Option.bind_some, if_neg neg1_0, ck33 ht4, Option.bind_some, (s0_ps σ 3).at1 (by unfold PS; omega), h2, if_neg (by decide)]
        rfl
    · have hm := hT.2.1
      have hso := hT.2.2.1
      have cl : X11_copyStates σ (nI t) = X11_copyStates_j57 σ (nI t) (nI L.length) (if L.length ≤ m then 0 else 4) := by
        unfold X11_copyStates X11_copyStates_j0
        rw [hlen, Option.bind_some, isNum_in σ ht4, Option.bind_some, if_neg neg1_0, h1, Option.bind_some, if_neg neg1_0, show X6_holds σ (nI t) 0 (nI L.length) = _ from holds_eq hT (x := 0) (q := L.length) (by omega), Option.bind_some, @v01 _ (Classical.propDecidable _) _ _ _]
        by_cases z : L.length ≤ m
        · rw [if_pos ⟨0, rfl, by decide, by omega⟩, if_pos z]
        · rw [if_neg (by
            rintro ⟨x, hx, hx2, hx3⟩
            omega), if_neg z]
      have rf : ∀ υ, υ.1 13 33 t = nI m → RelD (xb υ) n nk nu lo i c s p o L → X12_copyStates υ (nI t) = if L.length ≤ m then X12_copyStates_l62 (xb υ) (nI t) 0 else some (-1, wI (xb υ) 11 0 0 4) := fun υ g1 g2 => by
        have q33 : (xb υ).1 13 33 t = nI m := by rw [(xb_ps υ).at1 (by unfold PS; omega)]; exact g1
        unfold X12_copyStates X12_copyStates_j0
        rw [Option.bind_some, Option.bind_some, xtr, Option.bind_some, if_neg neg1_0, ck33 ht4, Option.bind_some]
        show (if 0 ≤ (xb υ).1 13 33 t then _ else _) = _
        rw [q33, if_pos (nI_pos' (by omega)), Option.bind_some, ck1, Option.bind_some]
        show (if (xb υ).1 13 34 1 ≤ (xb υ).1 13 33 t then _ else _) = _
        rw [q33, g2.2.2.2.len]
        by_cases z : L.length ≤ m
        · rw [if_pos (nI_le z (by omega)), if_pos z]
          rfl
        · rw [if_neg (nI_ge (by omega) (by omega)), if_neg z]
          rfl
      by_cases z : L.length ≤ m
      · have h1' := h.ps (ps1 σ 0)
        let st : Nat → Int64 := fun k => lN ((L[k]?.getD (0, 0, 0)).2.2)
        have hst : ∀ k x, L[k]? = some x → st k = lN x.2.2 ∧ x.2.2 ≤ 3 := fun k x hx => by
          refine ⟨?_, (h.2.1.wl.2 x (List.mem_of_getElem? hx)).2.2.2⟩
          show lN ((L[k]?.getD (0, 0, 0)).2.2) = _
          rw [hx]
          rfl
        obtain ⟨b1, υ, e1, k1, kE⟩ := loopI (f := X11_copyStates_l67b (nI t) (nI L.length)) (s := (0, wI σ 10 0 11 0)) L.length (fun k (_ : Unit) (w : SS) => ((nI k, w) : Int32 × SS)) (fun _ w => w) (fun k _ w => (∀ q, w.2 14 5 q = if 60 * t ≤ q ∧ q < 60 * t + k then st (q - 60 * t) else σ.2 14 5 q) ∧ Eqo (fun k n _ => k = 14 ∧ n = 5) (wI σ 10 0 11 0) w) () (wI σ 10 0 11 0) rfl ⟨fun q => by rw [if_neg (by omega)]; rfl, Eqo.rf _ _⟩ (by omega) (fun k b w hk hI => by
          obtain ⟨k1, kE⟩ := hI
          obtain ⟨x, hx⟩ : ∃ x, L[k]? = some x := ⟨L[k], List.getElem?_eq_getElem hk⟩
          obtain ⟨hs1, hs3⟩ := hst k x hx
          have r' : RelD w n nk nu lo i c s p o L := h1'.keep kE (fun k n j q => by unfold RDc; omega)
          have w20 : ∀ j, w.1 13 20 j = σ.1 13 20 j := fun j => by
            rw [kE.at1 (by omega), wI_ne _ _ (by omega)]
          show ∃ b' w', X11_copyStates_l67c w (nI t) (nI L.length) (nI k) = _ ∧ _
          unfold X11_copyStates_l67c
          rw [if_neg (nI_ge hk (by omega)), stateAt_ok (by decide) r'.2.1 hx, Option.bind_some, nI_l (by omega), put_in ht4 (show k < m by omega) hm (by rw [w20]; exact hT.2.2.2.2.1) (by rw [w20]; exact hT.2.2.2.2.2.2.1) hso, Option.bind_some, nI_1, Option.bind_some, cutv_s hs3]
          refine ⟨(), _, rfl, fun q => ?_, kE.tr (Eqo.wJ ⟨rfl, rfl⟩)⟩
          rw [wJ_row]
          simp only
          rw [k1]
          by_cases y : q = 60 * t + k
          · rw [if_pos y, if_pos (by omega), show q - 60 * t = k by omega, hs1]
          · rw [if_neg y]
            by_cases y2 : 60 * t ≤ q ∧ q < 60 * t + k
            · rw [if_pos y2, if_pos (by omega)]
            · rw [if_neg y2, if_neg (by omega)]) (fun b w hI => by
          show X11_copyStates_l67c w (nI t) (nI L.length) (nI L.length) = _
          unfold X11_copyStates_l67c
          rw [if_pos (nI_le (Nat.le_refl _) (by omega))])
        have r1 := h1'.keep kE (fun k n j q => by unfold RDc; omega)
        have r2 := r1.ps (xb_ps υ)
        obtain ⟨b2, τ, e2, k2, kE2⟩ := loopI (f := X12_copyStates_l62b (nI t)) (s := (0, xb υ)) L.length (fun k (_ : Unit) (w : SS) => ((nI k, w) : Int32 × SS)) (fun _ w => w) (fun k _ w => (∀ q, w.2 14 6 q = if 60 * t ≤ q ∧ q < 60 * t + k then st (q - 60 * t) else (xb υ).2 14 6 q) ∧ Eqo (fun k n _ => k = 14 ∧ n = 6) (xb υ) w) () (xb υ) rfl ⟨fun q => by rw [if_neg (by omega)], Eqo.rf _ _⟩ (by omega) (fun k b w hk hI => by
          obtain ⟨k1, kE⟩ := hI
          obtain ⟨x, hx⟩ : ∃ x, L[k]? = some x := ⟨L[k], List.getElem?_eq_getElem hk⟩
          obtain ⟨hs1, hs3⟩ := hst k x hx
          have r' : RelD w n nk nu lo i c s p o L := r2.keep kE (fun k n j q => by unfold RDc; omega)
          obtain ⟨q1, q2, q3, q4, q5, q6, q7, q8, q9⟩ := r'.2.2.2.x hx
          show ∃ b' w', X12_copyStates_l62c w (nI t) (nI k) = _ ∧ _
          unfold X12_copyStates_l62c
          rw [ck1, Option.bind_some, r'.2.2.2.len, if_neg (nI_ge hk (by omega)), ckS (by omega), Option.bind_some, ck14 ht4 (by omega), Option.bind_some, Option.bind_some, nI_1, Option.bind_some, q9, nI_l (by omega)]
          refine ⟨(), _, rfl, fun q => ?_, kE.tr (Eqo.wJ ⟨rfl, rfl⟩)⟩
          rw [wJ_row]
          simp only
          rw [k1]
          by_cases y : q = 60 * t + k
          · rw [if_pos y, if_pos (by omega), show q - 60 * t = k by omega, hs1]
          · rw [if_neg y]
            by_cases y2 : 60 * t ≤ q ∧ q < 60 * t + k
            · rw [if_pos y2, if_pos (by omega)]
            · rw [if_neg y2, if_neg (by omega)]) (fun b w hI => by
          have r' : RelD w n nk nu lo i c s p o L := r2.keep hI.2 (fun k n j q => by unfold RDc; omega)
          show X12_copyStates_l62c w (nI t) (nI L.length) = _
          unfold X12_copyStates_l62c
          rw [ck1, Option.bind_some, r'.2.2.2.len, if_pos (nI_le (Nat.le_refl _) (by omega))])
        have r3 := r2.keep kE2 (fun k n j q => by unfold RDc; omega)
        have hall : Eqo PT σ τ := (((PS_PT (ps1 σ 0)).tr (kE.mono (fun k n j q => .inr (.inr ⟨q.1, .inl q.2⟩)))).tr (PS_PT (xb_ps υ))).tr (kE2.mono (fun k n j q => .inr (.inr ⟨q.1, .inr q.2⟩)))
        have tc : ∀ n j, (n = 20 ∨ n = 32 ∨ n = 33) → τ.1 13 n j = σ.1 13 n j := fun n j hn => by
          rw [kE2.at1 (by omega), (xb_ps υ).at1 (by unfold PS; omega), kE.at1 (by omega), wI_ne _ _ (by omega)]
        have d5 : ∀ q, τ.2 14 5 q = if 60 * t ≤ q ∧ q < 60 * t + L.length then st (q - 60 * t) else σ.2 14 5 q := fun q => by
          rw [kE2.2 _ _ _ (by omega)]
          exact k1 q
        have d6 : ∀ q, τ.2 14 6 q = if 60 * t ≤ q ∧ q < 60 * t + L.length then st (q - 60 * t) else σ.2 14 6 q := fun q => by
          rw [k2]
          have : (xb υ).2 14 6 q = σ.2 14 6 q := kE.2 _ _ _ (by omega)
          rw [this]
        refine ⟨nI L.length, υ, τ, ?_, ?_, ?_, hall, r3, fun t' ht' => ?_⟩
        · show X11_copyStates σ (nI t) = _
          rw [cl, if_pos z]
          unfold X11_copyStates_j57 X11_copyStates_l67
          rw [answers0, Option.bind_some, if_neg neg1_0]
          simp only
          rw [e1, Option.bind_some]
        · show X12_copyStates υ (nI t) = _
          rw [rf υ (by rw [kE.at1 (by omega), wI_ne _ _ (by omega)]; exact hT.2.2.2.2.2.1) r2, if_pos z]
          unfold X12_copyStates_l62
          rw [e2, Option.bind_some, ck1, Option.bind_some, r3.2.2.2.len]
        · have g3 : υ.1 10 0 11 = 0 := by rw [kE.at1 (by omega), wI_eq]
          have g4 := xb_st g3
          unfold St at g4 ⊢
          rw [kE2.at1 (by omega), kE2.at1 (by omega)]
          exact g4
        · rcases ht t' ht' with ⟨x1, x2⟩ | ⟨x1, m2, so2, k1', k2', k3, k4, k5, k6, k7⟩
          · left
            rw [tc _ _ (.inl rfl), tc _ _ (.inr (.inr rfl))]
            exact ⟨x1, x2⟩
          · right
            refine ⟨by rw [tc _ _ (.inl rfl)]; exact x1, m2, so2, k1', k2', by rw [tc _ _ (.inl rfl)]; exact k3, by rw [tc _ _ (.inr (.inr rfl))]; exact k4, by rw [tc _ _ (.inl rfl)]; exact k5, by rw [tc _ _ (.inr (.inl rfl))]; exact k6, fun jj hj => ?_⟩
            rw [d5, d6]
            by_cases y : 60 * t ≤ 60 * t' + jj ∧ 60 * t' + jj < 60 * t + L.length
            · rw [if_pos y, if_pos y]
              refine ⟨rfl, ?_⟩
              obtain ⟨x, hx⟩ : ∃ x, L[60 * t' + jj - 60 * t]? = some x := ⟨L[60 * t' + jj - 60 * t], List.getElem?_eq_getElem (by omega)⟩
              obtain ⟨hs1, hs3⟩ := hst _ x hx
              rw [hs1, cutv_s hs3]
            · rw [if_neg y, if_neg y]
              exact k7 jj hj
      · refine refP hC hP 4 (-1) ?_ ?_
        · show X11_copyStates σ (nI t) = _
          rw [cl, if_neg z, cbad 4 (by decide)]
        · show X12_copyStates (wI σ 10 0 11 4) (nI t) = _
          rw [rf _ (by rw [wI_ne _ _ (by omega)]; exact hT.2.2.2.2.2.1) (h.ps (s0_ps σ 4)), if_neg z]
          rfl
  · refine refP hC hP 1 (-1) ?_ ?_
    · show X11_copyStates σ a = _
      unfold X11_copyStates X11_copyStates_j0
      rw [hlen, Option.bind_some, isNum_out σ ha, Option.bind_some, if_pos rfl, cbad 1 (by decide)]
    · show X12_copyStates (wI σ 10 0 11 1) a = _
      have xtr : X12_isTray (s0 σ 1) a = some 0 := by
        unfold X12_isTray X12_isTray_j0
        rw [xisIn_out (s0 σ 1) (a := a) (m := 3) (fun z => by
          rcases ha with y | y
          · exact Int32.not_lt.mpr z.1 y
          · have z1 := Int32.le_iff_toInt_le.mp z.2
            have z2 := Int32.le_iff_toInt_le.mp y
            rw [nI_toInt (by decide)] at z1 z2
            omega) 3 (by decide), Option.bind_some, zb_0, Option.bind_some]
      unfold X12_copyStates X12_copyStates_j0
      rw [Option.bind_some, Option.bind_some, s0e, xtr, Option.bind_some, if_pos rfl]
      rfl
/-! the tape -/
def TpR (σ : SS) : Prop := ∃ T, T ≤ 900 ∧ σ.1 4 0 1 = nI T ∧ σ.1 11 0 8 = nI T ∧ ∀ j, j < T → ∃ b, b < 256 ∧ σ.1 13 31 j = nI b ∧ (σ.1 12 0 j) &&& 255 = nI b
def TpC : Nat → Nat → Nat → Prop := fun k n j => (k = 4 ∧ n = 0 ∧ j = 1) ∨ (k = 11 ∧ n = 0 ∧ j = 8) ∨ (k = 13 ∧ n = 31) ∨ (k = 12 ∧ n = 0)
theorem TpR.keep {σ τ : SS} {P : Nat → Nat → Nat → Prop} (h : TpR σ) (hE : Eqo P σ τ) (hP : ∀ k n j, P k n j → ¬ TpC k n j) : TpR τ := by
  have e : ∀ k n j, TpC k n j → τ.1 k n j = σ.1 k n j := fun k n j q => hE.1 k n j (fun z => hP k n j z q)
  obtain ⟨T, h1, h2, h3, h4⟩ := h
  refine ⟨T, h1, by rw [e _ _ _ (by unfold TpC; omega)]; exact h2, by rw [e _ _ _ (by unfold TpC; omega)]; exact h3, fun j hj => ?_⟩
  rw [e _ _ _ (by unfold TpC; omega), e _ _ _ (by unfold TpC; omega)]
  exact h4 j hj
def byt (x : Int32) (i : Nat) : Nat := x.toBitVec.toNat / 2 ^ (24 - 8 * i) % 256
theorem byt_lt (x : Int32) (i : Nat) : byt x i < 256 := Nat.mod_lt _ (by decide)
def shI (k : Nat) : Int32 := if k ≤ 3 then nI (24 - 8 * k) else -8
def pI3 (k : Nat) : Int32 := if k ≤ 3 then nI (3 - k) else -1
theorem append_ok {σ : SS} {T : Nat} (hT : T + 4 ≤ 900) (h : σ.1 4 0 1 = nI T) (x : Int32) : ∃ τ, X5_append σ x = some (nI (T + 4), τ) ∧ τ.1 4 0 1 = nI (T + 4) ∧ (∀ j, τ.1 13 31 j = if T ≤ j ∧ j < T + 4 then nI (byt x (j - T)) else σ.1 13 31 j) ∧ Eqo (fun k n j => (k = 4 ∧ n = 0 ∧ j = 1) ∨ (k = 13 ∧ n = 31)) σ τ := by
  have l31 : LN 13 31 = 900 := lens.2.2.2.2.2.2.2.2.2.2.2.2.2.2.2.1
  obtain ⟨b, w, e, h1, h2, h3⟩ := loopI (f := X5_append_l3b x) (s := (24, σ)) 4 (fun k (_ : Unit) (w : SS) => ((shI k, w) : Int32 × SS)) (fun _ w => w) (fun k _ w => w.1 4 0 1 = nI (T + k) ∧ (∀ j, w.1 13 31 j = if T ≤ j ∧ j < T + k then nI (byt x (j - T)) else σ.1 13 31 j) ∧ Eqo (fun k n j => (k = 4 ∧ n = 0 ∧ j = 1) ∨ (k = 13 ∧ n = 31)) σ w) () σ rfl ⟨h, fun j => by rw [if_neg (by omega)], Eqo.rf _ _⟩ (by decide) (fun k b w hk hI => by
    obtain ⟨h1, h2, h3⟩ := hI
    have hs : shI k = nI (24 - 8 * k) := by unfold shI; rw [if_pos (by omega)]
    have hs1 : shI k + (-8) = shI (k + 1) := by
      have : k = 0 ∨ k = 1 ∨ k = 2 ∨ k = 3 := by omega
      rcases this with z | z | z | z <;> subst z <;> decide
    show ∃ b' w', X5_append_l3c w x (shI k) = _ ∧ _
    unfold X5_append_l3c X5_append_j52
    rw [hs1, hs, if_neg (nI_pos (by omega)), h1, if_neg (nI_pos (by omega)), l31, if_neg (nI_ge (by omega) (by decide)), ck_nI (by omega) (by decide), Option.bind_some, Option.bind_some, byte_cl x (show 24 - 8 * k ≤ 24 by omega), wI_ne _ _ (by omega), h1, nI_1, Option.bind_some, Option.bind_some]
    refine ⟨(), _, rfl, ?_, fun j => ?_, (h3.tr (Eqo.wI (.inr ⟨rfl, rfl⟩))).tr (Eqo.wI (.inl ⟨rfl, rfl, rfl⟩))⟩
    · rw [wI_eq]
      rfl
    · rw [wI_ne _ _ (by omega)]
      by_cases z : j = T + k
      · subst z
        rw [wI_eq, if_pos (by omega), show T + k - T = k by omega]
        rfl
      · rw [wI_ne _ _ (by omega), h2]
        by_cases y : T ≤ j ∧ j < T + k
        · rw [if_pos y, if_pos (by omega)]
        · rw [if_neg y, if_neg (by omega)]) (fun b w hI => by
    show X5_append_l3c w x (shI 4) = _
    unfold X5_append_l3c
    rw [if_pos (show shI 4 < 0 by decide)])
  refine ⟨w, ?_, h1, h2, h3⟩
  unfold X5_append X5_append_j0 X5_append_l3
  rw [e, Option.bind_some, h1]
theorem xlay_ok {σ : SS} {T : Nat} (hT : T + 4 ≤ 900) (h : σ.1 11 0 8 = nI T) (x : Int32) : ∃ τ, X12_lay σ x = some τ ∧ τ.1 11 0 8 = nI (T + 4) ∧ (∀ j, (τ.1 12 0 j) &&& 255 = if T ≤ j ∧ j < T + 4 then nI (byt x (j - T)) else (σ.1 12 0 j) &&& 255) ∧ Eqo (fun k n j => (k = 11 ∧ n = 0 ∧ j = 8) ∨ (k = 12 ∧ n = 0)) σ τ := by
  obtain ⟨b, w, e, h1, h2, h3⟩ := loopI (f := X12_lay_l2b x) (s := (3, σ)) 4 (fun k (_ : Unit) (w : SS) => ((pI3 k, w) : Int32 × SS)) (fun _ w => w) (fun k _ w => w.1 11 0 8 = nI (T + k) ∧ (∀ j, (w.1 12 0 j) &&& 255 = if T ≤ j ∧ j < T + k then nI (byt x (j - T)) else (σ.1 12 0 j) &&& 255) ∧ Eqo (fun k n j => (k = 11 ∧ n = 0 ∧ j = 8) ∨ (k = 12 ∧ n = 0)) σ w) () σ rfl ⟨h, fun j => by rw [if_neg (by omega)], Eqo.rf _ _⟩ (by decide) (fun k b w hk hI => by
    obtain ⟨h1, h2, h3⟩ := hI
    have hs : pI3 k = nI (3 - k) := by unfold pI3; rw [if_pos (by omega)]
    have hs1 : pI3 k + (-1) = pI3 (k + 1) := by
      have : k = 0 ∨ k = 1 ∨ k = 2 ∨ k = 3 := by omega
      rcases this with z | z | z | z <;> subst z <;> decide
    have l12 : LN 12 0 = 900 := lens.1
    have hm : (8 : Int32) * nI (3 - k) = nI (24 - 8 * k) := by
      show nI 8 * nI (3 - k) = _
      rw [pk_mul]
      congr 1
      omega
    show ∃ b' w', X12_lay_l2c w x (pI3 k) = _ ∧ _
    unfold X12_lay_l2c
    rw [hs1, hs, if_neg (nI_pos (by omega)), h1, l12, ck_nI (by omega) (by decide), Option.bind_some, Option.bind_some, wI_ne _ _ (by omega), h1, nI_1, Option.bind_some, Option.bind_some, hm]
    refine ⟨(), _, rfl, ?_, fun j => ?_, (h3.tr (Eqo.wI (.inr ⟨rfl, rfl⟩))).tr (Eqo.wI (.inl ⟨rfl, rfl, rfl⟩))⟩
    · rw [wI_eq]
      rfl
    · rw [wI_ne _ _ (by omega)]
      by_cases z : j = T + k
      · subst z
        rw [wI_eq, if_pos (by omega), show T + k - T = k by omega]
        exact byte_rf x (show 24 - 8 * k ≤ 24 by omega)
      · rw [wI_ne _ _ (by omega), h2]
        by_cases y : T ≤ j ∧ j < T + k
        · rw [if_pos y, if_pos (by omega)]
        · rw [if_neg y, if_neg (by omega)]) (fun b w hI => by
    show X12_lay_l2c w x (pI3 4) = _
    unfold X12_lay_l2c
    rw [if_pos (show pI3 4 < 0 by decide)])
  refine ⟨w, ?_, h1, h2, h3⟩
  unfold X12_lay X12_lay_j0 X12_lay_l2
  rw [e, Option.bind_some]
def PTp : Nat → Nat → Nat → Prop := fun k n j => PS k n j ∨ TpC k n j
theorem op_feed (a b c d e : Int32) {σ : SS} (h : TpR σ) (hSt : St σ) : OR3 PTp σ (fun σ => X11_feed σ a b c d e) (fun σ => X12_feed σ a b c d e) TpR := by
  obtain ⟨T, h1, h2, h3, h4⟩ := h
  by_cases q : T + 20 ≤ 900
  · obtain ⟨w1, e1, a1, c1, E1⟩ := append_ok (σ := σ) (T := T) (by omega) h2 a
    obtain ⟨w2, e2, a2, c2, E2⟩ := append_ok (σ := w1) (T := T + 4) (by omega) a1 b
    obtain ⟨w3, e3, a3, c3, E3⟩ := append_ok (σ := w2) (T := T + 4 + 4) (by omega) a2 c
    obtain ⟨w4, e4, a4, c4, E4⟩ := append_ok (σ := w3) (T := T + 4 + 4 + 4) (by omega) a3 d
    obtain ⟨w5, e5, a5, c5, E5⟩ := append_ok (σ := w4) (T := T + 4 + 4 + 4 + 4) (by omega) a4 e
    have EC := (((E1.tr E2).tr E3).tr E4).tr E5
    have x8 : (wI w5 11 0 1 0).1 11 0 8 = nI T := by
      rw [wI_ne _ _ (by omega), EC.at1 (by omega)]
      exact h3
    obtain ⟨v1, f1, b1, d1, F1⟩ := xlay_ok (σ := wI w5 11 0 1 0) (T := T) (by omega) x8 a
    obtain ⟨v2, f2, b2, d2, F2⟩ := xlay_ok (σ := v1) (T := T + 4) (by omega) b1 b
    obtain ⟨v3, f3, b3, d3, F3⟩ := xlay_ok (σ := v2) (T := T + 4 + 4) (by omega) b2 c
    obtain ⟨v4, f4, b4, d4, F4⟩ := xlay_ok (σ := v3) (T := T + 4 + 4 + 4) (by omega) b3 d
    obtain ⟨v5, f5, b5, d5, F5⟩ := xlay_ok (σ := v4) (T := T + 4 + 4 + 4 + 4) (by omega) b4 e
    have FX' := (((F1.tr F2).tr F3).tr F4).tr F5
    have hall : Eqo PTp σ v5 := ((EC.mono (fun k n j q => by unfold PTp TpC; omega)).tr ((ps3 w5 0).mono (fun _ _ _ q => .inl q))).tr (FX'.mono (fun k n j q => by unfold PTp TpC; omega))
    refine ⟨nI (T + 4 + 4 + 4 + 4 + 4), w5, v5, ?_, ?_, ?_, hall, T + 4 + 4 + 4 + 4 + 4, by omega, ?_, b5, fun j hj => ?_⟩
    · show X11_feed σ a b c d e = _
      unfold X11_feed X11_feed_j0 X5_hasRoom X5_hasRoom_j0
      rw [h2, show (20 : Int32) = nI 20 from rfl, nI_add, if_neg (show ¬ (900 : Int32) < nI (T + 20) from nI_nlt (a := 900) q (by decide)), Option.bind_some, if_neg neg1_0, e1, Option.bind_some, e2, Option.bind_some, e3, Option.bind_some, e4, Option.bind_some, e5, Option.bind_some]
    · show X12_feed w5 a b c d e = _
      unfold X12_feed X12_feed_j0
      rw [Option.bind_some, x8, show (20 : Int32) = nI 20 from rfl, nI_add, if_pos (show nI (T + 20) ≤ (900 : Int32) from nI_le (b := 900) q (by decide)), f1, Option.bind_some, f2, Option.bind_some, f3, Option.bind_some, f4, Option.bind_some, f5, Option.bind_some, b5]
    · unfold St at hSt ⊢
      rw [FX'.at1 (by omega), FX'.at1 (by omega), wI_ne _ _ (by omega), wI_ne _ _ (by omega), EC.at1 (by omega), EC.at1 (by omega)]
      exact hSt
    · rw [FX'.at1 (by omega), wI_ne _ _ (by omega)]
      exact a5
    · rw [FX'.at1 (by omega), wI_ne _ _ (by omega), c5, d5, c4, d4, c3, d3, c2, d2, c1, d1]
      by_cases z5 : T + 4 + 4 + 4 + 4 ≤ j ∧ j < T + 4 + 4 + 4 + 4 + 4
      · rw [if_pos z5, if_pos z5]
        exact ⟨_, byt_lt _ _, rfl, rfl⟩
      · rw [if_neg z5, if_neg z5]
        by_cases z4 : T + 4 + 4 + 4 ≤ j ∧ j < T + 4 + 4 + 4 + 4
        · rw [if_pos z4, if_pos z4]
          exact ⟨_, byt_lt _ _, rfl, rfl⟩
        · rw [if_neg z4, if_neg z4]
          by_cases z3 : T + 4 + 4 ≤ j ∧ j < T + 4 + 4 + 4
          · rw [if_pos z3, if_pos z3]
            exact ⟨_, byt_lt _ _, rfl, rfl⟩
          · rw [if_neg z3, if_neg z3]
            by_cases z2 : T + 4 ≤ j ∧ j < T + 4 + 4
            · rw [if_pos z2, if_pos z2]
              exact ⟨_, byt_lt _ _, rfl, rfl⟩
            · rw [if_neg z2, if_neg z2]
              by_cases z1 : T ≤ j ∧ j < T + 4
              · rw [if_pos z1, if_pos z1]
                exact ⟨_, byt_lt _ _, rfl, rfl⟩
              · rw [if_neg z1, if_neg z1, wI_ne _ _ (by omega), EC.at1 (by omega)]
                exact h4 j (by omega)
  · have x8 : (wI σ 11 0 1 0).1 11 0 8 = nI T := by
      rw [wI_ne _ _ (by omega)]
      exact h3
    refine ⟨-1, σ, wI σ 11 0 1 0, ?_, ?_, ?_, (ps3 σ 0).mono (fun _ _ _ q => .inl q), ?_⟩
    · show X11_feed σ a b c d e = _
      unfold X11_feed X11_feed_j0 X5_hasRoom X5_hasRoom_j0
      rw [h2, show (20 : Int32) = nI 20 from rfl, nI_add, if_pos (show (900 : Int32) < nI (T + 20) from nI_lt (a := 900) (by omega) (by omega)), Option.bind_some, if_pos rfl]
    · show X12_feed σ a b c d e = _
      unfold X12_feed X12_feed_j0
      rw [Option.bind_some, x8, show (20 : Int32) = nI 20 from rfl, nI_add, if_neg (show ¬ nI (T + 20) ≤ (900 : Int32) from nI_ge (a := 900) (by omega) (by omega))]
    · unfold St at hSt ⊢
      rw [wI_ne _ _ (by omega), wI_ne _ _ (by omega)]
      exact hSt
    · exact TpR.keep ⟨T, h1, h2, h3, h4⟩ (ps3 σ 0) (fun k n j q => by unfold PS at q; unfold TpC; omega)
