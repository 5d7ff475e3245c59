/-! ===== TEXTS: a lead's numbers ===== -/
def LR (n nk : Nat) (nu : Nat → Nat → Nat) (lo : Nat → Nat) (c : Nat) (L : List X3) (σ υ : SS) : Prop := DT (n + 1) nk nu lo c L σ (fin n υ) ∧ υ.1 13 34 1640 = nI n ∧ υ.1 13 34 1643 = nI (2 ^ n - 1)
section OPN
variable {σ υ σ' υ' : SS} {n nk c : Nat} {nu : Nat → Nat → Nat} {lo : Nat → Nat} {L : List X3} {B : Nat → Nat} {S a : Nat}
theorem DT.setn (h : DT n nk nu lo c L σ υ) {l w v : Nat} (hl : l < n) (hv : okW w v) : ∃ τ, X0_setNumber σ 1 (nI w) (nI l) (nI v) = some τ ∧ Eqo (DC 1) σ τ ∧ ∀ υ', Eqo (fun k m j => k = 13 ∧ m = 34 ∧ j = 1640 + (8 + 8 * w + l)) υ υ' → υ'.1 13 34 (1640 + (8 + 8 * w + l)) = nI v → DT n nk (upN nu w l v) lo c L τ υ' := by
  obtain ⟨h1, h2, h3, h4, h5, h6, h7, h8, h9, h10⟩ := h
  have hn := h1.n8
  have hk := h1.k3
  have hw6 := hv.1
  have hwf := h1.wf.upd (l := l) hv
  have hwl := hwf.2.2.1 l hl
  have cl : ∀ w', w' < 6 → (wI σ 13 5 (w * 8 + l) (nI v)).1 13 5 (w' * 8 + l) = nI (upN nu w l v w' l) := fun w' hw' => by
    by_cases e : w' = w
    · subst e
      rw [wI_eq, upN_at]
    · rw [wI_ne _ _ (by omega), upN_ne (by omega)]
      exact h1.2.2.1 w' l hw' hl
  have hA := cl 0 (by decide)
  have hq := cl 1 (by decide)
  rw [Nat.zero_mul, Nat.zero_add] at hA
  rw [Nat.one_mul] at hq
  refine ⟨_, setN_ok hw6 (by omega) hA hq hwl.2.1 hwl.2.2.1, (Eqo.wI (by unfold DC; omega)).tr (Eqo.wI (by unfold DC; omega)), fun υ' hE2 hx => ?_⟩
  have hE : Eqo (fun k m j => k = 13 ∧ m = 5 ∧ (j = w * 8 + l ∨ j = 48 + l)) σ (wI (wI σ 13 5 (w * 8 + l) (nI v)) 13 5 (48 + l) (nI (min 15 (upN nu w l v 0 l / 2 - upN nu w l v 1 l)))) := (Eqo.wI (by omega)).tr (Eqo.wI (by omega))
  have t1 : ∀ w', w' < 6 → (wI (wI σ 13 5 (w * 8 + l) (nI v)) 13 5 (48 + l) (nI (min 15 (upN nu w l v 0 l / 2 - upN nu w l v 1 l)))).1 13 5 (w' * 8 + l) = nI (upN nu w l v w' l) := fun w' hw' => by
    rw [wI_ne _ _ (by omega)]
    exact cl w' hw'
  have t2 : (wI (wI σ 13 5 (w * 8 + l) (nI v)) 13 5 (48 + l) (nI (min 15 (upN nu w l v 0 l / 2 - upN nu w l v 1 l)))).1 13 5 (48 + l) = nI (risk (upN nu w l v) l) := wI_eq _ _ _ _ _
  generalize wI (wI σ 13 5 (w * 8 + l) (nI v)) 13 5 (48 + l) (nI (min 15 (upN nu w l v 0 l / 2 - upN nu w l v 1 l))) = τ at *
  have x : ∀ j, j ≠ 8 + 8 * w + l → (shb 4 υ').1 13 34 j = (shb 4 υ).1 13 34 j := fun j hj => by
    rw [shb_at, shb_at]
    exact hE2.at1 (by omega)
  have hv' : RV τ 1 n (2 ^ n - 1) c 0 0 0 L := h2.keep hE (fun k m j q => by omega)
  refine ⟨⟨(hE.at1 (by omega)).trans h1.1, (hE.at1 (by omega)).trans h1.2.1, fun w' l' hw' hl' => ?_, fun l' hl' => ?_, fun k hkk => ?_, hwf⟩, hv', ⟨?_, ?_, fun w' l' hw' hl' => ?_, fun k hkk => ?_, hwf⟩, ?_, fun l' hl' => ?_, fun k hkk => ?_, fun w' l' hw' g1 g2 => ?_, ?_, ?_, ?_⟩
  · show τ.1 13 5 (w' * 8 + l') = _
    by_cases e : l' = l
    · subst e
      exact t1 w' hw'
    · rw [hE.at1 (by omega), upN_ne (by omega)]
      exact h1.2.2.1 w' l' hw' hl'
  · show τ.1 13 5 (48 + l') = _
    by_cases e : l' = l
    · subst e
      exact t2
    · rw [hE.at1 (by omega)]
      have : risk (upN nu w l v) l' = risk nu l' := by
        unfold risk
        rw [upN_ne (by omega), upN_ne (by omega)]
      rw [this]
      exact h1.2.2.2.1 l' hl'
  · show τ.1 13 7 k = _
    rw [hE.at1 (by omega)]
    exact h1.2.2.2.2.1 k hkk
  · rw [x _ (by omega)]; exact h3.ln
  · rw [x _ (by omega)]; exact h3.lk
  · by_cases e : w' = w ∧ l' = l
    · obtain ⟨rfl, rfl⟩ := e
      rw [shb_at, upN_at]
      exact hx
    · rw [x _ (by omega), upN_ne e]
      exact h3.gn hw' hl'
  · rw [x _ (by omega)]; exact h3.2.2.2.1 k hkk
  · have hS : Eqo (fun k m j => k = 13 ∧ m = 34 ∧ j = 8 + 8 * w + l) ((shb 4 υ).1, υ'.2) (shb 4 υ') := ⟨fun k m j q => by
      by_cases e : k = 13 ∧ m = 34
      · obtain ⟨rfl, rfl⟩ := e
        exact x j (by omega)
      · show (if k = 13 ∧ m = 34 then υ'.1 13 34 (410 * 4 + j) else υ'.1 k m j) = (if k = 13 ∧ m = 34 then υ.1 13 34 (410 * 4 + j) else υ.1 k m j)
        rw [if_neg e, if_neg e]
        exact hE2.at1 (by omega), fun _ _ _ _ => rfl⟩
    have h4' : RXV ((shb 4 υ).1, υ'.2) n (2 ^ n - 1) c 0 0 0 L := h4.of (fun _ _ => rfl)
    exact h4'.keep hS (fun j q => by omega)
  · rw [hE.2 _ _ _ (by omega), hE2.2 _ _ _ (by omega)]; exact h5 l' hl'
  · rw [hE.2 _ _ _ (by omega), hE2.2 _ _ _ (by omega)]; exact h6 k hkk
  · rw [hE2.at1 (by omega)]; exact h7 w' l' hw' g1 g2
  · rw [hE.at1 (by omega)]; exact h8
  · rw [hE2.at1 (by omega)]; exact h9
  · rw [hE.at1 (by omega)]; exact h10
theorem LR.ncf (h : LR n nk nu lo c L σ υ) (hE : Eqo NCf σ σ') (hE2 : Eqo NXf υ υ') : LR n nk nu lo c L σ' υ' := by
  obtain ⟨h1, h2, h3⟩ := h
  exact ⟨h1.ncf hE (eqw2 (eqw2 hE2 _ _ _ _) _ _ _ _), (hE2.at1 (by unfold NXf NX; omega)).trans h2, (hE2.at1 (by unfold NXf NX; omega)).trans h3⟩
theorem LR.set (h : LR n nk nu lo c L σ υ) {w v : Nat} (hv : okW w v) : ∃ τ, X0_setNumber σ 1 (nI w) (nI n) (nI v) = some τ ∧ Eqo (DC 1) σ τ ∧ LR n nk (upN nu w n v) lo c L τ (wI υ 13 34 (1640 + (8 + 8 * w + n)) (nI v)) := by
  obtain ⟨h1, h2, h3⟩ := h
  have hw6 := hv.1
  obtain ⟨τ, e, E, g⟩ := h1.setn (l := n) (by omega) hv
  have hE2 : Eqo (fun k m j => k = 13 ∧ m = 34 ∧ j = 1640 + (8 + 8 * w + n)) υ (wI υ 13 34 (1640 + (8 + 8 * w + n)) (nI v)) := Eqo.wI ⟨rfl, rfl, rfl⟩
  refine ⟨τ, e, E, g _ (eqw2 (eqw2 hE2 _ _ _ _) _ _ _ _) ?_, ?_, ?_⟩
  · unfold fin
    rw [wI_ne _ _ (by omega), wI_ne _ _ (by omega), wI_eq]
  · rw [wI_ne _ _ (by omega)]; exact h2
  · rw [wI_ne _ _ (by omega)]; exact h3
theorem pc4 {j : Nat} {x : Int32} (h : 1640 ≤ j ∧ j < 2050) : Eqo (PC 4) υ (wI υ 13 34 j x) := Eqo.wI (by unfold PC; omega)
theorem word_step (h : TK B S a σ υ) (h12 : υ.1 11 0 12 = 0) {k : Nat} {W : List Nat} (hk : WDS[k]? = some W) : ∃ w σ' υ', X5_passWord σ (nI k) = some (w, σ') ∧ X12_must υ (if wid B S a = some k then 1 else 0) = some υ' ∧ ((w = 1 ∧ Gon B S σ' υ') ∨ (w = 0 ∧ Flt σ' υ')) ∧ Eqo NCf σ σ' ∧ Eqo NXf υ υ' := by
  obtain ⟨v, w, σ', υ', e1, e2, e3, g⟩ := must_word h h12 hk
  have := e1.symm.trans (h.isw hk).2
  injection this with this
  rw [this] at e3
  exact ⟨w, σ', υ', e2, e3, g⟩
theorem ck16n {off n : Nat} (h : off + n < 2050) : ck (LN 13 34) (nI off + nI n) = some (off + n) := by
  rw [nI_add, ckc h]
/-- a number behind a word that may be left out -/
theorem opt_num (h : Gon B S σ υ) (hL : LR n nk nu lo c L σ υ) (hn : n < 8) {k w b hi off : Nat} {W : List Nat} (hk : WDS[k]? = some W) (hb : b < 1000) (hhi : hi < 1000) (hok : ∀ m, b ≤ m → m ≤ hi → okW w m) (hbh : b ≤ hi) (hoff : off = 1648 + 8 * w) {K J : SS → Option SS} (isK : SS → Option Int32) (hisK : ∀ {a : Nat} {σ υ : SS}, TK B S a σ υ → isK υ = some (if wid B S a = some k then 1 else 0)) (hJ : J υ = if υ.1 11 0 12 = 0 then ((isK υ).bind fun v => if v = 0 then K υ else ((X12_next υ).bind fun τ => (X12_count τ (nI b) (nI hi)).bind fun p => (ck (LN 13 34) (nI off + nI n)).bind fun j => (some (wI p.2 13 34 j p.1)).bind fun z => K z)) else K υ) : ∃ r σ' υ', X1_numberIs σ 1 (nI k) (nI n) (nI w) (nI b) (nI hi) = some (r, σ') ∧ J υ = K υ' ∧ Out B S (fun σ' υ' => ∃ nu', LR n nk nu' lo c L σ' υ') r σ' υ' ∧ Eqo CF σ σ' ∧ Eqo XF υ υ' := by
  obtain ⟨⟨a, hT⟩, h12⟩ := h
  have hw6 := (hok b (Nat.le_refl _) hbh).1
  have hk24 : k < 24 := (List.getElem?_eq_some_iff.mp hk).1
  have hm1 : ¬ nI k = -1 := ne_m1 (by omega)
  rw [if_pos h12, hisK hT, Option.bind_some] at hJ
  by_cases q : wid B S a = some k
  · rw [if_pos q, if_neg neg1_0] at hJ
    obtain ⟨a', σ1, υ1, e1, e2, hT1, E1, E2⟩ := hT.next
    have x12 : υ1.1 11 0 12 = 0 := (E2.at1 (by unfold NX; omega)).trans h12
    obtain ⟨x, y, σ2, υ2, f1, f2, f3, F1, F2⟩ := must_number hT1 x12 hb hhi
    rw [e2, Option.bind_some, f2, Option.bind_some, ck16n (by omega), Option.bind_some, Option.bind_some] at hJ
    have EC : Eqo CF σ σ2 := NCf_CF ((NC_NCf E1).tr F1)
    have EX : Eqo XF υ υ2 := NXf_XF ((NX_NXf E2).tr F2)
    rcases f3 with ⟨m, g1, g2, rfl, rfl, g5⟩ | ⟨rfl, rfl, g3⟩
    · have hL2 := hL.ncf ((NC_NCf E1).tr F1) ((NX_NXf E2).tr F2)
      obtain ⟨τ, t1, t2, t3⟩ := hL2.set (hok m g1 g2)
      rw [show 1640 + (8 + 8 * w + n) = off + n by omega] at t3
      have P4 : Eqo (PC 4) υ2 (wI υ2 13 34 (off + n) (nI m)) := pc4 (by omega)
      refine ⟨1, τ, _, ?_, hJ, .inl ⟨rfl, g5.dx t2 P4, _, t3⟩, EC.tr (DC_CF t2), EX.tr (PC_XF P4)⟩
      unfold X1_numberIs X1_numberIs_j0 X1_numberIs_j25
      rw [if_neg hm1, (hT.isw hk).1, Option.bind_some, if_pos q, if_neg neg1_0, e1, Option.bind_some, f1, Option.bind_some, if_neg (show ¬ nI m = -1 from ne_m1 (by omega)), t1, Option.bind_some]
    · have P4 : Eqo (PC 4) υ2 (wI υ2 13 34 (off + n) 0) := pc4 (by omega)
      refine ⟨0, σ2, _, ?_, hJ, .inr ⟨rfl, g3.dx (Eqo.rf _ _) P4⟩, EC, EX.tr (PC_XF P4)⟩
      unfold X1_numberIs X1_numberIs_j0 X1_numberIs_j25
      rw [if_neg hm1, (hT.isw hk).1, Option.bind_some, if_pos q, if_neg neg1_0, e1, Option.bind_some, f1, Option.bind_some, if_pos rfl]
  · rw [if_neg q, if_pos rfl] at hJ
    refine ⟨1, σ, υ, ?_, hJ, .inl ⟨rfl, ⟨⟨a, hT⟩, h12⟩, _, hL⟩, Eqo.rf _ _, Eqo.rf _ _⟩
    unfold X1_numberIs X1_numberIs_j0
    rw [if_neg hm1, (hT.isw hk).1, Option.bind_some, if_neg q, if_pos rfl]
/-- the two ends -/
theorem opt_ends (h : Gon B S σ υ) (hL : LR n nk nu lo c L σ υ) (hn : n < 8) : ∃ r σ' υ', X1_perhapsEnds σ 1 (nI n) = some (r, σ') ∧ X12_readLead_j120 υ (nI n) = X12_readLead_j172 υ' (nI n) ∧ Out B S (fun σ' υ' => ∃ nu', LR n nk nu' lo c L σ' υ') r σ' υ' ∧ Eqo CF σ σ' ∧ Eqo XF υ υ' := by
  obtain ⟨⟨a, hT⟩, h12⟩ := h
  have ck3 : ck (LN 13 34) (1664 + nI n) = some (1664 + n) := ck16n (off := 1664) (by omega)
  have ck4 : ck (LN 13 34) (1672 + nI n) = some (1672 + n) := ck16n (off := 1672) (by omega)
  have hJ : X12_readLead_j120 υ (nI n) = (if (if wid B S a = some 3 then (1 : Int32) else 0) = 0 then X12_readLead_j172 υ (nI n) else (X12_next υ).bind fun σ135 => (X12_count σ135 1 9).bind fun p151 => (ck (LN 13 34) (1664 + nI n)).bind fun j154 => (some (wI p151.2 13 34 j154 p151.1)).bind fun σ154 => (X12_count σ154 1 9).bind fun p168 => (ck (LN 13 34) (1672 + nI n)).bind fun j171 => (some (wI p168.2 13 34 j171 p168.1)).bind fun σ171 => X12_readLead_j172 σ171 (nI n)) := by
    unfold X12_readLead_j120
    rw [if_pos h12, xisEnds hT, Option.bind_some]
  by_cases q : wid B S a = some 3
  · rw [if_pos q, if_neg neg1_0] at hJ
    obtain ⟨a', σ1, υ1, e1, e2, hT1, E1, E2⟩ := hT.next
    have x12 : υ1.1 11 0 12 = 0 := (E2.at1 (by unfold NX; omega)).trans h12
    obtain ⟨x, y, σ2, υ2, f1, f2, f3, F1, F2⟩ := must_number hT1 x12 (lo := 1) (hi := 9) (by decide) (by decide)
    have f1' : X5_passNumber σ1 1 9 = some (x, σ2) := f1
    have f2' : X12_count υ1 1 9 = some (y, υ2) := f2
    rw [e2, Option.bind_some, f2', Option.bind_some, ck3, Option.bind_some, Option.bind_some] at hJ
    have EC : Eqo CF σ σ2 := NCf_CF ((NC_NCf E1).tr F1)
    have EX : Eqo XF υ υ2 := NXf_XF ((NX_NXf E2).tr F2)
    have eC : X1_perhapsEnds σ 1 (nI n) = if x = -1 then X1_perhapsEnds_j50 σ2 1 (nI n) x (-1) else ((X5_passNumber σ2 1 9).bind fun p47 => X1_perhapsEnds_j50 p47.2 1 (nI n) x p47.1) := by
      unfold X1_perhapsEnds X1_perhapsEnds_j0
      rw [show X5_wordIs σ 3 = _ from (hT.isw (k := 3) rfl).1, Option.bind_some, if_pos q, if_neg neg1_0, e1, Option.bind_some, f1', Option.bind_some]
    rcases f3 with ⟨m, g1, g2, rfl, rfl, g5⟩ | ⟨rfl, rfl, g3⟩
    · have hL2 := hL.ncf ((NC_NCf E1).tr F1) ((NX_NXf E2).tr F2)
      have P4 : Eqo (PC 4) υ2 (wI υ2 13 34 (1664 + n) (nI m)) := pc4 (by omega)
      rw [if_neg (show ¬ nI m = -1 from ne_m1 (by omega))] at eC
      obtain ⟨⟨a2, hT2⟩, x212⟩ := g5
      have hT2' : TK B S a2 σ2 (wI υ2 13 34 (1664 + n) (nI m)) := hT2.dx (Eqo.rf _ _) P4
      have x312 : (wI υ2 13 34 (1664 + n) (nI m)).1 11 0 12 = 0 := (P4.at1 (by unfold PC; omega)).trans x212
      obtain ⟨x', y', σ3, υ3, k1, k2, k3, K1, K2⟩ := must_number hT2' x312 (lo := 1) (hi := 9) (by decide) (by decide)
      have k1' : X5_passNumber σ2 1 9 = some (x', σ3) := k1
      have k2' : X12_count (wI υ2 13 34 (1664 + n) (nI m)) 1 9 = some (y', υ3) := k2
      rw [k2', Option.bind_some, ck4, Option.bind_some, Option.bind_some] at hJ
      rw [k1', Option.bind_some] at eC
      -- the same with the class's cell set behind both
      have ok2 : okW 2 m := ⟨by decide, by omega, by omega, by omega, by omega, by omega⟩
      obtain ⟨τ, t1, t2, t3⟩ := (hL2.ncf K1 (Eqo.rf _ _)).set ok2
      rw [show 1640 + (8 + 8 * 2 + n) = 1664 + n by omega] at t3
      have t1' : X0_setNumber σ3 1 2 (nI n) (nI m) = some τ := t1
      have EX3 : Eqo XF υ υ3 := (EX.tr (PC_XF P4)).tr (NXf_XF K2)
      rcases k3 with ⟨m', g1', g2', rfl, rfl, g5'⟩ | ⟨rfl, rfl, g3'⟩
      · have ok3 : okW 3 m' := ⟨by decide, by omega, by omega, by omega, by omega, by omega⟩
        have P5 : Eqo (PC 4) υ3 (wI υ3 13 34 (1672 + n) (nI m')) := pc4 (by omega)
        obtain ⟨τ', u1, u2, u3⟩ := (t3.ncf (Eqo.rf _ _) K2).set ok3
        rw [show 1640 + (8 + 8 * 3 + n) = 1672 + n by omega] at u3
        have u1' : X0_setNumber τ 1 3 (nI n) (nI m') = some τ' := u1
        refine ⟨1, τ', _, ?_, hJ, .inl ⟨rfl, g5'.dx (t2.tr u2) P5, _, u3⟩, ((EC.tr (NCf_CF K1)).tr (DC_CF t2)).tr (DC_CF u2), EX3.tr (PC_XF P5)⟩
        rw [eC]
        unfold X1_perhapsEnds_j50
        rw [t1', Option.bind_some, u1', Option.bind_some, if_neg (show ¬ nI m' = -1 from ne_m1 (by omega))]
      · have P5 : Eqo (PC 4) υ3 (wI υ3 13 34 (1672 + n) 0) := pc4 (by omega)
        obtain ⟨τ', u1, u2⟩ := setN_any (σ := τ) (w := 3) (l := n) (by decide) hn (-1)
        have u1' : X0_setNumber τ 1 3 (nI n) (-1) = some τ' := u1
        refine ⟨0, τ', _, ?_, hJ, .inr ⟨rfl, g3'.dx (t2.tr u2) P5⟩, ((EC.tr (NCf_CF K1)).tr (DC_CF t2)).tr (DC_CF u2), EX3.tr (PC_XF P5)⟩
        rw [eC]
        unfold X1_perhapsEnds_j50
        rw [t1', Option.bind_some, u1', Option.bind_some, if_pos rfl]
    · have P4 : Eqo (PC 4) υ2 (wI υ2 13 34 (1664 + n) 0) := pc4 (by omega)
      have P5 : Eqo (PC 4) (wI υ2 13 34 (1664 + n) 0) (wI (wI υ2 13 34 (1664 + n) 0) 13 34 (1672 + n) 0) := pc4 (by omega)
      have g4 : Flt σ2 (wI υ2 13 34 (1664 + n) 0) := g3.dx (Eqo.rf _ _) P4
      rw [count_no g4.pos.2.1 g4.pos.2.2, Option.bind_some, ck4, Option.bind_some, Option.bind_some] at hJ
      obtain ⟨τ, t1, t2⟩ := setN_any (σ := σ2) (w := 2) (l := n) (by decide) hn (-1)
      obtain ⟨τ', u1, u2⟩ := setN_any (σ := τ) (w := 3) (l := n) (by decide) hn (-1)
      have t1' : X0_setNumber σ2 1 2 (nI n) (-1) = some τ := t1
      have u1' : X0_setNumber τ 1 3 (nI n) (-1) = some τ' := u1
      refine ⟨0, τ', _, ?_, hJ, .inr ⟨rfl, g4.dx (t2.tr u2) P5⟩, (EC.tr (DC_CF t2)).tr (DC_CF u2), (EX.tr (PC_XF P4)).tr (PC_XF P5)⟩
      rw [eC, if_pos rfl]
      unfold X1_perhapsEnds_j50
      rw [t1', Option.bind_some, u1', Option.bind_some, if_pos rfl]
  · rw [if_neg q, if_pos rfl] at hJ
    refine ⟨1, σ, υ, ?_, hJ, .inl ⟨rfl, ⟨⟨a, hT⟩, h12⟩, _, hL⟩, Eqo.rf _ _, Eqo.rf _ _⟩
    unfold X1_perhapsEnds X1_perhapsEnds_j0
    rw [show X5_wordIs σ 3 = _ from (hT.isw (k := 3) rfl).1, Option.bind_some, if_neg q, if_pos rfl]
end OPN
