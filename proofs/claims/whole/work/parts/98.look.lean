/-! ===== TEXTS: a look ===== -/
/-- the reference, as if the look that is read were told already -/
def finL (nk s : Nat) (υ : SS) : SS := wI (wI υ 13 34 (1696 + nk) (nI s)) 13 34 1642 (nI (nk + 1))
def upL (lo : Nat → Nat) (nk s : Nat) : Nat → Nat := fun k => if k = nk then s else lo k
/-- while a look is read: s are its leads up to here -/
def LK (n nk : Nat) (nu : Nat → Nat → Nat) (lo : Nat → Nat) (c : Nat) (L : List X3) (s : Nat) (σ υ : SS) : Prop := DT n (nk + 1) nu (upL lo nk s) c L σ (finL nk s υ) ∧ υ.1 13 34 1642 = nI nk ∧ nk < 3 ∧ s < 2 ^ n
section LKP
variable {σ υ σ' υ' : SS} {n nk c s : Nat} {nu : Nat → Nat → Nat} {lo : Nat → Nat} {L : List X3} {B : Nat → Nat} {S a : Nat}
/-- a set of leads is put -/
theorem DT.setl {τ : SS} (h : DT n nk nu lo c L σ υ) {k s : Nat} (hk : k < nk) (hs : s < 2 ^ n) (hE : Eqo (fun a b j => a = 13 ∧ b = 7 ∧ j = k) σ τ) (hc : τ.1 13 7 k = nI s) (hE2 : Eqo (fun a b j => a = 13 ∧ b = 34 ∧ j = 1696 + k) υ υ') (hx : υ'.1 13 34 (1696 + k) = nI s) : DT n nk nu (upL lo k s) c L τ υ' := by
  obtain ⟨h1, h2, h3, h4, h5, h6, h7, h8, h9, h10⟩ := h
  have hn := h1.n8
  have hk3 := h1.k3
  have hwf : wfS n nk nu (upL lo k s) := by
    obtain ⟨w1, w2, w3, w4⟩ := h1.wf
    refine ⟨w1, w2, w3, fun m hm => ?_⟩
    unfold upL
    split
    · exact hs
    · exact w4 m hm
  have x : ∀ j, j ≠ 56 + k → (shb 4 υ').1 13 34 j = (shb 4 υ).1 13 34 j := fun j hj => by
    rw [shb_at, shb_at]
    exact hE2.at1 (by omega)
  refine ⟨⟨(hE.at1 (by omega)).trans h1.1, (hE.at1 (by omega)).trans h1.2.1, fun w' l' hw' hl' => ?_, fun l' hl' => ?_, fun m hm => ?_, hwf⟩, h2.keep hE (fun a b j q => by omega), ⟨?_, ?_, fun w' l' hw' hl' => ?_, fun m hm => ?_, hwf⟩, ⟨?_, ?_, ?_, ?_, ?_, ?_, ?_, h4.ilt, h4.wl, h4.inn, h4.sub⟩, fun l' hl' => ?_, fun m hm => ?_, fun w' l' hw' g1 g2 => ?_, ?_, ?_, ?_⟩
  · rw [hE.at1 (by omega)]; exact h1.2.2.1 w' l' hw' hl'
  · rw [hE.at1 (by omega)]; exact h1.2.2.2.1 l' hl'
  · show τ.1 13 7 m = _
    unfold upL
    by_cases e : m = k
    · rw [if_pos e, e]; exact hc
    · rw [if_neg e, hE.at1 (by omega)]; exact h1.2.2.2.2.1 m hm
  · rw [x _ (by omega)]; exact h3.ln
  · rw [x _ (by omega)]; exact h3.lk
  · rw [x _ (by omega)]; exact h3.gn hw' hl'
  · unfold upL
    by_cases e : m = k
    · rw [if_pos e, e, shb_at, show 410 * 4 + (56 + k) = 1696 + k by omega]; exact hx
    · rw [if_neg e, x _ (by omega)]; exact h3.2.2.2.1 m hm
  · rw [x _ (by omega)]; exact h4.len
  · rw [x _ (by omega)]; exact h4.ins
  · rw [x _ (by omega)]; exact h4.clp
  · rw [x _ (by omega)]; exact h4.sec
  · rw [x _ (by omega)]; exact h4.pen
  · rw [x _ (by omega)]; exact h4.opn
  · intro j y hy
    have := h4.cr j y hy
    unfold xf at this ⊢
    rw [x _ (by omega), x _ (by omega), x _ (by omega)]
    exact this
  · rw [hE.2 _ _ _ (by omega), hE2.2 _ _ _ (by omega)]; exact h5 l' hl'
  · rw [hE.2 _ _ _ (by omega), hE2.2 _ _ _ (by omega)]; exact h6 m hm
  · rw [hE2.at1 (by omega)]; exact h7 w' l' hw' g1 g2
  · rw [hE.at1 (by omega)]; exact h8
  · rw [hE2.at1 (by omega)]; exact h9
  · rw [hE.at1 (by omega)]; exact h10
/-- a look more, empty -/
theorem DT.newk {τ : SS} (h : DT n nk nu lo c L σ υ) (hk : nk < 3) (hE : Eqo (fun a b j => (a = 0 ∧ b = 1 ∧ j = 7) ∨ (a = 13 ∧ b = 7 ∧ j = nk) ∨ (a = 14 ∧ b = 1 ∧ j = 8 + nk)) σ τ) (a7 : τ.1 0 1 7 = nI (nk + 1)) (hc : τ.1 13 7 nk = nI 0) (hE2 : Eqo (fun a b j => (a = 13 ∧ b = 34 ∧ (j = 1642 ∨ j = 1696 + nk)) ∨ (a = 14 ∧ b = 7 ∧ j = 52 + nk)) υ υ') (x2 : υ'.1 13 34 1642 = nI (nk + 1)) (hx : υ'.1 13 34 (1696 + nk) = nI 0) (hN : τ.2 14 1 (8 + nk) = υ'.2 14 7 (52 + nk)) : DT n (nk + 1) nu (upL lo nk 0) c L τ υ' := by
  obtain ⟨h1, h2, h3, h4, h5, h6, h7, h8, h9, h10⟩ := h
  have hn := h1.n8
  have hwf : wfS n (nk + 1) nu (upL lo nk 0) := by
    obtain ⟨w1, w2, w3, w4⟩ := h1.wf
    refine ⟨w1, by omega, w3, fun m hm => ?_⟩
    unfold upL
    split
    · exact Nat.pow_pos (by decide)
    · exact w4 m (by omega)
  have x : ∀ j, ¬ (j = 2 ∨ j = 56 + nk) → (shb 4 υ').1 13 34 j = (shb 4 υ).1 13 34 j := fun j hj => by
    rw [shb_at, shb_at]
    exact hE2.at1 (by omega)
  refine ⟨⟨(hE.at1 (by omega)).trans h1.1, a7, fun w' l' hw' hl' => ?_, fun l' hl' => ?_, fun m hm => ?_, hwf⟩, h2.keep hE (fun a b j q => by omega), ⟨?_, ?_, fun w' l' hw' hl' => ?_, fun m hm => ?_, hwf⟩, ⟨?_, ?_, ?_, ?_, ?_, ?_, ?_, h4.ilt, h4.wl, h4.inn, h4.sub⟩, fun l' hl' => ?_, fun m hm => ?_, fun w' l' hw' g1 g2 => ?_, ?_, ?_, ?_⟩
  · rw [hE.at1 (by omega)]; exact h1.2.2.1 w' l' hw' hl'
  · rw [hE.at1 (by omega)]; exact h1.2.2.2.1 l' hl'
  · show τ.1 13 7 m = _
    unfold upL
    by_cases e : m = nk
    · rw [if_pos e, e]; exact hc
    · rw [if_neg e, hE.at1 (by omega)]; exact h1.2.2.2.2.1 m (by omega)
  · rw [x _ (by omega)]; exact h3.ln
  · rw [shb_at]; exact x2
  · rw [x _ (by omega)]; exact h3.gn hw' hl'
  · unfold upL
    by_cases e : m = nk
    · rw [if_pos e, e, shb_at, show 410 * 4 + (56 + nk) = 1696 + nk by omega]; exact hx
    · rw [if_neg e, x _ (by omega)]; exact h3.2.2.2.1 m (by omega)
  · rw [x _ (by omega)]; exact h4.len
  · rw [x _ (by omega)]; exact h4.ins
  · rw [x _ (by omega)]; exact h4.clp
  · rw [x _ (by omega)]; exact h4.sec
  · rw [x _ (by omega)]; exact h4.pen
  · rw [x _ (by omega)]; exact h4.opn
  · intro j y hy
    have := h4.cr j y hy
    unfold xf at this ⊢
    rw [x _ (by omega), x _ (by omega), x _ (by omega)]
    exact this
  · rw [hE.2 _ _ _ (by omega), hE2.2 _ _ _ (by omega)]; exact h5 l' hl'
  · by_cases e : m = nk
    · rw [e]; exact hN
    · rw [hE.2 _ _ _ (by omega), hE2.2 _ _ _ (by omega)]; exact h6 m (by omega)
  · rw [hE2.at1 (by omega)]; exact h7 w' l' hw' g1 g2
  · rw [hE.at1 (by omega)]; exact h8
  · rw [hE2.at1 (by omega)]; exact h9
  · rw [hE.at1 (by omega)]; exact h10
theorem lo_put (hk : nk < 3) (x : Int32) : X4_put σ (4 * 1 + 3) 0 (nI nk) x = some (wI σ 13 7 nk x) := by
  obtain ⟨-, -, -, -, -, -, h1, h2⟩ := T_d 1 (by decide)
  have := put_ok σ (t := 4 * 1 + 3) (r := 0) (c := nk) x (by decide) (by rw [h1]; decide) (by rw [h2]; exact hk)
  rw [Nat.zero_mul, Nat.zero_add] at this
  exact this
theorem addLook_ok (h : DT n nk nu lo c L σ υ) (hk : nk < 3) (y : Int64) : ∃ τ, X0_addLook σ 1 y = some (nI nk, τ) ∧ τ.2 14 1 (8 + nk) = y ∧ τ.1 0 1 7 = nI (nk + 1) ∧ τ.1 13 7 nk = nI 0 ∧ Eqo (fun a b j => (a = 0 ∧ b = 1 ∧ j = 7) ∨ (a = 13 ∧ b = 7 ∧ j = nk) ∨ (a = 14 ∧ b = 1 ∧ j = 8 + nk)) σ τ := by
  have h7 := h.1.lk
  have hl : LN 14 1 = 11 := by decide
  have g7 : (wI (wJ σ 14 1 (8 + nk) y) 13 7 nk 0).1 0 1 7 = nI nk := by rw [wI_ne _ _ (by omega)]; exact h7
  refine ⟨wI (wI (wJ σ 14 1 (8 + nk) y) 13 7 nk 0) 0 1 7 (nI (nk + 1)), ?_, ?_, ?_, ?_, ?_⟩
  · unfold X0_addLook X0_addLook_j0
    rw [h7, Option.bind_some, Option.bind_some, if_neg (nI_pos (by omega)), if_neg (show ¬ (3 : Int32) ≤ nI nk from nI_ge (b := 3) hk (by decide)), hl, show (8 : Int32) + nI nk = nI (8 + nk) from nI_add 8 nk, if_neg (nI_ge (by omega) (by decide)), ck_nI (by omega) (by decide), Option.bind_some, Option.bind_some, lo_put hk, Option.bind_some, g7, nI_1, Option.bind_some]
  · exact wJ_eq _ _ _ _ _
  · exact wI_eq _ _ _ _ _
  · rw [wI_ne _ _ (by omega), wI_eq]; rfl
  · exact ((Eqo.wJ (by omega)).tr (Eqo.wI (by omega))).tr (Eqo.wI (by omega))
theorem LK.ncf (h : LK n nk nu lo c L s σ υ) (hE : Eqo NCf σ σ') (hE2 : Eqo NXf υ υ') : LK n nk nu lo c L s σ' υ' := by
  obtain ⟨h1, h2, h3⟩ := h
  exact ⟨h1.ncf hE (eqw2 (eqw2 hE2 _ _ _ _) _ _ _ _), (hE2.at1 (by unfold NXf NX; omega)).trans h2, h3⟩
theorem LK.nc (h : LK n nk nu lo c L s σ υ) (hE : Eqo NC σ σ') (hE2 : Eqo NX υ υ') : LK n nk nu lo c L s σ' υ' := h.ncf (NC_NCf hE) (NX_NXf hE2)
/-- whose name, while a look is read -/
theorem LK.who (hL : LK n nk nu lo c L s σ υ) (h : TK B S a σ υ) (h12 : υ.1 11 0 12 = 0) : (∃ y l, l < n ∧ tkK B S a = 1 ∧ X1_toldNameStands σ 1 = some (1, σ) ∧ X5_name σ = some y ∧ X0_leadNamed σ 1 y = some (nI l) ∧ X12_told υ 4 = some (nI l, υ)) ∨ (∃ σ' υ', X1_toldNameStands σ 1 = some (0, σ') ∧ X12_told υ 4 = some (0, υ') ∧ Flt σ' υ' ∧ Eqo NCf σ σ' ∧ Eqo NXf υ υ') := by
  obtain ⟨hD, l2, l3, l4⟩ := hL
  have x0 := hD.x0.1
  unfold finL at x0
  rw [wI_ne _ _ (by omega), wI_ne _ _ (by omega)] at x0
  have hn := hD.1.n8
  rcases who_ok h h12 (d := 1) (b := 4) (by decide) (by decide) hD.1.ln x0 hn hD.2.2.2.2.1 with ⟨y, l, g1, g2, g3, g4, g5, g6⟩ | ⟨y, σ', υ', g3, g4, g5, g6, g7, g8⟩ | ⟨σ', υ', g3, g6, g7, g8⟩
  · refine .inl ⟨y, l, g1, g2, ?_, g4, g5, g6⟩
    unfold X1_toldNameStands X1_toldNameStands_j0
    rw [g3, Option.bind_some, if_neg neg1_0, g4, Option.bind_some, g5, Option.bind_some, if_neg (show ¬ nI l = -1 from ne_m1 (by omega))]
  · refine .inr ⟨σ', υ', ?_, g7, g8⟩
    unfold X1_toldNameStands X1_toldNameStands_j0
    rw [g3, Option.bind_some, if_neg neg1_0, g4, Option.bind_some, g5, Option.bind_some, if_pos rfl, g6, Option.bind_some]
    rfl
  · refine .inr ⟨σ', υ', ?_, g7, g8⟩
    unfold X1_toldNameStands X1_toldNameStands_j0
    rw [g3, Option.bind_some, if_pos rfl, g6, Option.bind_some]
    rfl
/-- one lead of a look -/
theorem look_step (hL : LK n nk nu lo c L s σ υ) (h : TK B S a σ υ) (h12 : υ.1 11 0 12 = 0) : ∃ r σ' υ' x mo, X1_lookLead σ 1 (nI nk) = some (r, σ') ∧ X12_readLook_l44b (nI nk) (nI s, 1, υ) = some (Sum.inl (x, mo, υ')) ∧ ((r = 1 ∧ ∃ a' l, l < 8 ∧ s.testBit l = false ∧ x = nI (s ||| 2 ^ l) ∧ TK B S a' σ' υ' ∧ υ'.1 11 0 12 = 0 ∧ (mo = if tkK B S a' = 1 then 1 else 0) ∧ LK n nk nu lo c L (s ||| 2 ^ l) σ' υ') ∨ (r = 0 ∧ Flt σ' υ')) ∧ Eqo CF σ σ' ∧ Eqo XF υ υ' := by
  have hn := hL.1.1.n8
  have eX : X12_readLook_l44b (nI nk) (nI s, 1, υ) = (X12_told υ 4).bind fun p57 => if (p57.2.1 11 0 12) = 0 then ((X12_has p57.2 (nI s) p57.1).bind fun v72 => if v72 = 0 then (X12_readLook_j87 p57.2 (nI nk) (nI s) p57.1) else ((X12_fail p57.2 5 (p57.2.1 11 0 15)).bind fun σ84 => X12_readLook_j87 σ84 (nI nk) (nI s) p57.1)) else (X12_readLook_j87 p57.2 (nI nk) (nI s) p57.1) := by
    show X12_readLook_l44c υ (nI nk) (nI s) 1 = _
    unfold X12_readLook_l44c
    rw [if_pos h12, if_neg neg1_0]
  have j87 : ∀ (σa w : SS) (x4 : Int32), Flt σa w → ∃ x mo, X12_readLook_j87 w (nI nk) (nI s) x4 = some (Sum.inl (x, mo, w)) := fun σa w x4 g => by
    unfold X12_readLook_j87 X12_readLook_j112
    rw [must_no g.pos.2.1, Option.bind_some, Option.bind_some]
    exact ⟨_, _, rfl⟩
  rw [eX]
  rcases hL.who h h12 with ⟨y, l, g1, g2, g3, g4, g5, g6⟩ | ⟨σ', υ', g3, g4, g5, g6, g7⟩
  rotate_left
  · obtain ⟨x, mo, e⟩ := j87 σ' υ' 0 g5
    refine ⟨0, σ', υ', x, mo, ?_, ?_, .inr ⟨rfl, g5⟩, NCf_CF g6, NXf_XF g7⟩
    · unfold X1_lookLead X1_lookLead_j0
      rw [g3, Option.bind_some, if_pos rfl]
    · rw [g4, Option.bind_some, if_neg g5.pos.2.2, e]
  have hs256 : s < 256 := Nat.lt_of_lt_of_le hL.2.2.2 (by
    have : (256 : Nat) = 2 ^ 8 := rfl
    rw [this]; exact Nat.pow_le_pow_right (by decide) hn)
  have hk3 := hL.2.2.1
  have hhas := xhas (σ := υ) hs256 (show l < 8 by omega)
  have c7 : σ.1 13 7 nk = nI s := by
    have := hL.1.1.2.2.2.2.1 nk (by omega)
    unfold upL at this
    rw [if_pos rfl] at this
    exact this
  have hat : X4_at σ (4 * 1 + 3) 0 (nI nk) = some (nI s) := by
    rw [← c7]
    exact lo_at (d := 1) (by decide) hk3
  have hhl : X0_hasLook σ 1 (nI nk) = some 1 := by
    unfold X0_hasLook X0_hasLook_j0
    rw [if_neg (nI_pos (by omega)), hL.1.1.lk, if_neg (nI_ge (by omega) (by omega))]
  have hset : X0_lookSet σ 1 (nI nk) = some (nI s) := by
    unfold X0_lookSet X0_lookSet_j0
    rw [hhl, Option.bind_some, if_neg neg1_0, hat, Option.bind_some]
  have hl8 : l < 8 := by omega
  have eC : X1_lookLead σ 1 (nI nk) = if s.testBit l = true then ((X5_fail σ 5).bind fun p40 => (zb p40.1).bind fun b43 => some (p40.1, p40.2)) else ((X0_addToLook σ 1 (nI nk) (nI l)).bind fun σ47 => (X5_next σ47).bind fun σ54 => some (1, σ54)) := by
    unfold X1_lookLead X1_lookLead_j0
    rw [g3, Option.bind_some, if_neg neg1_0, g4, Option.bind_some, g5, Option.bind_some, hset, Option.bind_some, bit1 hs256 hl8]
  rw [g6, Option.bind_some, if_pos h12, hhas, Option.bind_some]
  by_cases q : s.testBit l = true
  · obtain ⟨σ1, υ1, f1, f2, f3, f4, f5⟩ := h.fail h12 (x := 5) (by decide) (by rw [g2]; decide)
    have f1' : X5_fail σ 5 = some (0, σ1) := f1
    have f2' : X12_fail υ 5 (υ.1 11 0 15) = some υ1 := f2
    obtain ⟨x, mo, e⟩ := j87 σ1 υ1 (nI l) f3
    refine ⟨0, σ1, υ1, x, mo, ?_, ?_, .inr ⟨rfl, f3⟩, NCf_CF f4, NXf_XF f5⟩
    · rw [eC, if_pos q, f1', Option.bind_some]
      rfl
    · rw [if_pos q, if_neg neg1_0, f2', Option.bind_some, e]
  · have hsl : s ||| 2 ^ l < 2 ^ n := by
      have hs : Sub (s ||| 2 ^ l) (2 ^ n - 1) := fun k hk => by
        rw [Nat.testBit_or, Nat.testBit_two_pow] at hk
        rw [Nat.testBit_two_pow_sub_one]
        by_cases z : s.testBit k = true
        · by_cases z2 : k < n
          · simpa using z2
          · rw [tb_out hL.2.2.2 (by omega)] at z
            cases z
        · simp [z] at hk
          simp
          omega
      have h1 := sub_and hs
      have h2 : s ||| 2 ^ l ≤ 2 ^ n - 1 := by rw [← h1]; exact Nat.and_le_right
      have h3 : 0 < 2 ^ n := Nat.pow_pos (by decide)
      omega
    have hadd : X0_addToLook σ 1 (nI nk) (nI l) = some (wI σ 13 7 nk (nI (s ||| 2 ^ l))) := by
      unfold X0_addToLook X0_addToLook_j0
      rw [hhl, Option.bind_some, if_neg neg1_0, has_in hL.1.1 g1, Option.bind_some, if_neg neg1_0, hat, Option.bind_some, show nI s ||| ((1 : Int32) <<< (nI l &&& 31)) = nI (s ||| 2 ^ l) by
        rw [show (1 : Int32) <<< (nI l &&& 31) = nI (2 ^ l) from hsh (by omega), nI_or], lo_put hk3, Option.bind_some]
    have hE1 : Eqo (fun a b j => a = 13 ∧ b = 7 ∧ j = nk) σ (wI σ 13 7 nk (nI (s ||| 2 ^ l))) := Eqo.wI ⟨rfl, rfl, rfl⟩
    have hE1d : Eqo (DC 1) σ (wI σ 13 7 nk (nI (s ||| 2 ^ l))) := hE1.mono (fun a b j q => by unfold DC; omega)
    have hK1 : LK n nk nu lo c L (s ||| 2 ^ l) (wI σ 13 7 nk (nI (s ||| 2 ^ l))) υ := by
      refine ⟨?_, hL.2.1, hk3, hsl⟩
      have : upL lo nk (s ||| 2 ^ l) = upL (upL lo nk s) nk (s ||| 2 ^ l) := by
        funext k
        unfold upL
        by_cases e : k = nk
        · rw [if_pos e, if_pos e]
        · rw [if_neg e, if_neg e, if_neg e]
      rw [this]
      refine hL.1.setl (k := nk) (by omega) hsl hE1 (wI_eq _ _ _ _ _) ⟨fun a b j q => ?_, fun _ _ _ _ => rfl⟩ ?_
      · unfold finL
        by_cases e : a = 13 ∧ b = 34 ∧ j = 1642
        · obtain ⟨rfl, rfl, rfl⟩ := e
          rw [wI_eq, wI_eq]
        · rw [wI_ne _ _ e, wI_ne _ _ e, wI_ne _ _ (by omega), wI_ne _ _ (by omega)]
      · unfold finL
        rw [wI_ne _ _ (by omega), wI_eq]
    obtain ⟨a', σ2, υ2, k1, k2, k3, k4, k5⟩ := (h.dx hE1d (Eqo.rf _ υ)).next
    have y14 : υ2.1 11 0 14 = nI (tkK B S a') := k3.2.2.2.2.2.2.2.2.2.2.1
    refine ⟨1, σ2, υ2, nI (s ||| 2 ^ l), (if tkK B S a' = 1 then 1 else 0), ?_, ?_, .inl ⟨rfl, a', l, by omega, by simpa using q, rfl, k3, (k5.at1 (by unfold NX; omega)).trans h12, rfl, hK1.nc k4 k5⟩, (DC_CF hE1d).tr (NC_CF k4), NX_XF k5⟩
    · rw [eC, if_neg q, hadd, Option.bind_some, k1, Option.bind_some]
    · rw [if_neg q, if_pos rfl]
      unfold X12_readLook_j87 X12_readLook_j112 X12_must X12_must_j0
      rw [h12, if_pos (by decide), if_neg neg1_0, k2, Option.bind_some, show nI s ||| ((1 : Int32) <<< (nI l &&& 31)) = nI (s ||| 2 ^ l) by
        rw [show (1 : Int32) <<< (nI l &&& 31) = nI (2 ^ l) from hsh (by omega), nI_or], Option.bind_some, y14]
      have hkl := tkK_le B S a'
      by_cases z : tkK B S a' = 1
      · rw [if_pos z, if_pos (by rw [z]; rfl), Option.bind_some]
      · rw [if_neg z, if_neg (show ¬ nI (tkK B S a') = 1 from wne z (by omega) (by decide)), Option.bind_some]
end LKP
