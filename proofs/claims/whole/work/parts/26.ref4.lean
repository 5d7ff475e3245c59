/-! ===== the reference: lumps, what a crossing costs ===== -/
def gJ (s0 : Nat) (m : Nat) (x : X3) : Nat := if x.2.2 ≠ 0 ∧ (s0.testBit x.1 = true ∨ s0.testBit x.2.1 = true) then m ||| both x else m
theorem gJ_sub (s0 : Nat) (L : List X3) (m : Nat) : Sub m (L.foldl (gJ s0) m) := by
  induction L generalizing m with
  | nil => exact Sub.rf m
  | cons x t ih =>
    refine Sub.tr ?_ (ih (gJ s0 m x))
    unfold gJ
    split
    · intro k hk
      rw [Nat.testBit_or, hk, Bool.true_or]
    · exact Sub.rf m
theorem gJ_in {s0 : Nat} {L : List X3} {x : X3} (hx : x ∈ L) (h0 : x.2.2 ≠ 0) (hm : s0.testBit x.1 = true ∨ s0.testBit x.2.1 = true) (m : Nat) : Sub (both x) (L.foldl (gJ s0) m) := by
  induction L generalizing m with
  | nil => cases hx
  | cons y t ih =>
    rcases List.mem_cons.mp hx with q | q
    · subst q
      refine Sub.tr ?_ (gJ_sub s0 t (gJ s0 m x))
      unfold gJ
      rw [if_pos ⟨h0, hm⟩]
      intro k hk
      rw [Nat.testBit_or, hk, Bool.or_true]
    · exact ih q _
theorem gJ_le {s0 T : Nat} {L : List X3} (hT : ∀ x ∈ L, x.2.2 ≠ 0 → (s0.testBit x.1 = true ∨ s0.testBit x.2.1 = true) → T.testBit x.1 = true ∧ T.testBit x.2.1 = true) {m : Nat} (hm : Sub m T) : Sub (L.foldl (gJ s0) m) T := by
  induction L generalizing m with
  | nil => exact hm
  | cons x t ih =>
    refine ih (fun y hy => hT y (List.mem_cons_of_mem _ hy)) ?_
    unfold gJ
    split
    · rename_i h
      have := hT x List.mem_cons_self h.1 h.2
      intro k hk
      rw [Nat.testBit_or, Bool.or_eq_true] at hk
      rcases hk with q | q
      · exact hm k q
      · rcases (both_tb x k).mp q with z | z
        · exact z ▸ this.1
        · exact z ▸ this.2
    · exact hm
theorem gJ_lt {s0 : Nat} {L : List X3} (hw : ∀ x ∈ L, x.1 < 8 ∧ x.2.1 < 8) {m : Nat} (hm : m < 256) : L.foldl (gJ s0) m < 256 := by
  have h255 : ∀ k, (255 : Nat).testBit k = true ↔ k < 8 := fun k => by
    have : (255 : Nat) = 2 ^ 8 - 1 := rfl
    rw [this, Nat.testBit_two_pow_sub_one, decide_eq_true_eq]
  have : Sub (L.foldl (gJ s0) m) 255 := gJ_le (fun x hx _ _ => ⟨(h255 _).mpr (hw x hx).1, (h255 _).mpr (hw x hx).2⟩) (fun k hk => (h255 k).mpr (tb_lt hm hk))
  exact lt256 (fun k hk => (h255 k).mp (this k hk))
section D3
variable {σ : SS} {n nk i c : Nat} {s p o : Int32} {nu : Nat → Nat → Nat} {lo : Nat → Nat} {L : List X3}
theorem xwf8 (hn : n ≤ 8) (h : RXV σ n i c s p o L) : ∀ x ∈ L, x.1 < 8 ∧ x.2.1 < 8 := fun x hx => ⟨Nat.lt_of_lt_of_le (h.wl.2 x hx).1 hn, Nat.lt_of_lt_of_le (h.wl.2 x hx).2.1 hn⟩
theorem xsizeOf {a : Nat} (ha : a < 256) : X12_sizeOf σ (nI a) = some (nI (popc a)) := by
  unfold X12_sizeOf X12_sizeOf_j0 X12_sizeOf_l4
  rw [iter_scan (s := (0, 0)) (List.range 8) (fun acc _ k => Sum.inl (acc + (if (a.testBit k) = true then 1 else 0))) (fun a => a) (fun a k => (a, nI k)) 0 rfl (by decide) (fun k x acc hk => ?_) (fun acc => ?_), scan_fold, foldl_cnt0 (fun k => a.testBit k)]
  · unfold popc
    rw [List.countP_eq_length_filter]
    rfl
  · obtain ⟨rfl, hk8⟩ := range_get hk
    show X12_sizeOf_l4c σ (nI a) acc (nI x) = _
    unfold X12_sizeOf_l4c X12_sizeOf_j24
    rw [if_neg (show ¬ (8 : Int32) ≤ nI x from nI_ge (a := x) (b := 8) hk8 (by decide)), xhas ha hk8, Option.bind_some, v01, Option.bind_some, Option.bind_some, nI_1]
  · show X12_sizeOf_l4c σ (nI a) acc (nI 8) = _
    unfold X12_sizeOf_l4c
    rw [if_pos (show (8 : Int32) ≤ nI 8 by decide)]
theorem xlump_in (hn : n ≤ 8) (h : RXV σ n i c s p o L) {s0 m : Nat} (hs : s0 < 256) (hm : m < 256) : iter (X12_lumpOf_l16b σ (nI s0)) NF (nI m, 0) = some (nI (L.foldl (gJ s0) m)) := by
  have h24 := h.l24
  rw [iter_scan (s := (nI m, 0)) L (fun (b : Nat) _ x => (Sum.inl (gJ s0 b x) : Nat ⊕ Int32)) (fun b => nI b) (fun b k => (nI b, nI k)) m rfl (by omega) (fun k x b hk => ?_) (fun b => ?_), scan_fold]
  · obtain ⟨h1, h2, h3, h4, h5, h6, h7, h8, h9⟩ := h.x hk
    show X12_lumpOf_l16c σ (nI s0) (nI b) (nI k) = _
    have s0' : nI 1 <<< (nI x.1 &&& nI 31) = nI (2 ^ x.1) := hsh (by omega)
    have s1' : nI 1 <<< (nI x.2.1 &&& nI 31) = nI (2 ^ x.2.1) := hsh (by omega)
    have hj : ∀ y, (nI b ||| ((1 <<< (σ.1 13 34 (60 + k) &&& 31)) ||| (1 <<< (σ.1 13 34 (84 + k) &&& 31)))) = y → y = nI (b ||| both x) := fun y hy => by
      rw [← hy, h7, h8]
      show nI b ||| ((nI 1 <<< (nI x.1 &&& nI 31)) ||| (nI 1 <<< (nI x.2.1 &&& nI 31))) = _
      rw [s0', s1', nI_or, nI_or]
      rfl
    have hj' := hj _ rfl
    unfold X12_lumpOf_l16c X12_lumpOf_j74 X12_lumpOf_j102
    rw [ck1, Option.bind_some, h.len, if_neg (nI_ge h2 (by omega)), ckS (by omega), Option.bind_some, h9, ckO (by omega), Option.bind_some, ckU (by omega), Option.bind_some, Option.bind_some, Option.bind_some, Option.bind_some, hj', Option.bind_some, h7, xhas hs (by omega), Option.bind_some, v01, h8, xhas hs (by omega)]
    simp only [Option.bind_some, v01, nI_1]
    unfold gJ
    by_cases z : x.2.2 = 0
    · rw [ez_t z, if_neg (fun q => q.1 z)]
    · rw [ez_f (Nat.pos_of_ne_zero z) (by omega)]
      by_cases q1 : s0.testBit x.1 = true
      · rw [if_pos q1, if_pos ⟨z, .inl q1⟩]
      · rw [if_neg q1]
        by_cases q2 : s0.testBit x.2.1 = true
        · rw [if_pos q2, if_pos ⟨z, .inr q2⟩]
        · rw [if_neg q2, if_neg (fun w => w.2.elim q1 q2)]
  · show X12_lumpOf_l16c σ (nI s0) (nI b) (nI L.length) = _
    unfold X12_lumpOf_l16c
    rw [ck1, Option.bind_some, h.len, if_pos (nI_le (Nat.le_refl _) (by omega))]
theorem xlumpOf (hs : RXS σ n nk nu lo) (h : RXV σ n i c s p o L) {l : Nat} (hl : l < n) (hil : i.testBit l = true) : X12_lumpOf σ (nI l) = some (nI (lumpF i L l)) ∧ IsLump i L l (lumpF i L l) := by
  have h8 := hs.n8
  have hw := xwf8 h8 h
  have hb : ∀ k, (2 ^ l).testBit k = true ↔ l = k := fun k => by rw [Nat.testBit_two_pow, decide_eq_true_eq]
  have key : ∃ t, iter (X12_lumpOf_l6b σ) NF (0, nI (2 ^ l)) = some t ∧ ∃ q, t = nI q ∧ IsLump i L l q := by
    refine iter_inv (fun (st : Int32 × Int32) => ∃ a b, st = (nI b, nI a) ∧ a < 256 ∧ b < 256 ∧ a.testBit l = true ∧ Sub b a ∧ (b ≠ 0 → L.foldl (gJ b) b = a) ∧ ∀ T, T.testBit l = true → Cld i L T → Sub a T) (fun st => 2 * (8 - popc st.2.toInt.toNat) + (if st.1 = st.2 then 0 else 1)) (fun t => ∃ q, t = nI q ∧ IsLump i L l q) (fun st hI => ?_) ⟨2 ^ l, 0, rfl, pow_lt8 (by omega), by decide, (hb l).mpr rfl, (fun k hk => by rw [Nat.zero_testBit] at hk; cases hk), fun z => absurd rfl z, fun T g1 _ k hk => by rw [← (hb k).mp hk]; exact g1⟩ (by
        show 2 * (8 - _) + (if _ then 0 else 1) < 2000000
        split <;> omega)
    obtain ⟨a, b, rfl, ha, hb', hal, hba, hfb, hT⟩ := hI
    by_cases e : b = a
    · right
      subst e
      have hb0 : b ≠ 0 := fun z => by rw [z, Nat.zero_testBit] at hal; cases hal
      have hfix := hfb hb0
      refine ⟨nI b, ?_, b, rfl, ha, fun _ => hal, ?_, fun T g1 g2 => hT T (g1 hil) g2⟩
      · show X12_lumpOf_l6c σ (nI b) (nI b) = _
        unfold X12_lumpOf_l6c
        rw [if_pos rfl]
      · intro x hx ht hm
        have := gJ_in (s0 := b) hx ht.1 hm b
        rw [hfix] at this
        exact ⟨this _ ((both_tb x _).mpr (.inl rfl)), this _ ((both_tb x _).mpr (.inr rfl))⟩
    · left
      have hF := gJ_lt (s0 := a) hw ha
      have hsub := gJ_sub a L a
      refine ⟨(nI a, nI (L.foldl (gJ a) a)), ?_, ⟨L.foldl (gJ a) a, a, rfl, hF, ha, hsub l hal, hsub, fun _ => rfl, fun T g1 g2 => gJ_le (fun x hx h0 hm => g2 x hx ⟨h0, h.inn x hx⟩ (hm.imp (hT T g1 g2 _) (hT T g1 g2 _))) (hT T g1 g2)⟩, ?_⟩
      · show X12_lumpOf_l6c σ (nI b) (nI a) = _
        unfold X12_lumpOf_l6c X12_lumpOf_l16
        rw [eq_f e (by omega) (by omega), xlump_in h8 h ha ha, Option.bind_some]
      · show 2 * (8 - popc (nI (L.foldl (gJ a) a)).toInt.toNat) + (if nI a = nI (L.foldl (gJ a) a) then 0 else 1) < 2 * (8 - popc (nI a).toInt.toNat) + (if nI b = nI a then 0 else 1)
        rw [nI_toInt (by omega), nI_toInt (by omega), Int.toNat_natCast, Int.toNat_natCast, if_neg (fun z => e ((nI_eq (by omega) (by omega)).mp z))]
        by_cases e2 : a = L.foldl (gJ a) a
        · rw [if_pos (congrArg nI e2), ← e2]
          omega
        · rw [if_neg (fun z => e2 ((nI_eq (by omega) (by omega)).mp z))]
          have := popc_lt hF hsub e2
          have := popc_le (L.foldl (gJ a) a)
          omega
  obtain ⟨t, e, q, rfl, hq⟩ := key
  have hqq := lumpF_is hq
  rw [← hqq]
  refine ⟨?_, hq⟩
  unfold X12_lumpOf X12_lumpOf_j0 X12_lumpOf_l6
  have e1 : 1 <<< (nI l &&& 31) = nI (2 ^ l) := hsh (by omega)
  rw [e1, Option.bind_some, e, Option.bind_some]
theorem xcostOf (hs : RXS σ n nk nu lo) (h : RXV σ n i c s p o L) {k l : Nat} {x : X3} (hk : L[k]? = some x) (hq : qO l x = true) (hl : l < n) : X12_costOf σ (nI k) (nI l) = some (nI (costC nu l x)) := by
  have h8' := hs.n8
  obtain ⟨h1, h2, h3, h4, h5, h6, h7, h8, h9⟩ := h.x hk
  have hol := oth_lt (l := l) h3 h4
  have hst : X12_secondsOf σ (nI x.2.2) = some (nI (sUndo x.2.2)) := by
    unfold X12_secondsOf X12_secondsOf_j0 sUndo
    have : x.2.2 = 0 ∨ x.2.2 = 1 ∨ x.2.2 = 2 ∨ x.2.2 = 3 := by omega
    rcases this with z | z | z | z <;> rw [z] <;> decide
  have g16 := hs.gn (w := 1) (by decide) hol
  unfold X12_costOf X12_costOf_j0 X12_costOf_j52 costC
  rw [ckS (by omega), Option.bind_some, h9, hst, Option.bind_some, ckO (by omega), Option.bind_some, h7, ckU (by omega), Option.bind_some, Option.bind_some, h7, h8]
  by_cases a : x.1 = l
  · have ho : oth l x = x.2.1 := by unfold oth; rw [if_pos a]
    rw [ho] at g16 ⊢
    rw [eq_t a, ck16 (by omega), Option.bind_some, show 16 + x.2.1 = 8 + 8 * 1 + x.2.1 by omega, g16, nI_add]
  · have ho : oth l x = x.1 := by unfold oth; rw [if_neg a]
    rw [ho] at g16 ⊢
    rw [eq_f a (by omega) (by omega), ck16 (by omega), Option.bind_some, show 16 + x.1 = 8 + 8 * 1 + x.1 by omega, g16, nI_add]
end D3
