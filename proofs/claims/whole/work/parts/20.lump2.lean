/-! ===== the class: lumps ===== -/
section C4
variable {σ : SS} {d n nk i c : Nat} {s p o : Int32} {nu : Nat → Nat → Nat} {lo : Nat → Nat} {L : List X3}
theorem crossingAt_ok (hd : d < 5) (h : RV σ d n i c s p o L) {k : Nat} {x : X3} (hk : L[k]? = some x) : X0_crossingAt σ d 0 (nI k) = some (nI x.1) ∧ X0_crossingAt σ d 1 (nI k) = some (nI x.2.1) ∧ X0_crossingAt σ d 2 (nI k) = some (nI x.2.2) := by
  obtain ⟨h1, h2, h3, h4, h5, h6, h7, h8, h9⟩ := h.x hk
  unfold X0_crossingAt X0_crossingAt_j0
  refine ⟨?_, ?_, ?_⟩
  · simp (disch := omega) only [lits, le_t, le_f, lt_t, lt_f, eq_t, eq_f, em_f, me_f, nI_add, nI_subN, pk_mul, Option.bind_some, ck_nI, lens, wI_eq, wI_ne, if_true, if_false, ite_true, ite_false, eq_self, Bool.false_eq_true, Nat.zero_add, Nat.add_zero, cr_at hd, h7]
  · simp (disch := omega) only [lits, le_t, le_f, lt_t, lt_f, eq_t, eq_f, em_f, me_f, nI_add, nI_subN, pk_mul, Option.bind_some, ck_nI, lens, wI_eq, wI_ne, if_true, if_false, ite_true, ite_false, eq_self, Bool.false_eq_true, Nat.zero_add, Nat.add_zero, cr_at hd, h8]
  · simp (disch := omega) only [lits, le_t, le_f, lt_t, lt_f, eq_t, eq_f, em_f, me_f, nI_add, nI_subN, pk_mul, Option.bind_some, ck_nI, lens, wI_eq, wI_ne, if_true, if_false, ite_true, ite_false, eq_self, Bool.false_eq_true, Nat.zero_add, Nat.add_zero, cr_at hd, h9]
theorem wf8 (hn : n ≤ 8) (h : RV σ d n i c s p o L) : ∀ x ∈ L, x.1 < 8 ∧ x.2.1 < 8 := fun x hx => ⟨Nat.lt_of_lt_of_le (h.wl.2 x hx).1 hn, Nat.lt_of_lt_of_le (h.wl.2 x hx).2.1 hn⟩
theorem both_lt {x : X3} (h0 : x.1 < 8) (h1 : x.2.1 < 8) : both x < 256 := lt256 (fun k hk => by
  rcases (both_tb x k).mp hk with z | z <;> omega)
theorem and_lt {a b : Nat} (h : a < 256) : a &&& b < 256 := Nat.lt_of_le_of_lt Nat.and_le_left h
theorem around_in (hd : d < 5) (hn : n ≤ 8) (h : RV σ d n i c s p o L) {m : Nat} (hm : m < 256) (x4 x5 : Int32) {a : Nat} (ha : a < 256) : iter (X3_around_l43b σ d (nI m) x4 x5) NF (nI a, 0) = some (nI (L.foldl (gB m) a)) := by
  have h24 := h.l24
  have key : iter (X3_around_l43b σ d (nI m) x4 x5) NF (nI a, 0) = some (scan (fun (b : Nat) _ x => (Sum.inl (gB m b x) : Nat ⊕ Int32)) (fun b => nI b) L a 0) := by
    refine iter_scanI (s := (nI a, 0)) L (fun _ b => b < 256) _ _ (fun b k => (nI b, nI k)) a rfl ha (by omega) (fun k x b hk hI => ?_) (fun k x b b' hk hI hg => ?_) (fun b hI => ?_)
    · have hI' : b < 256 := hI
      clear hI
      obtain ⟨g1, g2, g3, g4, g5, g6, -⟩ := h.x hk
      obtain ⟨c0, c1, c2⟩ := crossingAt_ok hd h hk
      have hb := both_lt (x := x) (by omega) (by omega)
      have s0 : nI 1 <<< (nI x.1 &&& nI 31) = nI (2 ^ x.1) := hsh (by omega)
      have s1 : nI 1 <<< (nI x.2.1 &&& nI 31) = nI (2 ^ x.2.1) := hsh (by omega)
      have hbn : nI (both x) &&& (nI m ^^^ -nI 1) = nI (both x &&& (255 ^^^ m)) := nI_andn hb
      have hbe : nI (2 ^ x.1) ||| nI (2 ^ x.2.1) = nI (both x) := nI_or _ _
      have hb2 : nI b &&& nI (both x) = nI (b &&& both x) := nI_and _ _
      have l1 : both x &&& (255 ^^^ m) < 256 := and_lt hb
      have l2 : b &&& both x < 256 := and_lt hI'
      rw [l0] at c0
      have c1' : X0_crossingAt σ d (nI 1) (nI k) = some (nI x.2.1) := c1
      unfold X3_around_l43b X3_around_l43c X3_around_j95 X3_around_j96 X3_around_j116 X3_around_j117 X0_crossingCount X0_crossingCount_j0
      by_cases z : x.2.2 = 0
      · simp (disch := omega) only [lits, le_t, le_f, lt_t, lt_f, eq_t, eq_f, em_f, me_f, nI_add, nI_subN, pk_mul, Option.bind_some, ck_nI, lens, wI_eq, wI_ne, if_true, if_false, ite_true, ite_false, eq_self, Bool.false_eq_true, Nat.zero_add, Nat.add_zero, h.len, c0, c1', stateAt_ok hd h hk, z, s0, s1, hbe, gB, ne_eq, not_true_eq_false, false_and, nI_or, Nat.or_zero]
      · by_cases y : both x &&& (255 ^^^ m) = 0
        · by_cases w : b &&& both x = 0
          · simp (disch := omega) only [lits, le_t, le_f, lt_t, lt_f, eq_t, eq_f, em_f, me_f, nI_add, nI_subN, pk_mul, Option.bind_some, ck_nI, lens, wI_eq, wI_ne, if_true, if_false, ite_true, ite_false, eq_self, Bool.false_eq_true, Nat.zero_add, Nat.add_zero, h.len, c0, c1', stateAt_ok hd h hk, z, s0, s1, hbe, gB, ne_eq, not_false_eq_true, true_and, and_true, and_false, nI_or, hb2, hbn, y, w, not_true_eq_false, neg1_0, Nat.or_zero, and_self]
          · simp (disch := omega) only [lits, le_t, le_f, lt_t, lt_f, eq_t, eq_f, em_f, me_f, nI_add, nI_subN, pk_mul, Option.bind_some, ck_nI, lens, wI_eq, wI_ne, if_true, if_false, ite_true, ite_false, eq_self, Bool.false_eq_true, Nat.zero_add, Nat.add_zero, h.len, c0, c1', stateAt_ok hd h hk, z, s0, s1, hbe, gB, ne_eq, not_false_eq_true, true_and, and_true, and_false, nI_or, hb2, hbn, y, w, not_true_eq_false, neg1_0, Nat.or_zero, and_self]
        · simp (disch := omega) only [lits, le_t, le_f, lt_t, lt_f, eq_t, eq_f, em_f, me_f, nI_add, nI_subN, pk_mul, Option.bind_some, ck_nI, lens, wI_eq, wI_ne, if_true, if_false, ite_true, ite_false, eq_self, Bool.false_eq_true, Nat.zero_add, Nat.add_zero, h.len, c0, c1', stateAt_ok hd h hk, z, s0, s1, hbe, gB, ne_eq, not_false_eq_true, true_and, and_false, false_and, nI_or, hb2, hbn, y, neg1_0, Nat.or_zero, and_self]
    · cases hg
      obtain ⟨g1, g2, g3, g4, g5, g6, -⟩ := h.x hk
      exact fB_lt (L := [x]) (fun y hy => by
        rw [List.mem_singleton] at hy
        subst hy
        exact ⟨by omega, by omega⟩) hI
    · clear hI
      unfold X3_around_l43b X3_around_l43c X0_crossingCount X0_crossingCount_j0
      simp only [Option.bind_some, h.len]
      exact le_t (Nat.le_refl _) (by omega)
  rw [key, scan_fold]
theorem around_ok (hd : d < 5) (hs : RS σ d n nk nu lo) (h : RV σ d n i c s p o L) {m : Nat} (hm : m < 256) {l : Nat} (hl : l < n) : ∃ q, X3_around σ d (nI l) (nI m) = some (nI q) ∧ IsLump m L l q := by
  have h8 := hs.n8
  have hw := wf8 h8 h
  let q0 := 2 ^ l &&& m
  have hq0 : q0 < 256 := by
    show 2 ^ l &&& m < 256
    rw [Nat.and_comm]
    exact and_lt hm
  have hq0t : ∀ k, q0.testBit k = true ↔ l = k ∧ m.testBit k = true := fun k => by
    show (2 ^ l &&& m).testBit k = true ↔ _
    rw [Nat.testBit_and, Nat.testBit_two_pow, Bool.and_eq_true, decide_eq_true_eq]
  have key : ∃ t, iter (X3_around_l24b σ d (nI m)) NF (nI q0, 0, 0) = some t ∧ ∃ q, t = nI q ∧ IsLump m L l q := by
    refine iter_inv (fun (st : Int32 × Int32 × Int32) => ∃ a b t, st = (nI a, nI b, nI t) ∧ a < 256 ∧ b < 256 ∧ t ≤ 8 ∧ (a ≠ b → t + 1 ≤ popc a) ∧ Sub q0 a ∧ Sub b a ∧ L.foldl (gB m) b = (if t = 0 then b else a) ∧ (t = 0 → b = 0) ∧ ∀ T, (m.testBit l = true → T.testBit l = true) → Cld m L T → Sub a T) (fun st => 9 - st.2.2.toInt.toNat) (fun t => ∃ q, t = nI q ∧ IsLump m L l q) (fun st hI => ?_) ?_ (by omega)
    · obtain ⟨a, b, t, rfl, ha, hb, ht, hpc, h0, hba, hfb, hb0, hT⟩ := hI
      by_cases e : a = b
      · right
        refine ⟨nI a, ?_, a, rfl, ha, fun z => h0 l ((hq0t l).mpr ⟨rfl, z⟩), ?_, hT⟩
        · unfold X3_around_l24b X3_around_l24c
          simp (disch := omega) only [lits, le_t, le_f, lt_t, lt_f, eq_t, eq_f, em_f, me_f, nI_add, nI_subN, pk_mul, Option.bind_some, ck_nI, lens, wI_eq, wI_ne, if_true, if_false, ite_true, ite_false, eq_self, Bool.false_eq_true, Nat.zero_add, Nat.add_zero, e, ite_self]
        · subst e
          refine fB_fix hw (hfb.trans ?_)
          split <;> rfl
      · left
        have hp := hpc e
        have hp8 := popc_le a
        have hF := fB_lt (m := m) hw ha
        refine ⟨(nI (L.foldl (gB m) a), nI a, nI (t + 1)), ?_, ⟨L.foldl (gB m) a, a, t + 1, rfl, hF, ha, by omega, fun hne => ?_, h0.tr (fB_sub m L a), fB_sub m L a, (if_neg (Nat.succ_ne_zero t)).symm, fun z => by omega, fun T g1 g2 => fB_in hw g2 (hT T g1 g2)⟩, ?_⟩
        · unfold X3_around_l24b X3_around_l24c X3_around_l43
          have hin := around_in hd h8 h hm (nI a) (nI t) ha
          rw [l0] at hin
          simp (disch := omega) only [lits, le_t, le_f, lt_t, lt_f, eq_t, eq_f, em_f, me_f, nI_add, nI_subN, pk_mul, Option.bind_some, ck_nI, lens, wI_eq, wI_ne, if_true, if_false, ite_true, ite_false, eq_self, Bool.false_eq_true, Nat.zero_add, Nat.add_zero, e, hin]
        · have := popc_lt hF (fB_sub m L a) (fun z => hne z.symm)
          omega
        · show 9 - (nI (t + 1)).toInt.toNat < 9 - (nI t).toInt.toNat
          rw [nI_toInt (by omega), nI_toInt (by omega)]
          omega
    · refine ⟨q0, 0, 0, rfl, hq0, by decide, by decide, fun hne => ?_, Sub.rf _, (fun k hk => by rw [Nat.zero_testBit] at hk; cases hk), ?_, fun _ => rfl, fun T g1 _ k hk => ?_⟩
      · have : popc 0 < popc q0 := popc_lt hq0 (fun k hk => by rw [Nat.zero_testBit] at hk; cases hk) (fun z => hne z.symm)
        rw [popc_0] at this
        omega
      · rw [if_pos rfl]
        have : ∀ M : List X3, M.foldl (gB m) 0 = 0 := by
          intro M
          induction M with
          | nil => rfl
          | cons x t ih =>
            rw [List.foldl_cons]
            have : gB m 0 x = 0 := by
              unfold gB
              rw [if_neg]
              rintro ⟨-, z⟩
              exact z (Nat.zero_and _)
            rw [this, ih]
        exact this L
      · obtain ⟨rfl, z⟩ := (hq0t k).mp hk
        exact g1 z
  obtain ⟨t, e, q, rfl, hq⟩ := key
  refine ⟨q, ?_, hq⟩
  unfold X3_around X3_around_j0 X3_around_j17 X3_around_l24
  have hsh : nI 1 <<< (nI l &&& nI 31) = nI (2 ^ l) := hsh (by omega)
  rw [l0] at e
  have hq2 : nI (2 ^ l) &&& nI m = nI q0 := nI_and _ _
  simp (disch := omega) only [lits, le_t, le_f, lt_t, lt_f, eq_t, eq_f, em_f, me_f, nI_add, nI_subN, pk_mul, Option.bind_some, ck_nI, lens, wI_eq, wI_ne, if_true, if_false, ite_true, ite_false, eq_self, Bool.false_eq_true, Nat.zero_add, Nat.add_zero, has_in hs hl, neg1_0, hsh, hq2, e]
theorem around_eq (hd : d < 5) (hs : RS σ d n nk nu lo) (h : RV σ d n i c s p o L) {m : Nat} (hm : m < 256) {l : Nat} (hl : l < n) : X3_around σ d (nI l) (nI m) = some (nI (lumpF m L l)) ∧ IsLump m L l (lumpF m L l) := by
  obtain ⟨q, e, hq⟩ := around_ok hd hs h hm hl
  have := lumpF_is hq
  rw [← this]
  exact ⟨e, hq⟩
theorem isLone_ok (hd : d < 5) (hs : RS σ d n nk nu lo) (h : RV σ d n i c s p o L) {l : Nat} (hl : l < n) : X3_isLone σ d (nI l) = some (if popc (lumpF i L l) = 1 then 1 else 0) := by
  have hi := p256 hs.n8 h.ilt
  obtain ⟨e, hq⟩ := around_eq hd hs h hi hl
  have hp := popc_le (lumpF i L l)
  unfold X3_isLone X3_isLone_j0 X0_insideSet X0_insideSet_j0
  by_cases z : popc (lumpF i L l) = 1
  · simp (disch := omega) only [lits, le_t, le_f, lt_t, lt_f, eq_t, eq_f, em_f, me_f, nI_add, nI_subN, pk_mul, Option.bind_some, ck_nI, lens, wI_eq, wI_ne, if_true, if_false, ite_true, ite_false, eq_self, Bool.false_eq_true, Nat.zero_add, Nat.add_zero, h.ins, e, bc_ok _ _ hq.1, z]
  · simp (disch := omega) only [lits, le_t, le_f, lt_t, lt_f, eq_t, eq_f, em_f, me_f, nI_add, nI_subN, pk_mul, Option.bind_some, ck_nI, lens, wI_eq, wI_ne, if_true, if_false, ite_true, ite_false, eq_self, Bool.false_eq_true, Nat.zero_add, Nat.add_zero, h.ins, e, bc_ok _ _ hq.1, z]
/-- loops over the leads -/
theorem range_get {n k x : Nat} (h : (List.range n)[k]? = some x) : x = k ∧ k < n := by
  obtain ⟨hk, e⟩ := List.getElem?_eq_some_iff.mp h
  rw [List.length_range] at hk
  rw [List.getElem_range] at e
  exact ⟨e.symm, hk⟩
theorem iter_range {β S T : Type} {f : S → Option (S ⊕ T)} (n : Nat) (I : Nat → β → Prop) (g : β → Nat → β) (R : β → T) (mk : β → Nat → S) {s : S} (b : β) (h0 : s = mk b 0) (hI : I 0 b) (hL : n < 1999999) (hs : ∀ k acc, k < n → I k acc → f (mk acc k) = some (Sum.inl (mk (g acc k) (k + 1)))) (hp : ∀ k acc, k < n → I k acc → I (k + 1) (g acc k)) (he : ∀ acc, I n acc → f (mk acc n) = some (Sum.inr (R acc))) : iter f NF s = some (R ((List.range n).foldl g b)) ∧ I n ((List.range n).foldl g b) := by
  constructor
  · have := iter_scanI (f := f) (s := s) (List.range n) I (fun a k _ => Sum.inl (g a k)) R mk b h0 hI (by rw [List.length_range]; exact hL) (fun k x acc hk hI => by
      obtain ⟨rfl, hk⟩ := range_get hk
      exact hs _ _ hk hI) (fun k x acc a hk hI hg => by
      obtain ⟨rfl, hk⟩ := range_get hk
      cases hg
      exact hp _ _ hk hI) (fun acc hI => by
      rw [List.length_range] at hI ⊢
      exact he acc hI)
    rw [this]
    congr 1
    have key : ∀ (M : List Nat) (b : β) (k : Nat), (∀ j x, M[j]? = some x → x = k + j) → scan (fun a k (_ : Nat) => (Sum.inl (g a k) : β ⊕ T)) R M b k = R (M.foldl g b) := by
      intro M
      induction M with
      | nil => intro b k _; rfl
      | cons x t ih =>
        intro b k hM
        have e : x = k := hM 0 x rfl
        subst e
        unfold scan
        rw [List.foldl_cons]
        exact ih _ _ (fun j y hy => by
          have := hM (j + 1) y hy
          omega)
    exact key _ _ _ (fun j x hj => by
      have := (range_get hj).1
      omega)
  · clear he hs h0
    have key : ∀ m, m ≤ n → I m ((List.range m).foldl g b) := by
      intro m
      induction m with
      | zero => intro _; exact hI
      | succ m ih =>
        intro hm
        rw [List.range_succ, List.foldl_append]
        exact hp m _ (by omega) (ih (by omega))
    exact key n (Nat.le_refl _)
noncomputable def largestF (n m : Nat) (L : List X3) : Nat := (List.range n).foldl (fun a l => max a (popc (lumpF m L l))) 0
theorem largest_ok (hd : d < 5) (hs : RS σ d n nk nu lo) (h : RV σ d n i c s p o L) {m : Nat} (hm : m < 256) : X3_largest σ d (nI m) = some (nI (largestF n m L)) ∧ largestF n m L ≤ 8 := by
  have h8 := hs.n8
  have key := iter_range (f := X3_largest_l4b σ d (nI m)) (s := (0, 0)) n (fun _ a => a ≤ 8) (fun a l => max a (popc (lumpF m L l))) (fun a => nI a) (fun a k => (nI a, nI k)) 0 rfl (Nat.zero_le _) (by omega) (fun k a hk hI => by
    have hI' : a ≤ 8 := hI
    clear hI
    obtain ⟨e, hq⟩ := around_eq hd hs h hm hk
    have hp := popc_le (lumpF m L k)
    have eb := bc_ok σ _ hq.1
    have e3 : imax (nI a) (nI (popc (lumpF m L k))) = nI (max a (popc (lumpF m L k))) := imax_nI (by omega) (by omega)
    clear hq
    have h1 : ¬ nI n ≤ nI k := nI_ge hk (by omega)
    show X3_largest_l4c σ d (nI m) (nI a) (nI k) = some (Sum.inl (nI (max a (popc (lumpF m L k))), nI (k + 1)))
    unfold X3_largest_l4c X0_leadCount X0_leadCount_j0
    rw [hs.ln, Option.bind_some, if_neg h1, e, Option.bind_some, eb, Option.bind_some, e3, Option.bind_some, nI_1, Option.bind_some]) (fun k a hk hI => Nat.max_le.mpr ⟨hI, popc_le _⟩) (fun a hI => by
    clear hI
    unfold X3_largest_l4b X3_largest_l4c X0_leadCount X0_leadCount_j0
    simp only [hs.ln, Option.bind_some]
    exact le_t (Nat.le_refl _) (by omega))
  refine ⟨?_, key.2⟩
  unfold X3_largest X3_largest_j0 X3_largest_l4
  rw [key.1]
  rfl
noncomputable def loneF (n i : Nat) (L : List X3) : Nat := (List.range n).foldl (fun a l => a ||| (if popc (lumpF i L l) = 1 then 2 ^ l else 0)) 0
theorem or_lt {a b : Nat} (ha : a < 256) (hb : b < 256) : a ||| b < 256 := lt256 (fun k hk => by
  rw [Nat.testBit_or, Bool.or_eq_true] at hk
  exact hk.elim (tb_lt ha) (tb_lt hb))
theorem pow_lt8 {l : Nat} (h : l < 8) : 2 ^ l < 256 := lt256 (fun k hk => by
  rw [Nat.testBit_two_pow, decide_eq_true_eq] at hk
  omega)
theorem lone_ok (hd : d < 5) (hs : RS σ d n nk nu lo) (h : RV σ d n i c s p o L) : X3_lone σ d = some (nI (loneF n i L)) ∧ loneF n i L < 256 := by
  have h8 := hs.n8
  have key := iter_range (f := X3_lone_l4b σ d) (s := (0, 0)) n (fun _ a => a < 256) (fun a l => a ||| (if popc (lumpF i L l) = 1 then 2 ^ l else 0)) (fun a => nI a) (fun a k => (nI a, nI k)) 0 rfl (by decide) (by omega) (fun k a hk hI => by
    have hI' : a < 256 := hI
    clear hI
    have e := isLone_ok hd hs h hk
    have hsh : nI 1 <<< (nI k &&& nI 31) = nI (2 ^ k) := hsh (by omega)
    unfold X3_lone_l4b X3_lone_l4c X3_lone_j28 X0_leadCount X0_leadCount_j0
    by_cases z : popc (lumpF i L k) = 1
    · simp (disch := omega) only [lits, le_t, le_f, lt_t, lt_f, eq_t, eq_f, em_f, me_f, nI_add, nI_subN, pk_mul, Option.bind_some, ck_nI, lens, wI_eq, wI_ne, if_true, if_false, ite_true, ite_false, eq_self, Bool.false_eq_true, Nat.zero_add, Nat.add_zero, hs.ln, e, z, neg1_0, hsh, nI_or]
    · simp (disch := omega) only [lits, le_t, le_f, lt_t, lt_f, eq_t, eq_f, em_f, me_f, nI_add, nI_subN, pk_mul, Option.bind_some, ck_nI, lens, wI_eq, wI_ne, if_true, if_false, ite_true, ite_false, eq_self, Bool.false_eq_true, Nat.zero_add, Nat.add_zero, hs.ln, e, z, neg1_0, hsh, nI_or]) (fun k a hk hI => by
    have hI' : a < 256 := hI
    refine or_lt hI' ?_
    split
    · exact pow_lt8 (by omega)
    · decide) (fun a hI => by
    clear hI
    unfold X3_lone_l4b X3_lone_l4c X0_leadCount X0_leadCount_j0
    simp only [hs.ln, Option.bind_some]
    exact le_t (Nat.le_refl _) (by omega))
  refine ⟨?_, key.2⟩
  unfold X3_lone X3_lone_j0 X3_lone_l4
  rw [key.1]
  rfl
end C4
