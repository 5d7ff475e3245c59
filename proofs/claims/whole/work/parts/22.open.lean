/-! ===== the class: clips, draws, openings ===== -/
def nxt (q : Nat) : Nat := (q * 2897 + 10529) % 65536
theorem nxt_lt (q : Nat) : nxt q < 65536 := Nat.mod_lt _ (by decide)
def memN (s : Nat) : List Nat → Nat → Option Nat
  | [], _ => none
  | j :: t, m => if s.testBit j = true then (match m with
    | 0 => some j
    | m + 1 => memN s t m) else memN s t m
def memF (s k : Nat) : Nat := (memN s (List.range 8) k).getD 0
theorem memN_some {s : Nat} : ∀ (M : List Nat) (m : Nat), m < M.countP (fun k => s.testBit k) → ∃ j, memN s M m = some j ∧ s.testBit j = true ∧ j ∈ M := by
  intro M
  induction M with
  | nil => intro m h; exact absurd h (Nat.not_lt_zero _)
  | cons x t ih =>
    intro m h
    rw [List.countP_cons] at h
    unfold memN
    by_cases q : s.testBit x = true
    · rw [if_pos q] at h ⊢
      cases m with
      | zero => exact ⟨x, rfl, q, List.mem_cons_self⟩
      | succ m =>
        obtain ⟨j, e1, e2, e3⟩ := ih m (by omega)
        exact ⟨j, e1, e2, List.mem_cons_of_mem _ e3⟩
    · rw [if_neg q] at h ⊢
      obtain ⟨j, e1, e2, e3⟩ := ih m h
      exact ⟨j, e1, e2, List.mem_cons_of_mem _ e3⟩
theorem memF_ok {s m : Nat} (h : m < popc s) : memN s (List.range 8) m = some (memF s m) ∧ s.testBit (memF s m) = true ∧ memF s m < 8 := by
  unfold popc at h
  rw [← List.countP_eq_length_filter] at h
  obtain ⟨j, e1, e2, e3⟩ := memN_some (List.range 8) m h
  have : memF s m = j := by unfold memF; rw [e1]; rfl
  rw [this]
  exact ⟨e1, e2, List.mem_range.mp e3⟩
theorem memN_scan (s : Nat) (m : Nat) : ∀ (M : List Nat) (b : Nat), (∀ j x, M[j]? = some x → x = b + j) → ∀ m, scan (fun (a : Nat) k (_ : Nat) => if s.testBit k = true then (if a = 0 then Sum.inr (Sum.inl (nI k)) else Sum.inl (a - 1)) else Sum.inl a) (fun _ => (Sum.inr () : Int32 ⊕ Unit)) M m b = (match memN s M m with
    | some k => Sum.inl (nI k)
    | none => Sum.inr ()) := by
  intro M
  induction M with
  | nil => intro b _ m; rfl
  | cons x t ih =>
    intro b hM m
    have e : x = b := hM 0 x rfl
    subst e
    have hM' : ∀ j y, t[j]? = some y → y = x + 1 + j := fun j y hy => by
      have := hM (j + 1) y hy
      omega
    unfold scan memN
    by_cases q : s.testBit x = true
    · rw [if_pos q, if_pos q]
      cases m with
      | zero => rfl
      | succ m => exact ih (x + 1) hM' m
    · rw [if_neg q, if_neg q]
      exact ih (x + 1) hM' m
theorem memberAt_ok (σ : SS) {s m : Nat} (hs : s < 256) (hm : m < popc s) : X0_memberAt σ (nI s) (nI m) = some (nI (memF s m)) := by
  have hm8 := popc_le s
  have key : iter (X0_memberAt_l4b σ (nI s)) NF (nI m, 0) = some (match memN s (List.range 8) m with
    | some k => Sum.inl (nI k)
    | none => Sum.inr ()) := by
    rw [← memN_scan s m (List.range 8) 0 (fun j x hj => by
      have := (range_get hj).1
      omega)]
    refine iter_scanI (s := (nI m, 0)) (List.range 8) (fun _ a => a < 8) _ _ (fun a k => (nI a, nI k)) m rfl (by show m < 8; omega) (by decide) (fun k x acc hk hI => ?_) (fun k x acc a hk hI hg => ?_) (fun acc hI => ?_)
    · have hI' : acc < 8 := hI
      clear hI
      obtain ⟨-, hk8⟩ := range_get hk
      show X0_memberAt_l4c σ (nI s) (nI acc) (nI k) = _
      have hb : ((nI s >>> (nI k &&& 31)) &&& 1) = nI (if s.testBit k = true then 1 else 0) := hbit hs hk8
      unfold X0_memberAt_l4c X0_memberAt_j28
      rw [if_neg (show ¬ (8 : Int32) ≤ nI k from nI_ge (a := k) (b := 8) hk8 (by decide)), hb]
      by_cases q : s.testBit k = true
      · rw [if_pos q, if_pos (show nI 1 = 1 from rfl), if_pos q]
        by_cases z : acc = 0
        · rw [if_pos (by rw [z]; rfl), if_pos z]
        · rw [if_neg (nI_ne0 (Nat.pos_of_ne_zero z) (by omega)), if_neg z]
          show some (Sum.inl (nI acc + -nI 1, nI k + 1)) = _
          rw [nI_addm (Nat.pos_of_ne_zero z), nI_1]
      · rw [if_neg q, if_neg (show ¬ nI 0 = 1 by decide), if_neg q]
        show some (Sum.inl (nI acc, nI k + 1)) = _
        rw [nI_1]
    · have hI' : acc < 8 := hI
      by_cases q : s.testBit k = true
      · rw [if_pos q] at hg
        by_cases z : acc = 0
        · rw [if_pos z] at hg
          cases hg
        · rw [if_neg z] at hg
          injection hg with hg
          subst hg
          exact Nat.lt_of_le_of_lt (Nat.sub_le _ _) hI'
      · rw [if_neg q] at hg
        injection hg with hg
        subst hg
        exact hI'
    · show X0_memberAt_l4c σ (nI s) (nI acc) (nI 8) = _
      unfold X0_memberAt_l4c
      rw [if_pos (show (8 : Int32) ≤ nI 8 by decide)]
  unfold X0_memberAt X0_memberAt_j0 X0_memberAt_l4
  rw [key, (memF_ok hm).1]
  rfl
section C6
variable {σ : SS} {d n nk i c : Nat} {s p o : Int32} {nu : Nat → Nat → Nat} {lo : Nat → Nat} {L : List X3}
theorem setClip_ok (hs : RS σ d n nk nu lo) (h : RV σ d n i c s p o L) {l : Nat} (hl : l < n) (hi : i.testBit l = true) : ∃ υ, X0_setClip σ d (nI l) = some υ ∧ Eqo (VC d) σ υ ∧ RV υ d n i (c ||| 2 ^ l) s p o L := by
  obtain ⟨r, hr, er, hrc⟩ := h.raw
  have h8 := hs.n8
  have hsh : nI 1 <<< (nI l &&& nI 31) = nI (2 ^ l) := hsh (by omega)
  refine ⟨wI σ 0 d 9 (nI (r ||| 2 ^ l)), ?_, Eqo.wI (by unfold VC; omega), ?_⟩
  · unfold X0_setClip X0_setClip_j0 X0_setClip_j20
    have hor : nI r ||| nI (2 ^ l) = nI (r ||| 2 ^ l) := nI_or _ _
    simp (disch := omega) only [lits, le_t, le_f, lt_t, lt_f, eq_t, eq_f, em_f, me_f, nI_add, nI_subN, pk_mul, Option.bind_some, ck_nI, lens, wI_eq, wI_ne, if_true, if_false, ite_true, ite_false, eq_self, Bool.false_eq_true, Nat.zero_add, Nat.add_zero, has_in hs hl, neg1_0, er, hsh, hor]
  · refine h.wr rfl ?_ ?_ ⟨r ||| 2 ^ l, or_lt hr (pow_lt8 (by omega)), wI_eq _ _ _ _ _, ?_⟩ ?_ ?_ ?_ h.ilt
    · exact wI_ne _ _ (by omega)
    · rw [wI_ne _ _ (by omega)]; exact h.ins
    · apply Nat.eq_of_testBit_eq
      intro k
      rw [Nat.testBit_and, Nat.testBit_or, Nat.testBit_or, ← hrc, Nat.testBit_and, Nat.testBit_two_pow]
      by_cases q : l = k
      · subst q
        rw [hi]
        simp
      · simp [q]
    · rw [wI_ne _ _ (by omega)]; exact h.sec
    · rw [wI_ne _ _ (by omega)]; exact h.pen
    · rw [wI_ne _ _ (by omega)]; exact h.opn
theorem putClip_ok (hs : RS σ d n nk nu lo) (h : RV σ d n i c s p o L) {l : Nat} (hl : l < n) (hi : i.testBit l = true) : ∃ υ, X0_putClip σ d (nI l) = some (1, υ) ∧ Eqo (VC d) σ υ ∧ RV υ d n i (c ||| 2 ^ l) (s + 12) p o L := by
  obtain ⟨υ, e, hE, hR⟩ := setClip_ok hs h hl hi
  refine ⟨wI υ 0 d 10 (s + 12), ?_, hE.tr (Eqo.wI (by unfold VC; omega)), hR.setS _⟩
  unfold X0_putClip X0_putClip_j0
  rw [e, Option.bind_some, hR.sec]
  rfl
theorem takeClip_ok (hs : RS σ d n nk nu lo) (h : RV σ d n i c s p o L) {l : Nat} (hl : l < n) : ∃ υ, X0_takeClip σ d (nI l) = some (1, υ) ∧ Eqo (VC d) σ υ ∧ RV υ d n i (c &&& (255 ^^^ 2 ^ l)) s p o L := by
  obtain ⟨r, hr, er, hrc⟩ := h.raw
  have h8 := hs.n8
  have hsh : nI 1 <<< (nI l &&& nI 31) = nI (2 ^ l) := hsh (by omega)
  refine ⟨wI σ 0 d 9 (nI (r &&& (255 ^^^ 2 ^ l))), ?_, Eqo.wI (by unfold VC; omega), ?_⟩
  · unfold X0_takeClip X0_takeClip_j0 X0_takeClip_j25
    have hor : nI r &&& (nI (2 ^ l) ^^^ -nI 1) = nI (r &&& (255 ^^^ 2 ^ l)) := nI_andn hr
    simp (disch := omega) only [lits, le_t, le_f, lt_t, lt_f, eq_t, eq_f, em_f, me_f, nI_add, nI_subN, pk_mul, Option.bind_some, ck_nI, lens, wI_eq, wI_ne, if_true, if_false, ite_true, ite_false, eq_self, Bool.false_eq_true, Nat.zero_add, Nat.add_zero, has_in hs hl, neg1_0, er, hsh, hor]
  · refine h.wr rfl ?_ ?_ ⟨r &&& (255 ^^^ 2 ^ l), and_lt hr, wI_eq _ _ _ _ _, ?_⟩ ?_ ?_ ?_ h.ilt
    · exact wI_ne _ _ (by omega)
    · rw [wI_ne _ _ (by omega)]; exact h.ins
    · rw [← hrc, Nat.and_assoc, Nat.and_assoc, Nat.and_comm i]
    · rw [wI_ne _ _ (by omega)]; exact h.sec
    · rw [wI_ne _ _ (by omega)]; exact h.pen
    · rw [wI_ne _ _ (by omega)]; exact h.opn
/-- draws -/
def Dr (σ : SS) (d q : Nat) : Prop := σ.1 0 d 13 = nI q ∧ q < 65536
theorem drawBy_ok {q m : Nat} (h : Dr σ d q) (h0 : 0 < m) (hm : m < 1000) : X0_drawBy σ d (nI m) = some (nI (nxt q / 8 % m), wI σ 0 d 13 (nI (nxt q))) := by
  have hq := h.2
  have hn := nxt_lt q
  have e1 : (σ.1 0 d 13 * 2897 + 10529) &&& 65535 = nI (nxt q) := by
    rw [h.1]
    show (nI q * nI 2897 + nI 10529) &&& 65535 = _
    rw [pk_mul, nI_add, pk_andN (by omega) 16 (by decide)]
    rfl
  have e2 : nI (nxt q) >>> (3 &&& 31) = nI (nxt q / 8) := pk_shrN (by omega) _ 3 (by decide)
  unfold X0_drawBy X0_drawBy_j0
  rw [e1, Option.bind_some, if_neg (nI_nle h0 (by omega)), wI_eq, e2]
  have e5 : nz (nI m) = some () := by
    unfold nz
    rw [if_neg (nI_ne0 h0 (by omega))]
  rw [e5, Option.bind_some, pk_rem (by omega) h0 (by omega)]
theorem RV.draw (h : RV σ d n i c s p o L) (x : Int32) : RV (wI σ 0 d 13 x) d n i c s p o L := h.keep (P := fun k m j => k = 0 ∧ m = d ∧ j = 13) (Eqo.wI ⟨rfl, rfl, rfl⟩) (fun k m j q => by omega)
theorem RS.draw (h : RS σ d n nk nu lo) (x : Int32) : RS (wI σ 0 d 13 x) d n nk nu lo := h.keep (P := fun k m j => k = 0 ∧ m = d ∧ j = 13) (Eqo.wI ⟨rfl, rfl, rfl⟩) (fun k m j q => by omega)
theorem Dr.keep {τ : SS} {q : Nat} {P : Nat → Nat → Nat → Prop} (h : Dr σ d q) (hE : Eqo P σ τ) (hP : ¬ P 0 d 13) : Dr τ d q := ⟨by rw [hE.at1 hP]; exact h.1, h.2⟩
/-- openings -/
def wS (nu : Nat → Nat → Nat) (l x : Nat) : Nat := if min (nu 2 l) (nu 3 l) < min 9 (nu 1 x + 2) then 1 else 0
def cbS (nu : Nat → Nat → Nat) (l u : Nat) (q : Nat) (L : List X3) : Nat × List X3 × Nat := if popc u = 0 then (q, L, 0) else if L.length < 24 then (nxt q, L ++ [(l, memF u (nxt q / 8 % popc u), wS nu l (memF u (nxt q / 8 % popc u)))], 1) else (nxt q, L, 0)
def opS (nu : Nat → Nat → Nat) (u : Nat) (a : Nat × List X3 × Nat) (l : Nat) : Nat × List X3 × Nat := if u.testBit l = true then (if risk nu l ≤ nxt a.1 / 8 % 16 then (nxt a.1, a.2.1, a.2.2) else ((cbS nu l (u &&& (255 ^^^ 2 ^ l)) (nxt a.1) a.2.1).1, (cbS nu l (u &&& (255 ^^^ 2 ^ l)) (nxt a.1) a.2.1).2.1, a.2.2 + (cbS nu l (u &&& (255 ^^^ 2 ^ l)) (nxt a.1) a.2.1).2.2)) else a
def opens (n : Nat) (nu : Nat → Nat → Nat) (u q : Nat) (L : List X3) : Nat × List X3 × Nat := (List.range n).foldl (opS nu u) (q, L, 0)
theorem addC_ok (hd : d < 5) (h : RV σ d n i c s p o L) (hl : L.length < 24) {a b w : Nat} (ha : a < n) (hb : b < n) (hab : a ≠ b) (hw : w ≤ 3) : ∃ υ, X0_addCrossing σ d (nI a) (nI b) (nI w) = some (1, υ) ∧ Eqo (FC d) σ υ ∧ RV υ d n i c s p o (L ++ [(a, b, w)]) := by
  obtain ⟨υ, e, hE, hR⟩ := addCrossing_ok hd h hl ha hb hab hw
  refine ⟨υ, e, ?_, hR⟩
  have e2 : X0_addCrossing σ d (nI a) (nI b) (nI w) = some (1, wI (wI (wI (wI σ 13 (4 * d + 2) (24 * 0 + L.length) (nI a)) 13 (4 * d + 2) (24 * 1 + L.length) (nI b)) 13 (4 * d + 2) (24 * 2 + L.length) (nI w)) 0 d 6 (nI (L.length + 1))) := by
    unfold X0_addCrossing X0_addCrossing_j0 X0_isFull X0_isFull_j0
    simp (disch := omega) only [lits, le_t, le_f, lt_t, lt_f, eq_t, eq_f, em_f, me_f, nI_add, nI_subN, pk_mul, Option.bind_some, ck_nI, lens, wI_eq, wI_ne, if_true, if_false, ite_true, ite_false, eq_self, Bool.false_eq_true, Nat.zero_add, Nat.add_zero, h.len, cr_put hd]
  rw [e] at e2
  injection e2 with e2
  injection e2 with _ e2
  rw [e2]
  exact (((Eqo.wI (.inl ⟨rfl, rfl⟩)).tr (Eqo.wI (.inl ⟨rfl, rfl⟩))).tr (Eqo.wI (.inl ⟨rfl, rfl⟩))).tr (Eqo.wI (.inr ⟨rfl, rfl, rfl⟩))
theorem crossByDraw_ok (hd : d < 5) (hs : RS σ d n nk nu lo) (h : RV σ d n i c s p o L) {q l u : Nat} (hq : Dr σ d q) (hl : l < n) (hu : u < 2 ^ n) (hul : u.testBit l = false) : ∃ υ, X0_crossByDraw σ d (nI l) (nI u) = some (nI (cbS nu l u q L).2.2, υ) ∧ Eqo (VO d) σ υ ∧ RV υ d n i c s p o (cbS nu l u q L).2.1 ∧ Dr υ d (cbS nu l u q L).1 := by
  have h8 := hs.n8
  have hu8 := p256 h8 hu
  have hp8 := popc_le u
  have eb := bc_ok σ u hu8
  unfold X0_crossByDraw X0_crossByDraw_j0 cbS
  rw [eb, Option.bind_some]
  by_cases z : popc u = 0
  · rw [if_pos (by rw [z]; rfl), if_pos z]
    exact ⟨σ, rfl, Eqo.rf _ _, h, hq⟩
  · have z' := Nat.pos_of_ne_zero z
    rw [if_neg (nI_ne0 z' (by omega)), if_neg z, drawBy_ok hq z' (by omega), Option.bind_some]
    have h2 := h.draw (nI (nxt q))
    have hs2 := hs.draw (nI (nxt q))
    have hq2 : Dr (wI σ 0 d 13 (nI (nxt q))) d (nxt q) := ⟨wI_eq _ _ _ _ _, nxt_lt q⟩
    have hE2 : Eqo (VO d) σ (wI σ 0 d 13 (nI (nxt q))) := Eqo.wI (by unfold VO VC; omega)
    generalize wI σ 0 d 13 (nI (nxt q)) = τ at h2 hs2 hq2 hE2
    have h24 := h2.l24
    by_cases y : L.length < 24
    · obtain ⟨-, hmb, hm8⟩ := memF_ok (s := u) (m := nxt q / 8 % popc u) (Nat.mod_lt _ z')
      have hme := memberAt_ok τ hu8 (m := nxt q / 8 % popc u) (Nat.mod_lt _ z')
      generalize memF u (nxt q / 8 % popc u) = x at hmb hm8 hme
      have hxn : x < n := Classical.byContradiction fun w => by
        rw [tb_out hu (by omega)] at hmb
        cases hmb
      have hxl : l ≠ x := fun w => by
        subst w
        rw [hul] at hmb
        cases hmb
      have n1 := hs2.2.2.1 1 x (by decide) hxn
      have n2 := hs2.2.2.1 2 l (by decide) hl
      have n3 := hs2.2.2.1 3 l (by decide) hl
      have w1 := hs2.wf.le (w := 1) hxn (by decide)
      have w2 := hs2.wf.le (w := 2) hl (by decide)
      have w3 := hs2.wf.le (w := 3) hl (by decide)
      obtain ⟨υ, e3, hE3, hR3⟩ := addC_ok hd h2 y hl hxn hxl (w := wS nu l x) (by unfold wS; split <;> decide)
      have hE3' : Eqo (VO d) τ υ := hE3.mono (fun k n j q => by unfold FC CC at q; unfold VO VC; omega)
      refine ⟨υ, ?_, hE2.tr hE3', ?_, ?_⟩
      · rw [if_pos y]
        have hfull : X0_isFull τ d = some 0 := by
          unfold X0_isFull X0_isFull_j0
          rw [h2.len, if_pos (show nI L.length < 24 from nI_lt (b := 24) y (by decide))]
        have e9 : (imin 9 (nI (nu 1 x) + 2)) = nI (min 9 (nu 1 x + 2)) := by
          show imin (nI 9) (nI (nu 1 x) + nI 2) = _
          rw [nI_add, imin_nI (by decide) (by omega)]
        have a1 : X4_at τ (4 * d + 1) 1 (nI x) = some (nI (nu 1 x)) := by
          have := nu_at (σ := τ) hd 1 (by decide) (k := x) (by omega)
          rw [n1] at this
          exact this
        have a2 : X4_at τ (4 * d + 1) 2 (nI l) = some (nI (nu 2 l)) := by
          have := nu_at (σ := τ) hd 2 (by decide) (k := l) (by omega)
          rw [n2] at this
          exact this
        have a3 : X4_at τ (4 * d + 1) 3 (nI l) = some (nI (nu 3 l)) := by
          have := nu_at (σ := τ) hd 3 (by decide) (k := l) (by omega)
          rw [n3] at this
          exact this
        rw [hfull, Option.bind_some, if_pos rfl, hme, Option.bind_some, a1, Option.bind_some, e9, Option.bind_some, a2, Option.bind_some]
        unfold X0_crossByDraw_j82 X0_crossByDraw_j87 X0_crossByDraw_j103
        unfold wS at e3 hR3 ⊢
        have hmin : min (nu 2 l) (nu 3 l) < min 9 (nu 1 x + 2) ↔ nu 2 l < min 9 (nu 1 x + 2) ∨ nu 3 l < min 9 (nu 1 x + 2) := by omega
        generalize hM : min 9 (nu 1 x + 2) = M at *
        have hM9 : M ≤ 9 := by omega
        by_cases g2 : nu 2 l < M
        · rw [if_pos (hmin.mpr (.inl g2))] at e3
          rw [if_pos (nI_lt g2 (by omega)), if_neg neg1_0]
          have e3' : X0_addCrossing τ d (nI l) (nI x) 1 = some (1, υ) := e3
          rw [e3', Option.bind_some, if_neg neg1_0]
          rfl
        · rw [if_neg (nI_nlt (by omega) (by omega)), a3, Option.bind_some]
          by_cases g3 : nu 3 l < M
          · rw [if_pos (hmin.mpr (.inr g3))] at e3
            rw [if_neg (nI_ge g3 (by omega)), if_neg neg1_0]
            have e3' : X0_addCrossing τ d (nI l) (nI x) 1 = some (1, υ) := e3
            rw [e3', Option.bind_some, if_neg neg1_0]
            rfl
          · rw [if_neg (fun z => (hmin.mp z).elim g2 g3)] at e3
            rw [if_pos (nI_le (by omega) (by omega)), if_pos rfl]
            have e3' : X0_addCrossing τ d (nI l) (nI x) 0 = some (1, υ) := e3
            rw [e3', Option.bind_some, if_neg neg1_0]
            rfl
      · rw [if_pos y]; exact hR3
      · rw [if_pos y]; exact hq2.keep hE3 (by unfold FC CC; omega)
    · have hfull : X0_isFull τ d = some 1 := by
        unfold X0_isFull X0_isFull_j0
        rw [h2.len, if_neg (show ¬ nI L.length < 24 from nI_nlt (b := 24) (by omega) (by omega))]
      refine ⟨τ, ?_, hE2, ?_, ?_⟩
      · rw [hfull, Option.bind_some, if_neg neg1_0, if_neg y]
        rfl
      · rw [if_neg y]; exact h2
      · rw [if_neg y]; exact hq2
theorem openOnce_ok (hd : d < 5) (hs : RS σ d n nk nu lo) (h : RV σ d n i c s p o L) {q : Nat} (hq : Dr σ d q) : ∃ υ, X0_openOnce σ d = some (nI (opens n nu (i &&& (255 ^^^ c)) q L).2.2, υ) ∧ Eqo (VO d) σ υ ∧ RV υ d n i c s p (o + 1) (opens n nu (i &&& (255 ^^^ c)) q L).2.1 ∧ Dr υ d (opens n nu (i &&& (255 ^^^ c)) q L).1 := by
  have h8 := hs.n8
  have hi := p256 h8 h.ilt
  obtain ⟨r, hr, er, hrc⟩ := h.raw
  have hu : i &&& (255 ^^^ r) = i &&& (255 ^^^ c) := by
    apply Nat.eq_of_testBit_eq
    intro k
    rw [Nat.testBit_and, Nat.testBit_and]
    cases hik : i.testBit k
    · rfl
    · rw [Bool.true_and, Bool.true_and, xor_tb (tb_lt hi hik), xor_tb (tb_lt hi hik), and_tb hrc hik]
  generalize i &&& (255 ^^^ c) = u at hu ⊢
  have hun : u < 2 ^ n := by rw [← hu]; exact Nat.lt_of_le_of_lt Nat.and_le_left h.ilt
  have hu8 := p256 h8 hun
  have h1 := h.setO (o + 1)
  have hs1 : RS (wI σ 0 d 12 (o + 1)) d n nk nu lo := hs.keep (P := fun k m j => k = 0 ∧ m = d ∧ j = 12) (Eqo.wI ⟨rfl, rfl, rfl⟩) (fun k m j q => by omega)
  have hq1 : Dr (wI σ 0 d 12 (o + 1)) d q := hq.keep (P := fun k m j => k = 0 ∧ m = d ∧ j = 12) (Eqo.wI ⟨rfl, rfl, rfl⟩) (by omega)
  have hE1 : Eqo (VO d) σ (wI σ 0 d 12 (o + 1)) := Eqo.wI (by unfold VO VC; omega)
  have hun2 : X0_unclippedSet (wI σ 0 d 12 (o + 1)) d = some (nI u) := by
    unfold X0_unclippedSet X0_unclippedSet_j0
    rw [wI_ne _ _ (by omega), wI_ne _ _ (by omega), h.ins, er, ← hu]
    exact congrArg some (nI_andn hi)
  unfold X0_openOnce X0_openOnce_j0 X0_openOnce_l19
  rw [h.opn, Option.bind_some, hun2, Option.bind_some]
  generalize wI σ 0 d 12 (o + 1) = σ1 at *
  have key : ∃ t, iter (X0_openOnce_l19b d (nI u)) NF (0, 0, σ1) = some t ∧ t.1 = nI (opens n nu u q L).2.2 ∧ Eqo (VO d) σ1 t.2 ∧ RV t.2 d n i c s p (o + 1) (opens n nu u q L).2.1 ∧ Dr t.2 d (opens n nu u q L).1 := by
    refine iter_upto (fun k (st : Int32 × Int32 × SS) => k ≤ n ∧ st.2.1 = nI k ∧ st.1 = nI (opens k nu u q L).2.2 ∧ Eqo (VO d) σ1 st.2.2 ∧ RV st.2.2 d n i c s p (o + 1) (opens k nu u q L).2.1 ∧ Dr st.2.2 d (opens k nu u q L).1) n (fun (t : Int32 × SS) => t.1 = nI (opens n nu u q L).2.2 ∧ Eqo (VO d) σ1 t.2 ∧ RV t.2 d n i c s p (o + 1) (opens n nu u q L).2.1 ∧ Dr t.2 d (opens n nu u q L).1) (fun k st hk hI => ?_) (fun st hI => ?_) ⟨Nat.zero_le _, rfl, rfl, Eqo.rf _ _, h1, hq1⟩ (by omega)
    · left
      obtain ⟨x2, x3, υ⟩ := st
      obtain ⟨hkl, g1, g2, hE, hR, hD⟩ := hI
      simp only at g1 g2 hE hR hD
      subst g1
      subst g2
      have hsr : opens (k + 1) nu u q L = opS nu u (opens k nu u q L) k := by
        unfold opens
        rw [List.range_succ, List.foldl_append]
        rfl
      rw [hsr]
      have hs2 := hs1.keepVO hE
      generalize opens k nu u q L = a at *
      obtain ⟨q', L', ct⟩ := a
      simp only at hR hD
      have hb : ((nI u >>> (nI k &&& 31)) &&& 1) = nI (if u.testBit k = true then 1 else 0) := hbit hu8 (by omega)
      have hul : (u &&& (255 ^^^ 2 ^ k)).testBit k = false := by
        rw [Nat.testBit_and, xor_tb (by omega), Nat.testBit_two_pow]
        simp
      have hun3 : u &&& (255 ^^^ 2 ^ k) < 2 ^ n := Nat.lt_of_le_of_lt Nat.and_le_left hun
      have han' : nI u &&& ((1 <<< (nI k &&& 31)) ^^^ (-1)) = nI (u &&& (255 ^^^ 2 ^ k)) := by
        have hsh : nI 1 <<< (nI k &&& nI 31) = nI (2 ^ k) := hsh (by omega)
        have : nI u &&& (nI (2 ^ k) ^^^ -nI 1) = nI (u &&& (255 ^^^ 2 ^ k)) := nI_andn hu8
        rw [← this, ← hsh]
        rfl
      show ∃ s', X0_openOnce_l19c υ d (nI u) (nI ct) (nI k) = _ ∧ _
      unfold X0_openOnce_l19c X0_openOnce_j70 opS
      rw [hs2.ln, if_neg (nI_ge hk (by omega)), hb]
      by_cases z : u.testBit k = true
      · rw [if_pos z, if_pos z, if_pos (show nI 1 = 1 from rfl)]
        have hdr := drawBy_ok hD (m := 16) (by decide) (by decide)
        have hdr' : X0_drawBy υ d 16 = some (nI (nxt q' / 8 % 16), wI υ 0 d 13 (nI (nxt q'))) := hdr
        rw [hdr', Option.bind_some]
        have h2 := hR.draw (nI (nxt q'))
        have hs3 := hs2.draw (nI (nxt q'))
        have hq3 : Dr (wI υ 0 d 13 (nI (nxt q'))) d (nxt q') := ⟨wI_eq _ _ _ _ _, nxt_lt q'⟩
        have hE3 : Eqo (VO d) υ (wI υ 0 d 13 (nI (nxt q'))) := Eqo.wI (by unfold VO VC; omega)
        generalize wI υ 0 d 13 (nI (nxt q')) = τ at *
        have hrisk := hs3.2.2.2.1 k hk
        have hr15 : risk nu k ≤ 15 := Nat.min_le_left _ _
        have a6 : X4_at τ (4 * d + 1) 6 (nI k) = some (nI (risk nu k)) := by
          have := nu_at (σ := τ) hd 6 (by decide) (k := k) (by omega)
          rw [hrisk] at this
          exact this
        simp only
        rw [a6, Option.bind_some]
        by_cases y : risk nu k ≤ nxt q' / 8 % 16
        · rw [if_pos (nI_le y (by omega)), if_pos y]
          exact ⟨_, by rw [nI_1]; rfl, hk, rfl, rfl, hE.tr hE3, h2, hq3⟩
        · rw [if_neg (nI_ge (by omega) (by omega)), if_neg y, han']
          obtain ⟨ω, e4, hE4, hR4, hD4⟩ := crossByDraw_ok hd hs3 h2 hq3 hk hun3 hul
          rw [e4, Option.bind_some]
          exact ⟨_, by rw [Option.bind_some, nI_add, nI_1]; rfl, hk, rfl, rfl, (hE.tr hE3).tr hE4, hR4, hD4⟩
      · rw [if_neg z, if_neg z, if_neg (show ¬ nI 0 = 1 by decide)]
        exact ⟨_, by rw [nI_1]; rfl, hk, rfl, rfl, hE, hR, hD⟩
    · obtain ⟨x2, x3, υ⟩ := st
      obtain ⟨hkl, g1, g2, hE, hR, hD⟩ := hI
      simp only at g1 g2 hE hR hD
      subst g1
      have hs2 := hs1.keepVO hE
      refine ⟨(x2, υ), ?_, g2, hE, hR, hD⟩
      show X0_openOnce_l19c υ d (nI u) x2 (nI n) = _
      unfold X0_openOnce_l19c
      rw [hs2.ln, if_pos (nI_le (Nat.le_refl _) (by omega))]
  obtain ⟨t, e, g1, hE, hR, hD⟩ := key
  rw [e, Option.bind_some]
  exact ⟨t.2, by rw [g1], hE1.tr hE, hR, hD⟩
end C6
