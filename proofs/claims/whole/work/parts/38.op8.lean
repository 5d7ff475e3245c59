/-- a refusal after a try -/
theorem refused2 {R : Type} {f g : SS → Option (R × SS)} {σ τ : SS} {n nk : Nat} {nu : Nat → Nat → Nat} {lo : Nat → Nat} {i c : Nat} {s p o : Int32} {L : List X3} (h : RelD σ n nk nu lo i c s p o L) (w : Int32) (r : R) (hf : f σ = some (r, wI σ 10 0 11 w)) (hE : Eqo XO (s0 σ w) τ) (hx : RXV τ n i c s p o L) (hg : g (wI σ 10 0 11 w) = some (r, wI τ 11 0 0 w)) : DR σ n nk nu lo f g := by
  have h9 := h.ps (s0_ps σ w)
  have h1 : RelD τ n nk nu lo i c s p o L := ⟨h9.1.keep hE (fun k m j q => by unfold XO XC at q; omega), h9.2.1.keep hE (fun k m j q => by unfold XO XC at q; omega), h9.2.2.1.keepO hE, hx⟩
  refine ⟨r, _, _, hf, hg, ⟨i, c, s, p, o, L, h1.ps (ps2 _ _)⟩, ?_, ((PS_PDS (s0_ps σ w)).tr (hE.mono (fun _ _ _ q => .inr (.inl q)))).tr (PS_PDS (ps2 _ _))⟩
  unfold St
  rw [wI_ne _ _ (by omega), wI_eq, hE.at1 (by unfold XO XC; omega)]
  unfold s0
  rw [wI_ne _ _ (by omega), wI_ne _ _ (by omega), wI_eq]
theorem someIn0 {σ : SS} {n nk : Nat} {nu : Nat → Nat → Nat} {lo : Nat → Nat} {i c : Nat} {s p o : Int32} {L : List X3} (h : RelD σ n nk nu lo i c s p o L) : X11_someIn σ = some (if i = 0 then 8 else 0) := by
  have hi := p256 h.1.n8 h.2.1.ilt
  unfold X11_someIn X11_someIn_j0 X0_insideSet X0_insideSet_j0
  rw [h.2.1.ins, Option.bind_some]
  by_cases z : i = 0
  · rw [ez_t z, if_pos z]
  · rw [ez_f (Nat.pos_of_ne_zero z) (by omega), if_neg z]
theorem op_key : DOp X11_key X12_key := by
  intro σ n nk nu lo i c s p o L h
  have h1 := h.ps (ps1 σ 0)
  have hn := bcF_none (n := n) (i := i) (L := L) h.2.1.ilt
  have h8 := h.1.n8
  by_cases z : i = 0
  · have h9 := h.ps (s0_ps σ 8)
    obtain ⟨τ, e, hE, hR⟩ := xkey h9.2.2.1 h9.2.2.2
    rw [hn.mpr z, if_neg (show ¬ (0 : Int32) ≤ oI none by decide), refuse_eq, Option.bind_some] at e
    refine refused2 h 8 (-1) ?_ hE hR ?_
    · unfold X11_key X11_key_j0
      rw [someIn0 h, Option.bind_some, if_pos z, answersN _ (by decide), Option.bind_some, if_pos rfl]
    · unfold X12_key X12_key_j0
      rw [Option.bind_some, Option.bind_some, s0e, e]
  · have hb : ∃ k, (bcF n i L).1 = some k := by
      cases hh : (bcF n i L).1 with
      | none => exact (z (hn.mp hh)).elim
      | some k => exact ⟨k, rfl⟩
    obtain ⟨k, hk⟩ := hb
    obtain ⟨g1, g2, -⟩ := h.cl (Eqo.rf _ _)
    obtain ⟨τ, e, hE, hR⟩ := xkey g1 g2
    have hcl := bestCut_ok (by decide) h1.1 h1.2.1
    have hkn : k < n := by
      have hlast : ∀ m, m ≤ n → ∀ k, ((List.range m).foldl (fun a l => if i.testBit l = true ∧ largestF n (i &&& (255 ^^^ 2 ^ l)) L < a.2 then (some l, largestF n (i &&& (255 ^^^ 2 ^ l)) L) else a) ((none, 9) : Option Nat × Nat)).1 = some k → k < n := by
        intro m
        induction m with
        | zero => intro _ k hk; cases hk
        | succ m ih =>
          intro hm k hk
          rw [List.range_succ, List.foldl_append] at hk
          generalize hA : (List.range m).foldl _ ((none, 9) : Option Nat × Nat) = a at *
          rw [List.foldl_cons, List.foldl_nil] at hk
          split at hk
          · injection hk with hk
            omega
          · exact ih (by omega) k hk
      exact hlast n (Nat.le_refl _) k hk
    rw [hk] at hcl e
    rw [if_pos (show (0 : Int32) ≤ oI (some k) from nI_pos' (by omega))] at e
    refine changed h (oI (some k)) ?_ (Eqo.rf _ _) h1.2.1 ?_ hE hR
    · unfold X11_key X11_key_j0
      rw [someIn0 h, Option.bind_some, if_neg z, answers0, Option.bind_some, if_neg neg1_0, hcl, Option.bind_some]
    · unfold X12_key X12_key_j0
      rw [Option.bind_some, Option.bind_some, e]
/-- the most crossed -/
def gtO (L : List X3) (a : Option Nat) (l : Nat) : Bool := match a with
  | none => true
  | some b => decide (cnt L b < cnt L l)
def wcS (i : Nat) (L : List X3) (a : Option Nat) (l : Nat) : Option Nat := if i.testBit l = true ∧ gtO L a l = true then some l else a
def wcF (n i : Nat) (L : List X3) : Option Nat := (List.range n).foldl (wcS i L) none
def mI (L : List X3) (a : Option Nat) : Int32 := match a with
  | none => -1
  | some b => nI (cnt L b)
theorem wcF_none {n i : Nat} {L : List X3} (hi : i < 2 ^ n) : wcF n i L = none ↔ i = 0 := by
  have key : ∀ m, (List.range m).foldl (wcS i L) none = none ↔ ∀ k, k < m → i.testBit k = false := by
    intro m
    induction m with
    | zero => exact ⟨fun _ k hk => absurd hk (Nat.not_lt_zero _), fun _ => rfl⟩
    | succ m ih =>
      rw [List.range_succ, List.foldl_append]
      generalize (List.range m).foldl (wcS i L) none = a at *
      rw [List.foldl_cons, List.foldl_nil]
      unfold wcS
      by_cases q : i.testBit m = true
      · by_cases y : gtO L a m = true
        · rw [if_pos ⟨q, y⟩]
          refine ⟨fun z => (Option.some_ne_none _ z).elim, fun z => ?_⟩
          rw [z m (by omega)] at q
          cases q
        · rw [if_neg (fun w => y w.2)]
          have hne : a ≠ none := fun z => y (by rw [z]; rfl)
          refine ⟨fun z => (hne z).elim, fun z => ?_⟩
          rw [z m (by omega)] at q
          cases q
      · rw [if_neg (fun w => q w.1)]
        refine ⟨fun z k hk => ?_, fun z => ih.mpr (fun k hk => z k (by omega))⟩
        by_cases e : k = m
        · rw [e]
          exact Bool.eq_false_iff.mpr q
        · exact ih.mp z k (by omega)
  constructor
  · intro h
    have h2 := (key n).mp h
    apply Nat.eq_of_testBit_eq
    intro k
    rw [Nat.zero_testBit]
    by_cases hk : k < n
    · exact h2 k hk
    · exact tb_out hi (by omega)
  · intro h
    exact (key n).mpr (fun k _ => by rw [h, Nat.zero_testBit])
section H1
variable {σ : SS} {d n nk i c : Nat} {s p o : Int32} {nu : Nat → Nat → Nat} {lo : Nat → Nat} {L : List X3}
theorem mostCrossed_ok (hd : d < 5) (hs : RS σ d n nk nu lo) (h : RV σ d n i c s p o L) : X0_mostCrossed σ d = some (oI (wcF n i L)) ∧ ∀ k, wcF n i L = some k → k < n := by
  have h8 := hs.n8
  have h24 := h.l24
  have hcl : ∀ l, cnt L l ≤ L.length := fun l => List.countP_le_length
  have key := iter_range (f := X0_mostCrossed_l6b σ d) (s := (-1, -1, 0)) n (fun k a => ∀ b, a = some b → b < k) (wcS i L) (fun a => oI a) (fun a k => (oI a, mI L a, nI k)) none rfl (fun b hb => by cases hb) (by omega) (fun k a hk hI => by
    have hck := hcl k
    show X0_mostCrossed_l6c σ d (oI a) (mI L a) (nI k) = _
    unfold X0_mostCrossed_l6c X0_mostCrossed_j39
    rw [hs.ln, if_neg (nI_ge hk (by omega)), isIn_in hs h hk, Option.bind_some, v01, countOn_ok hd h8 h (by omega), Option.bind_some, Option.bind_some]
    simp only [Option.bind_some, nI_1]
    unfold wcS
    by_cases q : i.testBit k = true
    · rw [if_pos q]
      cases a with
      | none =>
        rw [if_neg (show ¬ nI (cnt L k) ≤ mI L none from fun w => by
          have := nI_pos' (n := cnt L k) (by omega)
          exact absurd (Int32.le_trans this w) (by show ¬ (0 : Int32) ≤ -1; decide)), if_pos ⟨q, rfl⟩]
        rfl
      | some b =>
        have hcb := hcl b
        by_cases y : cnt L b < cnt L k
        · rw [if_neg (show ¬ nI (cnt L k) ≤ mI L (some b) from nI_ge y (by omega)), if_pos ⟨q, by show decide _ = true; exact decide_eq_true y⟩]
          rfl
        · rw [if_pos (show nI (cnt L k) ≤ mI L (some b) from nI_le (by omega) (by omega)), if_neg (fun w => y (of_decide_eq_true w.2))]
    · rw [if_neg q, if_neg (fun w => q w.1)]) (fun k a hk hI => by
    intro b hb
    unfold wcS at hb
    split at hb
    · injection hb with hb
      omega
    · have := hI b hb
      omega) (fun a hI => by
    clear hI
    show X0_mostCrossed_l6c σ d (oI a) (mI L a) (nI n) = _
    unfold X0_mostCrossed_l6c
    rw [hs.ln, if_pos (nI_le (Nat.le_refl _) (by omega))])
  refine ⟨?_, key.2⟩
  unfold X0_mostCrossed X0_mostCrossed_j0 X0_mostCrossed_l6
  rw [key.1]
  rfl
theorem xworst (hs : RXS σ n nk nu lo) (h : RXV σ n i c s p o L) : X12_worst_l14 σ (-1) 0 = (if 0 ≤ oI (wcF n i L) then some (oI (wcF n i L), σ) else (X12_refuse σ 8).bind fun p64 => some (p64.1, p64.2)) := by
  have h8 := hs.n8
  have h24 := h.l24
  have hcl : ∀ l, cnt L l ≤ L.length := fun l => List.countP_le_length
  have key := iter_range (f := X12_worst_l14b σ) (s := (-1, 0)) n (fun k a => ∀ b, a = some b → b < k) (wcS i L) (fun a => oI a) (fun a k => (oI a, nI k)) none rfl (fun b hb => by cases hb) (by omega) (fun k a hk hI => by
    have hck := hcl k
    show X12_worst_l14c σ (oI a) (nI k) = _
    unfold X12_worst_l14c X12_worst_j49 X12_worst_j51
    rw [ck0, Option.bind_some, hs.ln, if_neg (nI_ge hk (by omega)), xisInside hs h hk, Option.bind_some, v01, xcrossings h8 h (by omega), Option.bind_some]
    simp only [Option.bind_some, nI_1]
    unfold wcS
    by_cases q : i.testBit k = true
    · rw [if_pos q]
      cases a with
      | none =>
        rw [if_pos (show oI none < 0 by decide), if_pos ⟨q, rfl⟩]
        rfl
      | some b =>
        have hcb := hcl b
        have hbk : b < k := hI b rfl
        rw [if_neg (show ¬ oI (some b) < 0 from nI_pos (by omega))]
        have hxb : X12_crossings σ (oI (some b)) = some (nI (cnt L b)) := xcrossings h8 h (by omega)
        rw [hxb, Option.bind_some]
        by_cases y : cnt L b < cnt L k
        · rw [if_neg (nI_ge y (by omega)), if_pos ⟨q, by show decide _ = true; exact decide_eq_true y⟩]
          rfl
        · rw [if_pos (nI_le (by omega) (by omega)), if_neg (fun w => y (of_decide_eq_true w.2))]
    · rw [if_neg q, if_neg (fun w => q w.1)]) (fun k a hk hI => by
    intro b hb
    unfold wcS at hb
    split at hb
    · injection hb with hb
      omega
    · have := hI b hb
      omega) (fun a hI => by
    clear hI
    show X12_worst_l14c σ (oI a) (nI n) = _
    unfold X12_worst_l14c
    rw [ck0, Option.bind_some, hs.ln, if_pos (nI_le (Nat.le_refl _) (by omega))])
  unfold X12_worst_l14
  rw [key.1, Option.bind_some]
  rfl
end H1
theorem op_worst : DOp X11_worst X12_worst := by
  intro σ n nk nu lo i c s p o L h
  have h1 := h.ps (ps1 σ 0)
  have hn := wcF_none (n := n) (i := i) (L := L) h.2.1.ilt
  have h8 := h.1.n8
  by_cases z : i = 0
  · have h9 := h.ps (s0_ps σ 8)
    have e := xworst h9.2.2.1 h9.2.2.2
    rw [hn.mpr z, if_neg (show ¬ (0 : Int32) ≤ oI none by decide), refuse_eq, Option.bind_some] at e
    refine refused h 8 (-1) ?_ ?_
    · unfold X11_worst X11_worst_j0
      rw [someIn0 h, Option.bind_some, if_pos z, answersN _ (by decide), Option.bind_some, if_pos rfl]
    · unfold X12_worst X12_worst_j0
      rw [Option.bind_some, Option.bind_some, s0e, e]
  · obtain ⟨hcl, hkn⟩ := mostCrossed_ok (by decide) h1.1 h1.2.1
    have h9 := h.ps (s0_ps σ 0)
    have e := xworst h9.2.2.1 h9.2.2.2
    have hb : ∃ k, wcF n i L = some k := by
      cases hh : wcF n i L with
      | none => exact (z (hn.mp hh)).elim
      | some k => exact ⟨k, rfl⟩
    obtain ⟨k, hk⟩ := hb
    have := hkn k hk
    rw [hk] at hcl e
    rw [if_pos (show (0 : Int32) ≤ oI (some k) from nI_pos' (by omega))] at e
    refine told h (oI (some k)) ?_ ?_
    · unfold X11_worst X11_worst_j0
      rw [someIn0 h, Option.bind_some, if_neg z, answers0, Option.bind_some, if_neg neg1_0, hcl, Option.bind_some]
    · unfold X12_worst X12_worst_j0
      rw [Option.bind_some, Option.bind_some, s0e, e]
