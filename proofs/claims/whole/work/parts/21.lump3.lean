/-! ===== the class: how many lumps, the best cut ===== -/
theorem cld_not {m T : Nat} {L : List X3} (hw : ∀ x ∈ L, x.1 < 8 ∧ x.2.1 < 8) (h : Cld m L T) : Cld m L (255 ^^^ T) := by
  intro x hx ht hm
  have h8 := hw x hx
  rw [xor_tb h8.1, xor_tb h8.2] at hm ⊢
  have := h x hx ht
  cases e1 : T.testBit x.1 <;> cases e2 : T.testBit x.2.1 <;> rw [e1, e2] at this hm <;> simp at this hm ⊢
theorem cld_or {m a b : Nat} {L : List X3} (h : Cld m L a) (g : Cld m L b) : Cld m L (a ||| b) := by
  intro x hx ht hm
  rw [Nat.testBit_or, Nat.testBit_or] at hm ⊢
  have h1 := h x hx ht
  have h2 := g x hx ht
  simp only [Bool.or_eq_true] at hm ⊢
  rcases hm with (q | q) | (q | q)
  · exact ⟨.inl (h1 (.inl q)).1, .inl (h1 (.inl q)).2⟩
  · exact ⟨.inr (h2 (.inl q)).1, .inr (h2 (.inl q)).2⟩
  · exact ⟨.inl (h1 (.inr q)).1, .inl (h1 (.inr q)).2⟩
  · exact ⟨.inr (h2 (.inr q)).1, .inr (h2 (.inr q)).2⟩
noncomputable def hmF (n i : Nat) (L : List X3) : Nat × Nat := (List.range n).foldl (fun a l => if i.testBit l = false ∨ a.1.testBit l = true then a else (a.1 ||| lumpF i L l, a.2 + (if 1 < popc (lumpF i L l) then 1 else 0))) (0, 0)
section C5
variable {σ : SS} {d n nk i c : Nat} {s p o : Int32} {nu : Nat → Nat → Nat} {lo : Nat → Nat} {L : List X3}
theorem lump_out {m l q : Nat} (h : IsLump m L l q) (hl : m.testBit l = false) : q = 0 := by
  have := h.2.2.2 0 (fun z => by rw [hl] at z; cases z) (fun x _ _ z => by
    rw [Nat.zero_testBit, Nat.zero_testBit] at z
    rcases z with z | z <;> cases z)
  exact this.antisymm (fun k hk => by rw [Nat.zero_testBit] at hk; cases hk)
theorem howMany_ok (hd : d < 5) (hs : RS σ d n nk nu lo) (h : RV σ d n i c s p o L) : X3_howMany σ d = some (nI (hmF n i L).2) ∧ (hmF n i L).2 ≤ 8 := by
  have h8 := hs.n8
  have hi := p256 h8 h.ilt
  have hw := wf8 h8 h
  have key := iter_range (f := X3_howMany_l6b σ d) (s := (0, 0, 0)) n (fun k a => a.1 < 256 ∧ a.2 ≤ k ∧ Cld i L a.1) (fun a l => if i.testBit l = false ∨ a.1.testBit l = true then a else (a.1 ||| lumpF i L l, a.2 + (if 1 < popc (lumpF i L l) then 1 else 0))) (fun a => nI a.2) (fun a k => (nI a.1, nI a.2, nI k)) (0, 0) rfl ⟨by decide, Nat.le_refl _, fun x _ _ z => by
      rw [Nat.zero_testBit, Nat.zero_testBit] at z
      rcases z with z | z <;> cases z⟩ (by omega) (fun k a hk hI => by
    obtain ⟨sn, ct⟩ := a
    obtain ⟨g1, g2, g3⟩ : sn < 256 ∧ ct ≤ k ∧ Cld i L sn := hI
    obtain ⟨e, hq⟩ := around_eq hd hs h hi hk
    have eb := bc_ok σ _ hq.1
    have h1 : ¬ nI n ≤ nI k := nI_ge hk (by omega)
    have hpl := popc_le (lumpF i L k)
    have hor : nI sn ||| nI (lumpF i L k) = nI (sn ||| lumpF i L k) := nI_or _ _
    have han : nI (lumpF i L k) &&& nI sn = nI (lumpF i L k &&& sn) := nI_and _ _
    have hal : lumpF i L k &&& sn < 256 := and_lt hq.1
    show X3_howMany_l6c σ d (nI sn) (nI ct) (nI k) = _
    have hfin : ∀ (x y : Int32), ((some (x + y)).bind fun x2_48 => (some (nI sn ||| nI (lumpF i L k))).bind fun x1_53 => (some (nI k + 1)).bind fun x3_54 => (some (Sum.inl (x1_53, x2_48, x3_54)) : Option ((Int32 × Int32 × Int32) ⊕ Int32))) = some (Sum.inl (nI (sn ||| lumpF i L k), x + y, nI (k + 1))) := fun x y => by
      rw [Option.bind_some, Option.bind_some, Option.bind_some, hor, nI_1]
    unfold X3_howMany_l6c X3_howMany_j46 X3_howMany_j47 X0_leadCount X0_leadCount_j0 X0_insideSet X0_insideSet_j0
    rw [hs.ln, Option.bind_some, if_neg h1, h.ins, Option.bind_some, e, Option.bind_some, han, eb, Option.bind_some, hfin, hfin]
    have h00 : nI ct + 0 = nI ct := by rw [l0, nI_add]; rfl
    by_cases hP : i.testBit k = false ∨ sn.testBit k = true
    · rw [if_pos hP]
      have hor2 : sn ||| lumpF i L k = sn := by
        have hsub : Sub (lumpF i L k) sn := by
          rcases hP with z | z
          · rw [lump_out hq z]
            intro j hj
            rw [Nat.zero_testBit] at hj
            cases hj
          · exact hq.2.2.2 sn (fun _ => z) g3
        exact Sub.antisymm (fun j hj => by
          rw [Nat.testBit_or, Bool.or_eq_true] at hj
          exact hj.elim id (hsub j)) (fun j hj => by rw [Nat.testBit_or, hj, Bool.true_or])
      rw [hor2, h00]
      by_cases hz : lumpF i L k &&& sn = 0
      · have hik : i.testBit k = false := by
          rcases hP with z | z
          · exact z
          · cases hik : i.testBit k
            · rfl
            · exact (and0.mp hz k (hq.2.1 hik) z).elim
        have h0 := lump_out hq hik
        rw [hz, if_pos l0.symm, h0, popc_0, if_pos (show nI 0 ≤ 1 by decide)]
      · rw [if_neg (nI_ne0 (Nat.pos_of_ne_zero hz) (by omega))]
    · rw [if_neg hP]
      have hik : i.testBit k = true := by
        cases hik : i.testBit k
        · exact (hP (.inl hik)).elim
        · rfl
      have hsn : sn.testBit k = false := by
        cases hsn : sn.testBit k
        · rfl
        · exact (hP (.inr hsn)).elim
      have hz : lumpF i L k &&& sn = 0 := and0.mpr (fun j hj1 hj2 => by
          have := hq.2.2.2 (255 ^^^ sn) (fun _ => by rw [xor_tb (by omega), hsn]; rfl) (cld_not hw g3) j hj1
          rw [xor_tb (tb_lt g1 hj2), hj2] at this
          cases this)
      rw [hz, if_pos l0.symm]
      by_cases hp : 1 < popc (lumpF i L k)
      · rw [if_neg (show ¬ nI (popc (lumpF i L k)) ≤ 1 from nI_ge hp (by omega))]
        simp only [hp, if_true]
        rw [nI_1]
      · rw [if_pos (show nI (popc (lumpF i L k)) ≤ 1 from nI_le (b := 1) (by omega) (by decide)), h00]
        simp only [hp, if_false, Nat.add_zero]) (fun k a hk hI => by
    obtain ⟨sn, ct⟩ := a
    obtain ⟨g1, g2, g3⟩ : sn < 256 ∧ ct ≤ k ∧ Cld i L sn := hI
    obtain ⟨e, hq⟩ := around_eq hd hs h hi hk
    show _ ∧ _ ∧ _
    simp only
    split
    · exact ⟨g1, by omega, g3⟩
    · refine ⟨or_lt g1 hq.1, ?_, cld_or g3 hq.2.2.1⟩
      show ct + _ ≤ k + 1
      split <;> omega) (fun a hI => by
    clear hI
    show X3_howMany_l6c σ d (nI a.1) (nI a.2) (nI n) = _
    unfold X3_howMany_l6c X0_leadCount X0_leadCount_j0
    rw [hs.ln, Option.bind_some]
    exact if_pos (nI_le (Nat.le_refl _) (by omega)))
  refine ⟨?_, ?_⟩
  · unfold X3_howMany X3_howMany_j0 X3_howMany_l6
    rw [key.1]
    rfl
  · have : (hmF n i L).2 ≤ n := key.2.2.1
    omega
/-- the best cut: found (n if none), fewest -/
noncomputable def bcF (n i : Nat) (L : List X3) : Option Nat × Nat := (List.range n).foldl (fun a l => if i.testBit l = true ∧ largestF n (i &&& (255 ^^^ 2 ^ l)) L < a.2 then (some l, largestF n (i &&& (255 ^^^ 2 ^ l)) L) else a) (none, 9)
def oI : Option Nat → Int32
  | some k => nI k
  | none => -1
theorem bestCut_ok (hd : d < 5) (hs : RS σ d n nk nu lo) (h : RV σ d n i c s p o L) : X3_bestCut σ d = some (oI (bcF n i L).1) := by
  have h8 := hs.n8
  have hi := p256 h8 h.ilt
  have key := iter_range (f := X3_bestCut_l7b σ d) (s := (-1, 9, 0)) n (fun _ a => a.2 ≤ 9) (fun a l => if i.testBit l = true ∧ largestF n (i &&& (255 ^^^ 2 ^ l)) L < a.2 then (some l, largestF n (i &&& (255 ^^^ 2 ^ l)) L) else a) (fun a => oI a.1) (fun a k => (oI a.1, nI a.2, nI k)) (none, 9) rfl (Nat.le_refl _) (by omega) (fun k a hk hI => by
    obtain ⟨fd, fw⟩ := a
    have g1 : fw ≤ 9 := hI
    clear hI
    obtain ⟨e, hle⟩ := largest_ok hd hs h (m := i &&& (255 ^^^ 2 ^ k)) (and_lt hi)
    have h1 : ¬ nI n ≤ nI k := nI_ge hk (by omega)
    have hsh : nI 1 <<< (nI k &&& nI 31) = nI (2 ^ k) := hsh (by omega)
    have han : nI i &&& (nI (2 ^ k) ^^^ -nI 1) = nI (i &&& (255 ^^^ 2 ^ k)) := nI_andn hi
    have han' : nI i &&& ((1 <<< (nI k &&& 31)) ^^^ (-1)) = nI (i &&& (255 ^^^ 2 ^ k)) := by
      rw [← han, ← hsh]
      rfl
    show X3_bestCut_l7c σ d (oI fd) (nI fw) (nI k) = _
    unfold X3_bestCut_l7c X3_bestCut_j50 X0_leadCount X0_leadCount_j0 X0_insideSet X0_insideSet_j0
    rw [hs.ln, Option.bind_some, if_neg h1, isIn_in hs h hk, Option.bind_some]
    cases hik : i.testBit k
    · rw [show (if false = true then (1 : Int32) else 0) = 0 from rfl, if_pos rfl, Option.bind_some, if_neg (fun z => by cases z.1), nI_1]
    · rw [show (if true = true then (1 : Int32) else 0) = 1 from rfl, if_neg neg1_0, h.ins, Option.bind_some, han', e, Option.bind_some]
      by_cases hlt : largestF n (i &&& (255 ^^^ 2 ^ k)) L < fw
      · rw [if_neg (nI_ge hlt (by omega)), if_neg (nI_ge hlt (by omega)), if_pos ⟨rfl, hlt⟩, Option.bind_some, nI_1]
        rfl
      · rw [if_pos (nI_le (by omega) (by omega)), if_pos (nI_le (by omega) (by omega)), if_neg (fun z => hlt z.2), Option.bind_some, nI_1]) (fun k a hk hI => by
    obtain ⟨fd, fw⟩ := a
    have g1 : fw ≤ 9 := hI
    obtain ⟨e, hle⟩ := largest_ok hd hs h (m := i &&& (255 ^^^ 2 ^ k)) (and_lt hi)
    simp only
    split
    · show largestF n (i &&& (255 ^^^ 2 ^ k)) L ≤ 9
      omega
    · exact g1) (fun a hI => by
    clear hI
    show X3_bestCut_l7c σ d (oI a.1) (nI a.2) (nI n) = _
    unfold X3_bestCut_l7c X0_leadCount X0_leadCount_j0
    rw [hs.ln, Option.bind_some]
    exact if_pos (nI_le (Nat.le_refl _) (by omega)))
  unfold X3_bestCut X3_bestCut_j0 X3_bestCut_l7
  rw [key.1]
  rfl
end C5
