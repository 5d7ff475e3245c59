/-! ===== ops: tries, nextTry, waste ===== -/
section WQ
variable {σ : SS} {d n nk i c : Nat} {s p o : Int32} {nu : Nat → Nat → Nat} {lo : Nat → Nat} {L : List X3}
theorem usF_le {n nk : Nat} {nu : Nat → Nat → Nat} {lo : Nat → Nat} (hw : wfS n nk nu lo) (u : Nat) : usF n nu u ≤ 128 := by
  have h8 := hw.1
  have := sumB_le (n := n) (p := fun l => if u.testBit l = true then nu 5 l else 0) (c := 16) (fun l hl => by
    have := hw.2.2.1 l hl
    show (if u.testBit l = true then nu 5 l else 0) ≤ 16
    split <;> omega)
  unfold usF
  omega
theorem trF_le {n nk : Nat} {nu : Nat → Nat → Nat} {lo : Nat → Nat} (hw : wfS n nk nu lo) (u : Nat) : trF n nu u ≤ 1152 := by
  have h8 := hw.1
  have := sumB_le (n := n) (p := fun l => if u.testBit l = true then nu 5 l * (ahF n nu u l + 1) else 0) (c := 144) (fun l hl => by
    have h1 := hw.2.2.1 l hl
    have h2 := ahF_le (n := n) nu u l
    have h3 : nu 5 l * (ahF n nu u l + 1) ≤ 16 * 9 := Nat.mul_le_mul (by omega) (by omega)
    show (if u.testBit l = true then nu 5 l * (ahF n nu u l + 1) else 0) ≤ 144
    split <;> omega)
  unfold trF
  omega
theorem hasLook_in (hs : RS σ d n nk nu lo) {k : Nat} (hk : k < nk) : X0_hasLook σ d (nI k) = some 1 := by
  have h3 := hs.k3
  unfold X0_hasLook X0_hasLook_j0
  rw [if_neg (nI_pos (by omega)), hs.lk, if_neg (nI_ge hk (by omega))]
theorem hasLook_out (hs : RS σ d n nk nu lo) {a : Int32} (ha : a < 0 ∨ nI nk ≤ a) : X0_hasLook σ d a = some 0 := by
  unfold X0_hasLook X0_hasLook_j0
  rw [hs.lk]
  rcases ha with q | q
  · rw [if_pos q]
  · rw [if_pos q, ite_self]
theorem lookSet_in (hd : d < 5) (hs : RS σ d n nk nu lo) {k : Nat} (hk : k < nk) : X0_lookSet σ d (nI k) = some (nI (lo k)) := by
  have h3 := hs.k3
  have e := lo_at (σ := σ) hd (k := k) (by omega)
  rw [hs.2.2.2.2.1 k hk] at e
  unfold X0_lookSet X0_lookSet_j0
  rw [hasLook_in hs hk, Option.bind_some, if_neg neg1_0, show X4_at σ (4 * d + 3) 0 (nI k) = some (nI (lo k)) from e, Option.bind_some]
theorem lookSet_out (hs : RS σ d n nk nu lo) {a : Int32} (ha : a < 0 ∨ nI nk ≤ a) : X0_lookSet σ d a = some (nI 0) := by
  unfold X0_lookSet X0_lookSet_j0
  rw [hasLook_out hs ha, Option.bind_some, if_pos rfl]
  rfl
theorem inside_ok (h : RV σ d n i c s p o L) : X0_insideSet σ d = some (nI i) := by
  unfold X0_insideSet X0_insideSet_j0
  rw [h.ins]
theorem used_ok (hd : d < 5) (hs : RS σ d n nk nu lo) {u : Nat} (hu : u < 256) : X8_usedTogether σ d (nI u) = some (nI (usF n nu u)) := by
  have h8 := hs.n8
  unfold X8_usedTogether X8_usedTogether_j0 X8_usedTogether_l5
  rw [loop_sum (n := n) (fun l => if u.testBit l = true then nu 5 l else 0) (by omega) (fun a k hk => by
    show X8_usedTogether_l5c σ d (nI u) (nI a) (nI k) = _
    unfold X8_usedTogether_l5c X8_usedTogether_j36 X0_leadCount X0_leadCount_j0
    rw [hs.ln, Option.bind_some, if_neg (nI_ge hk (by omega)), bit1 hu (by omega), show X0_number σ d 5 (nI k) = some (nI (nu 5 k)) from number_ok hd hs (by decide) hk, Option.bind_some]
    by_cases q : u.testBit k = true
    · rw [if_pos q, if_pos q, nI_add, Option.bind_some, nI_1, Option.bind_some]
    · rw [if_neg q, if_neg q, show (0 : Int32) = nI 0 from rfl, nI_add, Option.bind_some, nI_1, Option.bind_some]) (fun a => by
    show X8_usedTogether_l5c σ d (nI u) (nI a) (nI n) = _
    unfold X8_usedTogether_l5c X0_leadCount X0_leadCount_j0
    rw [hs.ln, Option.bind_some, if_pos (nI_le (Nat.le_refl _) (by omega))]), Option.bind_some]
  rfl
theorem triesT_ok (hd : d < 5) (hs : RS σ d n nk nu lo) {u : Nat} (hu : u < 256) : X8_triesTogether σ d (nI u) = some (nI (trF n nu u)) := by
  have h8 := hs.n8
  unfold X8_triesTogether X8_triesTogether_j0 X8_triesTogether_l5
  rw [loop_sum (n := n) (fun l => if u.testBit l = true then nu 5 l * (ahF n nu u l + 1) else 0) (by omega) (fun a k hk => by
    show X8_triesTogether_l5c σ d (nI u) (nI a) (nI k) = _
    unfold X8_triesTogether_l5c X8_triesTogether_j44 X0_leadCount X0_leadCount_j0
    rw [hs.ln, Option.bind_some, if_neg (nI_ge hk (by omega)), bit1 hu (by omega), show X0_number σ d 5 (nI k) = some (nI (nu 5 k)) from number_ok hd hs (by decide) hk, Option.bind_some, ahead_ok hd hs hu hk, Option.bind_some, nI_1, pk_mul]
    by_cases q : u.testBit k = true
    · rw [if_pos q, if_pos q, nI_add, Option.bind_some, nI_1, Option.bind_some]
    · rw [if_neg q, if_neg q, Nat.add_zero, nI_1, Option.bind_some]) (fun a => by
    show X8_triesTogether_l5c σ d (nI u) (nI a) (nI n) = _
    unfold X8_triesTogether_l5c X0_leadCount X0_leadCount_j0
    rw [hs.ln, Option.bind_some, if_pos (nI_le (Nat.le_refl _) (by omega))]), Option.bind_some]
  rfl
theorem c48 {k : Nat} (hk : k < 8) : ck (LN 13 34) (48 + nI k) = some (48 + k) := by
  show ck (LN 13 34) (nI 48 + nI k) = _
  rw [nI_add]
  exact ckc (by omega)
theorem c56 {k : Nat} (hk : k < 8) : ck (LN 13 34) (56 + nI k) = some (56 + k) := by
  show ck (LN 13 34) (nI 56 + nI k) = _
  rw [nI_add]
  exact ckc (by omega)
theorem g48 (hs : RXS σ n nk nu lo) {k : Nat} (hk : k < n) : σ.1 13 34 (48 + k) = nI (nu 5 k) := by
  have := hs.gn (w := 5) (by decide) hk
  rw [show 48 + k = 8 + 8 * 5 + k by omega]
  exact this
theorem xtries_l (hs : RXS σ n nk nu lo) {u : Nat} (hu : u < 256) : iter (X12_tries_l70b σ (nI u)) NF (0, 0, 0) = some (nI (usF n nu u), nI (trF n nu u)) := by
  have h8 := hs.n8
  obtain ⟨b, w, e, h1⟩ := loopI (f := X12_tries_l70b σ (nI u)) (s := (0, 0, 0)) n (fun k (b : Nat × Nat) (_ : Unit) => ((nI b.1, nI b.2, nI k) : Int32 × Int32 × Int32)) (fun b _ => ((nI b.1, nI b.2) : Int32 × Int32)) (fun k b _ => b.1 = sumB k (fun l => if u.testBit l = true then nu 5 l else 0) ∧ b.2 = sumB k (fun l => if u.testBit l = true then nu 5 l * (ahF n nu u l + 1) else 0)) (0, 0) () rfl ⟨rfl, rfl⟩ (by omega) (fun k b w hk hI => by
    obtain ⟨h1, h2⟩ := hI
    show ∃ b' w', X12_tries_l70c σ (nI u) (nI b.1) (nI b.2) (nI k) = _ ∧ _
    unfold X12_tries_l70c X12_tries_j131
    rw [ck0, Option.bind_some, hs.ln, if_neg (nI_ge hk (by omega)), xhas hu (by omega), Option.bind_some, v01, c48 (by omega)]
    simp only [Option.bind_some]
    rw [g48 hs hk, xaheadOf hs hu hk]
    simp only [Option.bind_some]
    rw [show (1 : Int32) + nI (ahF n nu u k) = nI (1 + ahF n nu u k) from nI_add _ _, pk_mul, nI_add, nI_add, nI_1]
    refine ⟨(sumB (k + 1) (fun l => if u.testBit l = true then nu 5 l else 0), sumB (k + 1) (fun l => if u.testBit l = true then nu 5 l * (ahF n nu u l + 1) else 0)), (), ?_, rfl, rfl⟩
    rw [sumB_s, sumB_s, ← h1, ← h2]
    by_cases q : u.testBit k = true
    · rw [if_pos q, if_pos q, if_pos q, Nat.add_comm 1 (ahF n nu u k)]
    · rw [if_neg q, if_neg q, if_neg q]
      rfl) (fun b w hI => by
    show X12_tries_l70c σ (nI u) (nI b.1) (nI b.2) (nI n) = _
    unfold X12_tries_l70c
    rw [ck0, Option.bind_some, hs.ln, if_pos (nI_le (Nat.le_refl _) (by omega))])
  rw [e, h1.1, h1.2]
  rfl
theorem op_tries (a : Int32) (h : RelD σ n nk nu lo i c s p o L) (hF : Fr σ) : OR3 PF σ (fun σ => X11_tries σ a) (fun σ => X12_tries σ a) (fun τ => RelD τ n nk nu lo i c s p o L ∧ Fr τ) := by
  have h1 := h.ps (ps1 σ 0)
  have h8 := h.1.n8
  have hk3 := h.1.k3
  have hi := p256 h8 h.2.1.ilt
  have hC : ∀ τ, Eqo PS σ τ → RelD τ n nk nu lo i c s p o L ∧ Fr τ := fun τ hE => ⟨h.ps hE, hF.keep hE (fun k n j q => by unfold PS at q; unfold FrC; omega)⟩
  rcases lt_or a nk (by omega) with ⟨k, hk, rfl⟩ | ⟨ha, hn⟩
  · have hu : lo k &&& i < 256 := Nat.lt_of_le_of_lt Nat.and_le_right hi
    have cl : X11_tries σ (nI k) = X11_tries_j68 σ (nI (lo k &&& i)) (lN (usF n nu (lo k &&& i))) (if nI (lo k &&& i) = 0 then 8 else (if (lg_cmp (lN (usF n nu (lo k &&& i))) 0) = 0 then 9 else 0)) := by
      have := usF_le h.1.wf (lo k &&& i)
      unfold X11_tries X11_tries_j0
      rw [lookSet_in (by decide) h.1 hk, Option.bind_some, inside_ok h.2.1, Option.bind_some, nI_and, Option.bind_some, used_ok (by decide) h.1 hu, Option.bind_some, nI_l (by omega), Option.bind_some, hasLook_in h.1 hk, Option.bind_some, if_neg neg1_0]
    have rf : ∀ υ, RelD (xb υ) n nk nu lo i c s p o L → X12_tries υ (nI k) = if nI (lo k &&& i) = 0 then some (0, wI (xb υ) 11 0 0 8) else X12_tries_l70 (xb υ) (nI (lo k &&& i)) 0 0 0 := fun υ hυ => by
      unfold X12_tries X12_tries_j0
      rw [Option.bind_some, Option.bind_some]
      show ((ck (LN 13 34) 2).bind fun j18 => (X12_isIn (xb υ) (Int32.toInt64 (nI k)) 0 (Int32.toInt64 (((xb υ).1 13 34 j18) - 1))).bind _) = _
      rw [ck2, Option.bind_some, hυ.2.2.1.lk, xin1_in _ hk (by omega), Option.bind_some, if_neg neg1_0, c56 (by omega), Option.bind_some, ck3, Option.bind_some]
      show ((some ((xb υ).1 13 34 (56 + k) &&& (xb υ).1 13 34 3)).bind _) = _
      rw [hυ.2.2.1.2.2.2.1 k hk, hυ.2.2.2.ins, nI_and, Option.bind_some]
      rfl
    generalize hug : lo k &&& i = u at *
    have hus := usF_le h.1.wf u
    have htr := trF_le h.1.wf u
    by_cases z : u = 0
    · have r8 := h.ps (s0_ps σ 8)
      refine refP hC PS_PF 8 0 ?_ ?_
      · show X11_tries σ (nI k) = _
        rw [cl, if_pos (by rw [z]; rfl)]
        unfold X11_tries_j68
        rw [answersN _ (by decide), Option.bind_some, if_pos rfl]
      · show X12_tries (wI σ 10 0 11 8) (nI k) = _
        rw [rf _ r8, if_pos (by rw [z]; rfl)]
        rfl
    · rw [if_neg (nI_ne0 (by omega) (by omega))] at cl
      by_cases y : usF n nu u = 0
      · have r9 := h.ps (s0_ps σ 9)
        refine refP hC PS_PF 9 0 ?_ ?_
        · show X11_tries σ (nI k) = _
          rw [cl, y, cmp_0, if_pos rfl]
          unfold X11_tries_j68
          rw [answersN _ (by decide), Option.bind_some, if_pos rfl]
        · show X12_tries (wI σ 10 0 11 9) (nI k) = _
          rw [rf _ r9, if_neg (nI_ne0 (by omega) (by omega))]
          unfold X12_tries_l70
          rw [show xb (wI σ 10 0 11 9) = s0 σ 9 from rfl, xtries_l r9.2.2.1 hu, Option.bind_some, y, if_pos (show nI 0 = 0 from rfl), no_eq, Option.bind_some, zb_0, Option.bind_some]
      · rw [cmp_p (by omega) (Nat.pos_of_ne_zero y), if_neg neg1_0] at cl
        have hX := labs_lN (n := trF n nu u) (by omega)
        have t1 := tell_ok (wI σ 10 0 11 0) hX (by omega) (b := usF n nu u) (Nat.pos_of_ne_zero y) (by omega)
        generalize hA : lN (trF n nu u) / lN (Nat.gcd (trF n nu u) (usF n nu u)) = A at t1
        generalize hB : lN (usF n nu u) / lN (Nat.gcd (trF n nu u) (usF n nu u)) = B at t1
        have r2 := h1.fr (fr1 _ A B)
        have r3 := r2.ps (xb_ps _)
        have t2 := xtell_ok (xb (wJ (wJ (wI σ 10 0 11 0) 10 0 12 A) 10 0 13 B)) hX (by omega) (b := usF n nu u) (Nat.pos_of_ne_zero y) (by omega)
        rw [hA, hB] at t2
        refine ⟨1, wJ (wJ (wI σ 10 0 11 0) 10 0 12 A) 10 0 13 B, wJ (wJ (xb (wJ (wJ (wI σ 10 0 11 0) 10 0 12 A) 10 0 13 B)) 11 0 2 A) 11 0 3 B, ?_, ?_, ?_, ?_, r3.fr (fr2 _ A B), Fr.tell (xb_ps _) (fun k n j q => by unfold PS at q; unfold FrC; omega)⟩
        · show X11_tries σ (nI k) = _
          rw [cl]
          unfold X11_tries_j68
          rw [answers0, Option.bind_some, if_neg neg1_0, triesT_ok (by decide) h1.1 hu, Option.bind_some, nI_l (by omega), t1, Option.bind_some, if_neg neg1_0]
        · show X12_tries _ (nI k) = _
          rw [rf _ r3, if_neg (nI_ne0 (by omega) (by omega))]
          unfold X12_tries_l70
          rw [xtries_l r3.2.2.1 hu, Option.bind_some, if_neg (nI_ne0 (Nat.pos_of_ne_zero y) (by omega)), nI_l (by omega), nI_l (by omega), t2, Option.bind_some, zb_1, Option.bind_some]
        · exact xb_st (by
            show (wI σ 10 0 11 0).1 10 0 11 = 0
            rw [wI_eq])
        · exact ((((ps1 σ 0).mono PS_PF).tr ((fr1 _ _ _).mono (fun _ _ _ q => .inr q))).tr ((xb_ps _).mono PS_PF)).tr ((fr2 _ _ _).mono (fun _ _ _ q => .inr q))
  · have r2 := h.ps (s0_ps σ 2)
    refine refP hC PS_PF 2 0 ?_ ?_
    · show X11_tries σ a = _
      unfold X11_tries X11_tries_j0
      rw [lookSet_out h.1 ha, Option.bind_some, inside_ok h.2.1, Option.bind_some, nI_and, Option.bind_some, used_ok (by decide) h.1 (Nat.lt_of_le_of_lt Nat.and_le_right hi), Option.bind_some, Option.bind_some, hasLook_out h.1 ha, Option.bind_some, if_pos rfl]
      unfold X11_tries_j68
      rw [answersN _ (by decide), Option.bind_some, if_pos rfl]
    · show X12_tries (wI σ 10 0 11 2) a = _
      unfold X12_tries X12_tries_j0
      rw [Option.bind_some, Option.bind_some, s0e, ck2, Option.bind_some, r2.2.2.1.lk, xin1_out _ (by omega) ha, Option.bind_some, if_pos rfl]
      rfl
theorem triedAt_ok (hd : d < 5) (hs : RS σ d n nk nu lo) {u : Nat} (hu : u < 256) {m : Nat} (hm : m < 1000) : X8_triedAt σ d (nI u) (nI m) = some (match ntF n nu u m with
    | some l => nI l
    | none => -1) := by
  have h8 := hs.n8
  unfold X8_triedAt X8_triedAt_j0 X8_triedAt_l3 ntF
  rw [show (0 : Int32) = nI 0 from rfl, loop_find (b := 0) (N := n) (fun l => u.testBit l && decide (ahF n nu u l = m)) (by omega) (fun k hk => by
    have hle := ahF_le (n := n) nu u k
    rw [Nat.zero_add, Nat.zero_add]
    show X8_triedAt_l3c σ d (nI u) (nI m) (nI k) = _
    unfold X8_triedAt_l3c X8_triedAt_j36 X0_leadCount X0_leadCount_j0
    rw [hs.ln, Option.bind_some, if_neg (nI_ge hk (by omega)), bit1 hu (by omega), ahead_ok hd hs hu hk, Option.bind_some, nI_1, Option.bind_some]
    by_cases q : u.testBit k = true
    · rw [if_pos q]
      by_cases z : ahF n nu u k = m
      · rw [if_pos (by rw [z]), if_pos (by simp [q, z])]
      · rw [if_neg (fun w => z ((nI_eq (by omega) (by omega)).mp w)), if_neg (by simp [z])]
    · rw [if_neg q, if_neg (by simp [q])]) (by
    rw [Nat.zero_add]
    show X8_triedAt_l3c σ d (nI u) (nI m) (nI n) = _
    unfold X8_triedAt_l3c X0_leadCount X0_leadCount_j0
    rw [hs.ln, Option.bind_some, if_pos (nI_le (Nat.le_refl _) (by omega))]), Option.bind_some]
  cases e : (List.range n).find? (fun l => u.testBit l && decide (ahF n nu u l = m)) with
  | none => rfl
  | some k =>
    show some (nI (0 + k)) = _
    rw [Nat.zero_add]
theorem xnextTry (hs : RXS σ n nk nu lo) {u : Nat} (hu : u < 256) (x : Int32) : X12_nextTry_l54 σ x (nI u) 0 = (match (List.range n).find? (fun l => u.testBit l && decide (nI (ahF n nu u l) = x)) with
    | some l => some (nI l, σ)
    | none => some (-1, wI σ 11 0 0 8)) := by
  have h8 := hs.n8
  unfold X12_nextTry_l54
  rw [show (0 : Int32) = nI 0 from rfl, loop_find (b := 0) (N := n) (fun l => u.testBit l && decide (nI (ahF n nu u l) = x)) (by omega) (fun k hk => by
    rw [Nat.zero_add, Nat.zero_add]
    show X12_nextTry_l54c σ x (nI u) (nI k) = _
    unfold X12_nextTry_l54c X12_nextTry_j88
    rw [ck0, Option.bind_some, hs.ln, if_neg (nI_ge hk (by omega)), xhas hu (by omega), Option.bind_some, v01, xaheadOf hs hu hk, Option.bind_some, nI_1, Option.bind_some]
    by_cases q : u.testBit k = true
    · rw [if_pos q]
      by_cases z : nI (ahF n nu u k) = x
      · rw [if_pos z, if_pos (by simp [q, z])]
      · rw [if_neg z, if_neg (by simp [z])]
    · rw [if_neg q, if_neg (by simp [q])]) (by
    rw [Nat.zero_add]
    show X12_nextTry_l54c σ x (nI u) (nI n) = _
    unfold X12_nextTry_l54c
    rw [ck0, Option.bind_some, hs.ln, if_pos (nI_le (Nat.le_refl _) (by omega))]), Option.bind_some]
  cases e : (List.range n).find? (fun l => u.testBit l && decide (nI (ahF n nu u l) = x)) with
  | none => rfl
  | some k =>
    show some (nI (0 + k), σ) = _
    rw [Nat.zero_add]
theorem op_nextTry (a b : Int32) (h : RelD σ n nk nu lo i c s p o L) : OR3 PS σ (fun σ => X11_nextTry σ a b) (fun σ => X12_nextTry σ a b) (fun _ => True) := by
  have h1 := h.ps (ps1 σ 0)
  have h8 := h.1.n8
  have hk3 := h.1.k3
  have hi := p256 h8 h.2.1.ilt
  rcases lt_or a nk (by omega) with ⟨k, hk, rfl⟩ | ⟨ha, hn⟩
  · have hu : lo k &&& i < 256 := Nat.lt_of_le_of_lt Nat.and_le_right hi
    have hun : lo k &&& i < 2 ^ n := Nat.lt_of_le_of_lt Nat.and_le_right h.2.1.ilt
    have cl : X11_nextTry σ (nI k) b = if b < 0 then X11_nextTry_j45 σ b (nI (lo k &&& i)) else if b < nI (popc (lo k &&& i)) then X11_nextTry_j51 σ b (nI (lo k &&& i)) 0 else X11_nextTry_j45 σ b (nI (lo k &&& i)) := by
      unfold X11_nextTry X11_nextTry_j0
      rw [lookSet_in (by decide) h.1 hk, Option.bind_some, inside_ok h.2.1, Option.bind_some, nI_and, Option.bind_some, hasLook_in h.1 hk, Option.bind_some, if_neg neg1_0, bc_ok σ _ hu, Option.bind_some]
    have rf : ∀ w, X12_nextTry (wI σ 10 0 11 w) (nI k) b = X12_nextTry_l54 (s0 σ w) b (nI (lo k &&& i)) 0 := fun w => by
      have hυ := h.ps (s0_ps σ w)
      unfold X12_nextTry X12_nextTry_j0
      rw [Option.bind_some, Option.bind_some, s0e, ck2, Option.bind_some, hυ.2.2.1.lk, xin1_in _ hk (by omega), Option.bind_some, if_neg neg1_0, c56 (by omega), Option.bind_some, ck3, Option.bind_some, hυ.2.2.1.2.2.2.1 k hk, hυ.2.2.2.ins, nI_and, Option.bind_some]
    generalize lo k &&& i = u at *
    have hp := popc_le u
    obtain ⟨rk1, rk2⟩ := ranks h8 nu hun
    by_cases g : ¬ b < 0 ∧ b < nI (popc u)
    · obtain ⟨m, hm, rfl⟩ := nI_of g.1
      have hm2 : m < popc u := by
        rcases Nat.lt_or_ge m (popc u) with z | z
        · exact z
        · exact absurd g.2 (nI_nlt z hm)
      obtain ⟨l0, y1, y2, y3⟩ := rk2 m hm2
      obtain ⟨l, hl⟩ : ∃ l, ntF n nu u m = some l := by
        cases e : ntF n nu u m with
        | some l => exact ⟨l, rfl⟩
        | none =>
          have := List.find?_range_eq_none.mp e l0 y1
          simp [y2, y3] at this
      have hsame : (List.range n).find? (fun l => u.testBit l && decide (nI (ahF n nu u l) = nI m)) = some l := by
        rw [← hl]
        unfold ntF
        congr 1
        funext x
        have := ahF_le (n := n) nu u x
        congr 1
        exact decide_eq_decide.mpr (nI_eq (by omega) (by omega))
      refine tellP (fun _ _ => trivial) (fun _ _ _ q => q) (nI l) ?_ ?_
      · show X11_nextTry σ (nI k) (nI m) = _
        rw [cl, if_neg g.1, if_pos g.2]
        unfold X11_nextTry_j51
        rw [answers0, Option.bind_some, if_neg neg1_0, triedAt_ok (by decide) h1.1 hu (by omega), hl, Option.bind_some]
      · show X12_nextTry (wI σ 10 0 11 0) (nI k) (nI m) = _
        rw [rf, xnextTry (h.ps (s0_ps σ 0)).2.2.1 hu, hsame]
    · have hnone : (List.range n).find? (fun l => u.testBit l && decide (nI (ahF n nu u l) = b)) = none := by
        apply List.find?_range_eq_none.mpr
        intro l hl
        cases hb : u.testBit l with
        | false => rfl
        | true =>
          have h2 := rk1 l hl hb
          have h3 : ¬ nI (ahF n nu u l) = b := fun e => g (by
            rw [← e]
            exact ⟨nI_pos (by omega), nI_lt h2 (by omega)⟩)
          simp [h3]
      refine refP (fun _ _ => trivial) (fun _ _ _ q => q) 8 (-1) ?_ ?_
      · show X11_nextTry σ (nI k) b = _
        rw [cl]
        have ej : X11_nextTry_j45 σ b (nI u) = some (-1, wI σ 10 0 11 8) := by
          unfold X11_nextTry_j45 X11_nextTry_j51
          rw [answersN _ (by decide), Option.bind_some, if_pos rfl]
        rw [ej]
        by_cases q : b < 0
        · rw [if_pos q]
        · rw [if_neg q, if_neg (fun z => g ⟨q, z⟩)]
      · show X12_nextTry (wI σ 10 0 11 8) (nI k) b = _
        rw [rf, xnextTry (h.ps (s0_ps σ 8)).2.2.1 hu, hnone]
  · have r2 := h.ps (s0_ps σ 2)
    refine refP (fun _ _ => trivial) (fun _ _ _ q => q) 2 (-1) ?_ ?_
    · show X11_nextTry σ a b = _
      unfold X11_nextTry X11_nextTry_j0 X11_nextTry_j51
      rw [lookSet_out h.1 ha, Option.bind_some, inside_ok h.2.1, Option.bind_some, nI_and, Option.bind_some, hasLook_out h.1 ha, Option.bind_some, if_pos rfl, answersN _ (by decide), Option.bind_some, if_pos rfl]
    · show X12_nextTry (wI σ 10 0 11 2) a b = _
      unfold X12_nextTry X12_nextTry_j0
      rw [Option.bind_some, Option.bind_some, s0e, ck2, Option.bind_some, r2.2.2.1.lk, xin1_out _ (by omega) ha, Option.bind_some, if_pos rfl]
      rfl
def wsF (n i : Nat) (nu : Nat → Nat → Nat) (L : List X3) (x : Int32) : Int32 := (List.range n).foldl (fun a l => a ||| (if i.testBit l = true ∧ ¬ (16 * x) * nI (cnt L l) ≤ nI (nu 4 l) * nI (nu 5 l) then 1 <<< (nI l &&& 31) else 0)) 0
theorem thrown_ok (hd : d < 5) (hs : RS σ d n nk nu lo) (h : RV σ d n i c s p o L) (x : Int32) : X8_thrown σ d x = some (wsF n i nu L x) := by
  have h8 := hs.n8
  have key := iter_range (f := X8_thrown_l5b σ d x) (s := (0, 0)) n (fun _ (_ : Int32) => True) (fun a l => a ||| (if i.testBit l = true ∧ ¬ (16 * x) * nI (cnt L l) ≤ nI (nu 4 l) * nI (nu 5 l) then 1 <<< (nI l &&& 31) else 0)) (fun a => a) (fun a k => (a, nI k)) 0 rfl trivial (by omega) (fun k a hk _ => by
    show X8_thrown_l5c σ d x a (nI k) = _
    unfold X8_thrown_l5c X8_thrown_j60 X8_thrown_j61 X8_thrown_j77 X0_leadCount X0_leadCount_j0
    rw [hs.ln, Option.bind_some, if_neg (nI_ge hk (by omega)), show X0_number σ d 4 (nI k) = some (nI (nu 4 k)) from number_ok hd hs (by decide) hk, Option.bind_some, show X0_number σ d 5 (nI k) = some (nI (nu 5 k)) from number_ok hd hs (by decide) hk, Option.bind_some, Option.bind_some, isIn_in hs h hk, Option.bind_some, v01, countOn_ok hd h8 h (by omega), Option.bind_some]
    simp only [nI_1, neg1_0, if_false, eq_self, if_true, Option.bind_some]
    by_cases q : i.testBit k = true
    · rw [if_pos q]
      by_cases z : (16 * x) * nI (cnt L k) ≤ nI (nu 4 k) * nI (nu 5 k)
      · rw [if_pos z, if_neg (fun w => w.2 z)]
      · rw [if_neg z, if_pos ⟨q, z⟩]
    · rw [if_neg q, if_neg (fun w => q w.1)]) (fun _ _ _ _ => trivial) (fun a _ => by
    show X8_thrown_l5c σ d x a (nI n) = _
    unfold X8_thrown_l5c X0_leadCount X0_leadCount_j0
    rw [hs.ln, Option.bind_some, if_pos (nI_le (Nat.le_refl _) (by omega))])
  unfold X8_thrown X8_thrown_j0 X8_thrown_l5
  rw [key.1]
  rfl
theorem xwaste (hs : RXS σ n nk nu lo) (h : RXV σ n i c s p o L) (x : Int32) : X12_waste_l32 σ x 0 0 = some (wsF n i nu L x, σ) := by
  have h8 := hs.n8
  have key := iter_range (f := X12_waste_l32b σ x) (s := (0, 0)) n (fun _ (_ : Int32) => True) (fun a l => a ||| (if i.testBit l = true ∧ ¬ (16 * x) * nI (cnt L l) ≤ nI (nu 4 l) * nI (nu 5 l) then 1 <<< (nI l &&& 31) else 0)) (fun a => a) (fun a k => (a, nI k)) 0 rfl trivial (by omega) (fun k a hk _ => by
    have c40 : ck (LN 13 34) (40 + nI k) = some (40 + k) := by
      show ck (LN 13 34) (nI 40 + nI k) = _
      rw [nI_add]
      exact ckc (by omega)
    have g40 : σ.1 13 34 (40 + k) = nI (nu 4 k) := by
      have := hs.gn (w := 4) (by decide) hk
      rw [show 40 + k = 8 + 8 * 4 + k by omega]
      exact this
    show X12_waste_l32c σ x a (nI k) = _
    unfold X12_waste_l32c X12_waste_j89 X12_waste_j90
    rw [ck0, Option.bind_some, hs.ln, if_neg (nI_ge hk (by omega)), xisInside hs h hk, Option.bind_some, v01, c40, Option.bind_some, c48 (by omega), Option.bind_some, xcrossings h8 h (by omega), Option.bind_some, g40, g48 hs hk]
    simp only [nI_1, Option.bind_some]
    by_cases q : i.testBit k = true
    · rw [if_pos q]
      by_cases z : (16 * x) * nI (cnt L k) ≤ nI (nu 4 k) * nI (nu 5 k)
      · rw [if_pos z, if_neg (fun w => w.2 z)]
      · rw [if_neg z, if_pos ⟨q, z⟩]
    · rw [if_neg q, if_neg (fun w => q w.1)]) (fun _ _ _ _ => trivial) (fun a _ => by
    show X12_waste_l32c σ x a (nI n) = _
    unfold X12_waste_l32c
    rw [ck0, Option.bind_some, hs.ln, if_pos (nI_le (Nat.le_refl _) (by omega))])
  unfold X12_waste_l32
  rw [key.1]
  rfl
theorem op_waste (a : Int32) (h : RelD σ n nk nu lo i c s p o L) : OR3 PS σ (fun σ => X11_waste σ a) (fun σ => X12_waste σ a) (fun _ => True) := by
  have h1 := h.ps (ps1 σ 0)
  rcases in_or a 999 (by decide) with ⟨w, hw, rfl⟩ | ⟨hb, hnb⟩
  · have r0 := h.ps (s0_ps σ 0)
    refine tellP (fun _ _ => trivial) (fun _ _ _ q => q) (wsF n i nu L (nI w)) ?_ ?_
    · show X11_waste σ (nI w) = _
      unfold X11_waste X11_waste_j0 X11_waste_j13 X11_isPence X11_isPence_j0
      rw [if_neg (nI_pos (by omega)), if_neg (show ¬ (999 : Int32) < nI w from nI_nlt (a := 999) hw (by decide)), Option.bind_some, if_neg neg1_0, answers0, Option.bind_some, if_neg neg1_0, thrown_ok (by decide) h1.1 h1.2.1, Option.bind_some]
    · show X12_waste (wI σ 10 0 11 0) (nI w) = _
      unfold X12_waste X12_waste_j0
      rw [Option.bind_some, Option.bind_some, s0e, xisIn_in _ hw (by decide) 999 (by decide), Option.bind_some, if_neg neg1_0, xwaste r0.2.2.1 r0.2.2.2]
  · refine refP (fun _ _ => trivial) (fun _ _ _ q => q) 5 (-1) ?_ ?_
    · show X11_waste σ a = _
      have e1 : X11_isPence σ a = some 0 := by
        unfold X11_isPence X11_isPence_j0
        rcases hb with z | ⟨z1, z2⟩
        · rw [if_pos z]
        · rw [if_neg z1, if_pos (show (999 : Int32) < a from Int32.not_le.mp z2)]
      unfold X11_waste X11_waste_j0 X11_waste_j13
      rw [e1, Option.bind_some, if_pos rfl, answersN _ (by decide), Option.bind_some, if_pos rfl]
    · show X12_waste (wI σ 10 0 11 5) a = _
      unfold X12_waste X12_waste_j0
      rw [Option.bind_some, Option.bind_some, s0e, xisIn_out _ hnb 999 (by decide), Option.bind_some, if_pos rfl]
      rfl
end WQ
