/-! ===== clips, tries, waste ===== -/
def clF (n : Nat) (nu : Nat → Nat → Nat) (u : Nat) : Option Nat := (List.range 999).find? (fun k => decide (192 * popc u < (k + 1) * (grF n nu u * 5)))
def bef (nu : Nat → Nat → Nat) (k l : Nat) : Bool := decide (nu 5 l < nu 5 k) || (decide (nu 5 k = nu 5 l) && decide (k < l))
def ahF (n : Nat) (nu : Nat → Nat → Nat) (u l : Nat) : Nat := sumB n (fun k => if u.testBit k = true ∧ bef nu k l = true then 1 else 0)
def usF (n : Nat) (nu : Nat → Nat → Nat) (u : Nat) : Nat := sumB n (fun l => if u.testBit l = true then nu 5 l else 0)
def trF (n : Nat) (nu : Nat → Nat → Nat) (u : Nat) : Nat := sumB n (fun l => if u.testBit l = true then nu 5 l * (ahF n nu u l + 1) else 0)
def ntF (n : Nat) (nu : Nat → Nat → Nat) (u k : Nat) : Option Nat := (List.range n).find? (fun l => u.testBit l && decide (ahF n nu u l = k))
theorem ahF_le {n : Nat} (nu : Nat → Nat → Nat) (u l : Nat) : ahF n nu u l ≤ n := by
  have := sumB_le (n := n) (p := fun k => if u.testBit k = true ∧ bef nu k l = true then 1 else 0) (c := 1) (fun k _ => by
    show (if u.testBit k = true ∧ bef nu k l = true then 1 else 0) ≤ 1
    split <;> omega)
  unfold ahF
  omega
theorem sumB_cnt (n : Nat) (q : Nat → Bool) : sumB n (fun k => if q k = true then 1 else 0) = (List.range n).countP q := by
  induction n with
  | zero => rfl
  | succ n ih =>
    rw [sumB_s, ih, List.range_succ, List.countP_append, List.countP_cons, List.countP_nil, Nat.zero_add]
theorem ahF_cnt (n : Nat) (nu : Nat → Nat → Nat) (u l : Nat) : ahF n nu u l = ((List.range n).filter (fun k => u.testBit k)).countP (fun k => bef nu k l) := by
  rw [List.countP_filter]
  unfold ahF
  rw [← sumB_cnt]
  congr 1
  funext k
  by_cases a : u.testBit k = true
  · by_cases b : bef nu k l = true
    · rw [if_pos ⟨a, b⟩, if_pos (by rw [a, b]; rfl)]
    · rw [if_neg (fun z => b z.2), if_neg (fun z => b (by rw [Bool.and_eq_true] at z; exact z.1))]
  · rw [if_neg (fun z => a z.1), if_neg (fun z => a (by rw [Bool.and_eq_true] at z; exact z.2))]
theorem ranks {n : Nat} (hn : n ≤ 8) (nu : Nat → Nat → Nat) {u : Nat} (hu : u < 2 ^ n) : (∀ l, l < n → u.testBit l = true → ahF n nu u l < popc u) ∧ ∀ k, k < popc u → ∃ l, l < n ∧ u.testBit l = true ∧ ahF n nu u l = k := by
  have hp := popc_n n hn u hu
  have hnd : ((List.range n).filter (fun k => u.testBit k)).Nodup := List.Pairwise.filter _ List.nodup_range
  obtain ⟨h1, h2⟩ := rank_onto (bef nu) _ hnd (fun x => by unfold bef; simp) (fun x y hxy => by
    unfold bef
    simp only [Bool.or_eq_true, Bool.and_eq_true, decide_eq_true_eq]
    omega) (fun x y z hxy hyz => by
    unfold bef at *
    simp only [Bool.or_eq_true, Bool.and_eq_true, decide_eq_true_eq] at *
    omega)
  rw [← hp] at h1 h2
  refine ⟨fun l hl hul => ?_, fun k hk => ?_⟩
  · rw [ahF_cnt]
    exact h1 l (List.mem_filter.mpr ⟨List.mem_range.mpr hl, hul⟩)
  · obtain ⟨l, hl, e⟩ := h2 k hk
    obtain ⟨a, b⟩ := List.mem_filter.mp hl
    exact ⟨l, List.mem_range.mp a, b, by rw [ahF_cnt]; exact e⟩
section WP
variable {σ : SS} {d n nk i c : Nat} {s p o : Int32} {nu : Nat → Nat → Nat} {lo : Nat → Nat} {L : List X3}
theorem openings_ok (hd : d < 5) (hs : RS σ d n nk nu lo) (h : RV σ d n i c s p o L) (hx : Sub c i) : X8_openingsForClips σ d = some (match clF n nu (i &&& (255 ^^^ c)) with
    | some k => nI (1 + k)
    | none => -1) := by
  have h8 := hs.n8
  have hi := p256 h8 h.ilt
  have hu : i &&& (255 ^^^ c) < 256 := and_lt hi
  have hg := grF_le h8 nu (i &&& (255 ^^^ c))
  unfold X8_openingsForClips X8_openingsForClips_j0 X8_openingsForClips_l25
  rw [grown_ok hd hs h hx, Option.bind_some, show (5 : Int32) = nI 5 from rfl, pk_mul, Option.bind_some, unclip_ok hs h hx, Option.bind_some]
  unfold clF
  generalize i &&& (255 ^^^ c) = u at *
  have hp := popc_le u
  rw [bc_ok σ u hu, Option.bind_some, show (12 : Int32) = nI 12 from rfl, pk_mul, show (16 : Int32) = nI 16 from rfl, pk_mul, Option.bind_some, show (1 : Int32) = nI 1 from rfl]
  generalize grF n nu u = g at *
  rw [loop_find (b := 1) (N := 999) (fun k => decide (192 * popc u < (k + 1) * (g * 5))) (by decide) (fun k hk => by
    show X8_openingsForClips_l25c σ d (nI (g * 5)) (nI (popc u * 12 * 16)) (nI (1 + k)) = _
    have hm : (1 + k) * (g * 5) ≤ 999 * 600 := Nat.mul_le_mul (by omega) (by omega)
    unfold X8_openingsForClips_l25c
    rw [if_neg (show ¬ (999 : Int32) < nI (1 + k) from nI_nlt (a := 999) (by omega) (by decide)), pk_mul]
    by_cases q : 192 * popc u < (k + 1) * (g * 5)
    · rw [if_neg (nI_ge (by rw [Nat.add_comm 1 k]; omega) (by omega)), if_pos (by simpa using q)]
    · rw [if_pos (nI_le (by rw [Nat.add_comm 1 k]; omega) (by omega)), if_neg (by simpa using q), nI_1, Option.bind_some]
      rfl) (by
    show X8_openingsForClips_l25c σ d (nI (g * 5)) (nI (popc u * 12 * 16)) (nI (1 + 999)) = _
    unfold X8_openingsForClips_l25c
    rw [if_pos (show (999 : Int32) < nI (1 + 999) by decide)]), Option.bind_some]
  cases (List.range 999).find? (fun k => decide (192 * popc u < (k + 1) * (g * 5))) <;> rfl
theorem xclips (hs : RXS σ n nk nu lo) (h : RXV σ n i c s p o L) : X12_clips_l12 σ 1 = (match clF n nu (i &&& (255 ^^^ c)) with
    | some k => some (nI (1 + k), σ)
    | none => some (-1, wI σ 11 0 0 8)) := by
  have h8 := hs.n8
  have hi := p256 h8 h.ilt
  have hu : i &&& (255 ^^^ c) < 256 := and_lt hi
  have hg := grF_le h8 nu (i &&& (255 ^^^ c))
  have hcr := xcrossable h8 h
  have hgr := xgrowth hs h
  unfold X12_clips_l12 clF
  generalize i &&& (255 ^^^ c) = u at *
  have hp := popc_le u
  generalize grF n nu u = g at *
  rw [show (1 : Int32) = nI 1 from rfl, loop_find (b := 1) (N := 999) (fun k => decide (192 * popc u < (k + 1) * (g * 5))) (by decide) (fun k hk => by
    show X12_clips_l12c σ (nI (1 + k)) = _
    have hm : (1 + k) * (g * 5) ≤ 999 * 600 := Nat.mul_le_mul (by omega) (by omega)
    unfold X12_clips_l12c
    rw [if_neg (show ¬ (1000 : Int32) ≤ nI (1 + k) from nI_ge (b := 1000) (by omega) (by decide)), hgr, Option.bind_some, hcr, Option.bind_some, xsizeOf hu, Option.bind_some, pk_mul, show (5 : Int32) = nI 5 from rfl, pk_mul, show (192 : Int32) = nI 192 from rfl, pk_mul, Nat.mul_assoc (1 + k) g 5]
    by_cases q : 192 * popc u < (k + 1) * (g * 5)
    · rw [if_neg (nI_ge (by rw [Nat.add_comm 1 k]; omega) (by omega)), if_pos (by simpa using q)]
    · rw [if_pos (nI_le (by rw [Nat.add_comm 1 k]; omega) (by omega)), if_neg (by simpa using q), nI_1, Option.bind_some]
      rfl) (by
    show X12_clips_l12c σ (nI (1 + 999)) = _
    unfold X12_clips_l12c
    rw [if_pos (show (1000 : Int32) ≤ nI (1 + 999) by decide)]), Option.bind_some]
  cases (List.range 999).find? (fun k => decide (192 * popc u < (k + 1) * (g * 5))) <;> rfl
theorem op_clips (h : RelD σ n nk nu lo i c s p o L) : OR3 PS σ X11_clips X12_clips (fun _ => True) := by
  have e1 := openings_ok (by decide) h.1 h.2.1 h.2.2.2.sub
  have e2 : ∀ w, X12_clips (wI σ 10 0 11 w) = X12_clips_l12 (s0 σ w) 1 := fun w => by
    unfold X12_clips X12_clips_j0
    rw [Option.bind_some, Option.bind_some, s0e]
  have e3 : ∀ w, _ := fun w => xclips (h.ps (s0_ps σ w)).2.2.1 (h.ps (s0_ps σ w)).2.2.2
  cases hc : clF n nu (i &&& (255 ^^^ c)) with
  | some k =>
    rw [hc] at e1 e3
    have hk : k < 999 := List.mem_range.mp (List.find?_range_eq_some.mp hc).2.1
    refine tellP (fun _ _ => trivial) (fun _ _ _ q => q) (nI (1 + k)) ?_ ?_
    · unfold X11_clips X11_clips_j0 X11_clips_j24
      rw [e1, Option.bind_some, if_neg (show ¬ nI (1 + k) = -1 from ne_m1 (by omega)), answers0, Option.bind_some, if_neg neg1_0]
    · rw [e2, e3]
  | none =>
    rw [hc] at e1 e3
    refine refP (fun _ _ => trivial) (fun _ _ _ q => q) 8 (-1) ?_ ?_
    · unfold X11_clips X11_clips_j0 X11_clips_j24
      rw [e1, Option.bind_some, if_pos rfl, answersN _ (by decide), Option.bind_some, if_pos rfl]
    · rw [e2, e3]
theorem ahead_ok (hd : d < 5) (hs : RS σ d n nk nu lo) {u l : Nat} (hu : u < 256) (hl : l < n) : X8_triedAhead σ d (nI u) (nI l) = some (nI (ahF n nu u l)) := by
  have h8 := hs.n8
  have hwl := hs.wf.2.2.1 l hl
  unfold X8_triedAhead X8_triedAhead_j0 X8_triedAhead_l13
  rw [show X0_number σ d 5 (nI l) = some (nI (nu 5 l)) from number_ok hd hs (by decide) hl, Option.bind_some]
  rw [loop_sum (n := n) (fun k => if u.testBit k = true ∧ bef nu k l = true then 1 else 0) (by omega) (fun a k hk => by
    have hwk := hs.wf.2.2.1 k hk
    show X8_triedAhead_l13c σ d (nI u) (nI l) (nI (nu 5 l)) (nI a) (nI k) = _
    unfold X8_triedAhead_l13c X8_triedAhead_j49 X8_triedAhead_j53 X8_triedAhead_j54 X8_triedAhead_j77 X8_triedAhead_j78 X0_leadCount X0_leadCount_j0
    rw [hs.ln, Option.bind_some, if_neg (nI_ge hk (by omega)), show X0_number σ d 5 (nI k) = some (nI (nu 5 k)) from number_ok hd hs (by decide) hk, Option.bind_some]
    simp only [bit1 hu (show k < 8 by omega), neg1_0, if_false, eq_self, if_true]
    have tail : ∀ b : Bool, bef nu k l = b → (if b = true then (if u.testBit k = true then ((some (nI a + 1)).bind fun x4_79 => (some (nI k + 1)).bind fun x5_81 => some (Sum.inl (x4_79, x5_81))) else ((some (nI a + 0)).bind fun x4_79 => (some (nI k + 1)).bind fun x5_81 => some (Sum.inl (x4_79, x5_81)))) else ((some (nI a + 0)).bind fun x4_79 => (some (nI k + 1)).bind fun x5_81 => some (Sum.inl (x4_79, x5_81)))) = some ((Sum.inl (nI (a + (if u.testBit k = true ∧ bef nu k l = true then 1 else 0)), nI (k + 1)) : (Int32 × Int32) ⊕ Int32)) := fun b hb => by
      rw [hb, Option.bind_some, Option.bind_some, Option.bind_some, Option.bind_some, nI_1, nI_1, show nI a + 0 = nI (a + 0) from nI_add a 0]
      cases b
      · rw [if_neg (by decide), if_neg (fun z => by cases z.2)]
      · rw [if_pos rfl]
        by_cases q : u.testBit k = true
        · rw [if_pos q, if_pos ⟨q, rfl⟩]
        · rw [if_neg q, if_neg (fun z => q z.1)]
    unfold bef at tail ⊢
    by_cases q1 : nu 5 l < nu 5 k
    · rw [if_pos (nI_lt q1 (by omega))]
      have := tail true (by simp [q1])
      rw [if_pos rfl] at this
      exact this
    · rw [if_neg (nI_nlt (by omega) (by omega))]
      by_cases q2 : nu 5 k = nu 5 l
      · rw [if_pos (by rw [q2])]
        by_cases q3 : k < l
        · rw [if_neg (nI_ge q3 (by omega))]
          have := tail true (by simp [q2, q3])
          rw [if_pos rfl] at this
          exact this
        · rw [if_pos (nI_le (by omega) (by omega))]
          have := tail false (by simp [q2]; omega)
          rw [if_neg (by decide)] at this
          exact this
      · rw [if_neg (fun z => q2 ((nI_eq (by omega) (by omega)).mp z))]
        have := tail false (by simp [q2]; omega)
        rw [if_neg (by decide)] at this
        exact this) (fun a => by
    show X8_triedAhead_l13c σ d (nI u) (nI l) (nI (nu 5 l)) (nI a) (nI n) = _
    unfold X8_triedAhead_l13c X0_leadCount X0_leadCount_j0
    rw [hs.ln, Option.bind_some, if_pos (nI_le (Nat.le_refl _) (by omega))]), Option.bind_some]
  rfl
theorem xaheadOf (hs : RXS σ n nk nu lo) {u l : Nat} (hu : u < 256) (hl : l < n) : X12_aheadOf σ (nI u) (nI l) = some (nI (ahF n nu u l)) := by
  have h8 := hs.n8
  have hwl := hs.wf.2.2.1 l hl
  have c48 : ∀ k, k < 8 → ck (LN 13 34) (48 + nI k) = some (48 + k) := fun k hk => by
    show ck (LN 13 34) (nI 48 + nI k) = _
    rw [nI_add]
    exact ckc (by omega)
  have g48 : ∀ k, k < n → σ.1 13 34 (48 + k) = nI (nu 5 k) := fun k hk => by
    have := hs.gn (w := 5) (by decide) hk
    rw [show 48 + k = 8 + 8 * 5 + k by omega]
    exact this
  unfold X12_aheadOf X12_aheadOf_j0 X12_aheadOf_l5
  rw [loop_sum (n := n) (fun k => if u.testBit k = true ∧ bef nu k l = true then 1 else 0) (by omega) (fun a k hk => by
    have hwk := hs.wf.2.2.1 k hk
    show X12_aheadOf_l5c σ (nI u) (nI l) (nI a) (nI k) = _
    unfold X12_aheadOf_l5c X12_aheadOf_j80 X12_aheadOf_j76 X12_aheadOf_j81
    rw [ck0, Option.bind_some, hs.ln, if_neg (nI_ge hk (by omega)), xhas hu (by omega), Option.bind_some, v01, c48 k (by omega), c48 l (by omega)]
    simp only [Option.bind_some]
    rw [g48 k hk, g48 l hl, nI_1, nI_1, show nI a + 0 = nI (a + 0) from nI_add a 0]
    unfold bef
    by_cases q : u.testBit k = true
    · rw [if_pos q]
      by_cases q1 : nu 5 l < nu 5 k
      · rw [if_pos (nI_lt q1 (by omega)), if_pos ⟨q, by simp [q1]⟩]
      · rw [if_neg (nI_nlt (by omega) (by omega))]
        by_cases q2 : nu 5 k = nu 5 l
        · rw [if_pos (by rw [q2])]
          by_cases q3 : k < l
          · rw [if_neg (nI_ge q3 (by omega)), if_pos ⟨q, by simp [q2, q3]⟩]
          · rw [if_pos (nI_le (by omega) (by omega)), if_neg (fun z => by
              have := z.2
              simp [q2] at this
              omega)]
        · rw [if_neg (fun z => q2 ((nI_eq (by omega) (by omega)).mp z)), if_neg (fun z => by
            have := z.2
            simp [q2] at this
            omega)]
    · rw [if_neg q, if_neg (fun z => q z.1)]) (fun a => by
    show X12_aheadOf_l5c σ (nI u) (nI l) (nI a) (nI n) = _
    unfold X12_aheadOf_l5c
    rw [ck0, Option.bind_some, hs.ln, if_pos (nI_le (Nat.le_refl _) (by omega))]), Option.bind_some]
  rfl
end WP
