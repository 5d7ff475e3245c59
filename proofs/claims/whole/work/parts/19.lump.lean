/-! ===== lumps ===== -/
theorem and0 {a b : Nat} : a &&& b = 0 ↔ ∀ k, a.testBit k = true → b.testBit k = true → False := by
  constructor
  · intro h k h1 h2
    have := Nat.testBit_and a b k
    rw [h, h1, h2, Nat.zero_testBit] at this
    cases this
  · intro h
    apply Nat.eq_of_testBit_eq
    intro k
    rw [Nat.testBit_and, Nat.zero_testBit]
    cases h1 : a.testBit k
    · rfl
    · cases h2 : b.testBit k
      · rfl
      · exact (h k h1 h2).elim
def Sub (a b : Nat) : Prop := ∀ k, a.testBit k = true → b.testBit k = true
theorem Sub.rf (a : Nat) : Sub a a := fun _ h => h
theorem Sub.tr {a b c : Nat} (h : Sub a b) (g : Sub b c) : Sub a c := fun k q => g k (h k q)
theorem Sub.antisymm {a b : Nat} (h : Sub a b) (g : Sub b a) : a = b := by
  apply Nat.eq_of_testBit_eq
  intro k
  rw [Bool.eq_iff_iff]
  exact ⟨h k, g k⟩
theorem tb_lt {a k : Nat} (h : a < 256) (hk : a.testBit k = true) : k < 8 := by
  refine Classical.byContradiction fun q => ?_
  have := Nat.testBit_lt_two_pow (x := a) (i := k) (Nat.lt_of_lt_of_le h (by
    have : (256 : Nat) = 2 ^ 8 := rfl
    rw [this]; exact Nat.pow_le_pow_right (by decide) (by omega)))
  rw [this] at hk
  cases hk
theorem lt256 {a : Nat} (h : ∀ k, a.testBit k = true → k < 8) : a < 256 := by
  have : (256 : Nat) = 2 ^ 8 := rfl
  rw [this]
  apply Nat.lt_pow_two_of_testBit
  intro k hk
  cases e : a.testBit k
  · rfl
  · exact absurd (h k e) (by omega)
theorem popc_mono {a b : Nat} (h : Sub a b) : popc a ≤ popc b := by
  unfold popc
  rw [← List.countP_eq_length_filter, ← List.countP_eq_length_filter]
  exact List.countP_mono_left (fun k _ q => h k q)
theorem popc_le (a : Nat) : popc a ≤ 8 := by
  unfold popc
  refine Nat.le_trans (List.length_filter_le _ _) ?_
  rw [List.length_range]
  exact Nat.le_refl 8
theorem popc_add : ∀ i, i < 256 → ∀ k, k < 8 → i.testBit k = false → popc (i ||| 2 ^ k) = popc i + 1 := by decide +kernel
theorem popc_0 : popc 0 = 0 := by decide +kernel
theorem popc_lt {a b : Nat} (hb : b < 256) (h : Sub a b) (hne : a ≠ b) : popc a < popc b := by
  have ha : a < 256 := lt256 (fun k q => tb_lt hb (h k q))
  have : ∃ k, b.testBit k = true ∧ a.testBit k = false := by
    refine Classical.byContradiction fun q => hne (h.antisymm fun k hk => ?_)
    cases e : a.testBit k
    · exact (q ⟨k, hk, e⟩).elim
    · rfl
  obtain ⟨k, h1, h2⟩ := this
  have h3 := popc_add a ha k (tb_lt hb h1) h2
  have h4 : popc (a ||| 2 ^ k) ≤ popc b := popc_mono (fun j hj => by
    rw [Nat.testBit_or, Nat.testBit_two_pow] at hj
    simp only [Bool.or_eq_true, decide_eq_true_eq] at hj
    rcases hj with q | q
    · exact h j q
    · exact q ▸ h1)
  omega
def both (x : X3) : Nat := 2 ^ x.1 ||| 2 ^ x.2.1
theorem both_tb (x : X3) (k : Nat) : (both x).testBit k = true ↔ x.1 = k ∨ x.2.1 = k := by
  unfold both
  rw [Nat.testBit_or, Nat.testBit_two_pow, Nat.testBit_two_pow]
  simp only [Bool.or_eq_true, decide_eq_true_eq]
def Tie (m : Nat) (x : X3) : Prop := x.2.2 ≠ 0 ∧ m.testBit x.1 = true ∧ m.testBit x.2.1 = true
def Cld (m : Nat) (L : List X3) (T : Nat) : Prop := ∀ x ∈ L, Tie m x → T.testBit x.1 = true ∨ T.testBit x.2.1 = true → T.testBit x.1 = true ∧ T.testBit x.2.1 = true
def IsLump (m : Nat) (L : List X3) (l s : Nat) : Prop := s < 256 ∧ (m.testBit l = true → s.testBit l = true) ∧ Cld m L s ∧ ∀ T, (m.testBit l = true → T.testBit l = true) → Cld m L T → Sub s T
theorem IsLump.un {m l s t : Nat} {L : List X3} (h : IsLump m L l s) (g : IsLump m L l t) : s = t := (h.2.2.2 t g.2.1 g.2.2.1).antisymm (g.2.2.2 s h.2.1 h.2.2.1)

noncomputable def lumpF (m : Nat) (L : List X3) (l : Nat) : Nat := @dite _ (∃ s, IsLump m L l s) (Classical.propDecidable _) (fun h => Classical.choose h) (fun _ => 0)
theorem lumpF_is {m l s : Nat} {L : List X3} (h : IsLump m L l s) : s = lumpF m L l := by
  have hex : ∃ s, IsLump m L l s := ⟨s, h⟩
  unfold lumpF
  rw [dif_pos hex]
  exact h.un (Classical.choose_spec hex)
def gB (m : Nat) (s : Nat) (x : X3) : Nat := if (x.2.2 ≠ 0 ∧ both x &&& (255 ^^^ m) = 0) ∧ s &&& both x ≠ 0 then s ||| both x else s
theorem xor_tb {m k : Nat} (hk : k < 8) : (255 ^^^ m).testBit k = !m.testBit k := by
  have h255 : (255 : Nat).testBit k = true := by
    have : (255 : Nat) = 2 ^ 8 - 1 := rfl
    rw [this, Nat.testBit_two_pow_sub_one]
    simp [hk]
  rw [Nat.testBit_xor, h255, Bool.true_xor]
theorem tie_iff {m : Nat} {x : X3} (h0 : x.1 < 8) (h1 : x.2.1 < 8) : (x.2.2 ≠ 0 ∧ both x &&& (255 ^^^ m) = 0) ↔ Tie m x := by
  unfold Tie
  rw [and0]
  constructor
  · rintro ⟨a, b⟩
    refine ⟨a, ?_, ?_⟩
    · have := b x.1 ((both_tb x _).mpr (.inl rfl))
      rw [xor_tb h0] at this
      cases e : m.testBit x.1
      · exact (this (by rw [e]; rfl)).elim
      · rfl
    · have := b x.2.1 ((both_tb x _).mpr (.inr rfl))
      rw [xor_tb h1] at this
      cases e : m.testBit x.2.1
      · exact (this (by rw [e]; rfl)).elim
      · rfl
  · rintro ⟨a, b, c⟩
    refine ⟨a, fun k hk hx => ?_⟩
    rcases (both_tb x k).mp hk with q | q
    · subst q
      rw [xor_tb h0, b] at hx
      cases hx
    · subst q
      rw [xor_tb h1, c] at hx
      cases hx
theorem meet_iff {s : Nat} {x : X3} : s &&& both x ≠ 0 ↔ s.testBit x.1 = true ∨ s.testBit x.2.1 = true := by
  constructor
  · intro h
    refine Classical.byContradiction fun q => h (and0.mpr fun k h1 h2 => q ?_)
    rcases (both_tb x k).mp h2 with z | z
    · exact .inl (z ▸ h1)
    · exact .inr (z ▸ h1)
  · intro h e
    have := and0.mp e
    rcases h with z | z
    · exact this _ z ((both_tb x _).mpr (.inl rfl))
    · exact this _ z ((both_tb x _).mpr (.inr rfl))
theorem gB_sub (m s : Nat) (x : X3) : Sub s (gB m s x) := by
  unfold gB
  split
  · intro k hk
    rw [Nat.testBit_or, hk, Bool.true_or]
  · exact Sub.rf s
theorem fB_sub (m : Nat) (L : List X3) (s : Nat) : Sub s (L.foldl (gB m) s) := by
  induction L generalizing s with
  | nil => exact Sub.rf s
  | cons x t ih => exact (gB_sub m s x).tr (ih _)
theorem gB_in {m s T : Nat} {x : X3} (h0 : x.1 < 8) (h1 : x.2.1 < 8) (hs : Sub s T) (hT : Tie m x → T.testBit x.1 = true ∨ T.testBit x.2.1 = true → T.testBit x.1 = true ∧ T.testBit x.2.1 = true) : Sub (gB m s x) T := by
  unfold gB
  split
  · rename_i h
    have ht := (tie_iff h0 h1).mp h.1
    have hm := meet_iff.mp h.2
    have := hT ht (hm.imp (hs _) (hs _))
    intro k hk
    rw [Nat.testBit_or, Bool.or_eq_true] at hk
    rcases hk with q | q
    · exact hs k q
    · rcases (both_tb x k).mp q with z | z
      · exact z ▸ this.1
      · exact z ▸ this.2
  · exact hs
theorem fB_in {m T : Nat} {L : List X3} (hw : ∀ x ∈ L, x.1 < 8 ∧ x.2.1 < 8) (hT : Cld m L T) {s : Nat} (hs : Sub s T) : Sub (L.foldl (gB m) s) T := by
  induction L generalizing s with
  | nil => exact hs
  | cons x t ih =>
    have h := hw x List.mem_cons_self
    exact ih (fun y hy => hw y (List.mem_cons_of_mem _ hy)) (fun y hy => hT y (List.mem_cons_of_mem _ hy)) (gB_in h.1 h.2 hs (hT x List.mem_cons_self))
theorem fB_lt {m : Nat} {L : List X3} (hw : ∀ x ∈ L, x.1 < 8 ∧ x.2.1 < 8) {s : Nat} (hs : s < 256) : L.foldl (gB m) s < 256 := by
  induction L generalizing s with
  | nil => exact hs
  | cons x t ih =>
    refine ih (fun y hy => hw y (List.mem_cons_of_mem _ hy)) ?_
    have h := hw x List.mem_cons_self
    unfold gB
    split
    · refine lt256 fun k hk => ?_
      rw [Nat.testBit_or, Bool.or_eq_true] at hk
      rcases hk with q | q
      · exact tb_lt hs q
      · rcases (both_tb x k).mp q with z | z <;> omega
    · exact hs
theorem fB_fix {m : Nat} {L : List X3} (hw : ∀ x ∈ L, x.1 < 8 ∧ x.2.1 < 8) {s : Nat} (h : L.foldl (gB m) s = s) : Cld m L s := by
  induction L with
  | nil => intro x hx; cases hx
  | cons x t ih =>
    have hx := hw x List.mem_cons_self
    have e1 : gB m s x = s := by
      have a := gB_sub m s x
      have b := fB_sub m t (gB m s x)
      rw [List.foldl_cons] at h
      rw [h] at b
      exact b.antisymm a
    rw [List.foldl_cons, e1] at h
    intro y hy
    rcases List.mem_cons.mp hy with q | q
    · subst q
      intro ht hm
      unfold gB at e1
      rw [if_pos ⟨(tie_iff hx.1 hx.2).mpr ht, meet_iff.mpr hm⟩] at e1
      have e2 : ∀ k, (both y).testBit k = true → s.testBit k = true := fun k hk => by
        rw [← e1, Nat.testBit_or, hk, Bool.or_true]
      exact ⟨e2 _ ((both_tb y _).mpr (.inl rfl)), e2 _ ((both_tb y _).mpr (.inr rfl))⟩
    · exact ih (fun y hy => hw y (List.mem_cons_of_mem _ hy)) h y q
