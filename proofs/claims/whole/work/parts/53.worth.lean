/-! ===== loops of sums, of what is first ===== -/
def sumB (n : Nat) (p : Nat → Nat) : Nat := (List.range n).foldl (fun a l => a + p l) 0
theorem sumB_s (n : Nat) (p : Nat → Nat) : sumB (n + 1) p = sumB n p + p n := fold_succ _ _ _
theorem sumB_le {n c : Nat} {p : Nat → Nat} (h : ∀ l, l < n → p l ≤ c) : sumB n p ≤ n * c := by
  induction n with
  | zero => exact Nat.zero_le _
  | succ n ih =>
    rw [sumB_s, Nat.add_mul]
    have := ih (fun l hl => h l (by omega))
    have := h n (by omega)
    omega
theorem loop_sum {f : Int32 × Int32 → Option ((Int32 × Int32) ⊕ Int32)} {n : Nat} (p : Nat → Nat) (hn : n < 1000) (hs : ∀ a k, k < n → f (nI a, nI k) = some (Sum.inl (nI (a + p k), nI (k + 1)))) (he : ∀ a, f (nI a, nI n) = some (Sum.inr (nI a))) : iter f NF (0, 0) = some (nI (sumB n p)) := by
  have key := iter_range (f := f) (s := (0, 0)) n (fun _ (_ : Nat) => True) (fun a l => a + p l) (fun a => nI a) (fun a k => (nI a, nI k)) 0 rfl trivial (by omega) (fun k a hk _ => hs a k hk) (fun _ _ _ _ => trivial) (fun a _ => he a)
  exact key.1
theorem loop_find {f : Int32 → Option (Int32 ⊕ (Int32 ⊕ Unit))} {b N : Nat} (P : Nat → Bool) (hN : N < 10000) (hs : ∀ k, k < N → f (nI (b + k)) = if P k = true then some (Sum.inr (Sum.inl (nI (b + k)))) else some (Sum.inl (nI (b + (k + 1))))) (he : f (nI (b + N)) = some (Sum.inr (Sum.inr ()))) : iter f NF (nI b) = some (match (List.range N).find? P with
    | some k => Sum.inl (nI (b + k))
    | none => Sum.inr ()) := by
  cases e : (List.range N).find? P with
  | some k =>
    obtain ⟨h1, h2, h3⟩ := List.find?_range_eq_some.mp e
    have hk : k < N := List.mem_range.mp h2
    exact iter_for (s := nI b) (fun j => nI (b + j)) k rfl (by omega) (fun j hj => by
      have := h3 j hj
      rw [hs j (by omega), if_neg (by simpa using this)]) (by rw [hs k hk, if_pos h1])
  | none =>
    have h := List.find?_range_eq_none.mp e
    exact iter_for (s := nI b) (fun j => nI (b + j)) N rfl (by omega) (fun j hj => by
      have := h j hj
      rw [hs j hj, if_neg (by simpa using this)]) he
/-- ranks: each below the number of those is had -/
theorem sumB_add (n : Nat) (p q : Nat → Nat) : sumB n (fun k => p k + q k) = sumB n p + sumB n q := by
  induction n with
  | zero => rfl
  | succ n ih => rw [sumB_s, sumB_s, sumB_s, ih]; omega
theorem sumB_one {n v : Nat} (h : v < n) : sumB n (fun k => if v = k then 1 else 0) = 1 := by
  have key : ∀ m, sumB m (fun k => if v = k then 1 else 0) = if v < m then 1 else 0 := fun m => by
    induction m with
    | zero => rfl
    | succ m ih =>
      rw [sumB_s, ih]
      by_cases a : v = m
      · rw [if_neg (by omega), if_pos a, if_pos (by omega)]
      · rw [if_neg a]
        by_cases b : v < m
        · rw [if_pos b, if_pos (by omega)]
        · rw [if_neg b, if_neg (by omega)]
  rw [key, if_pos h]
theorem sumB_count {n : Nat} (r : Nat → Nat) (M : List Nat) (h : ∀ x ∈ M, r x < n) : sumB n (fun k => M.countP (fun x => r x == k)) = M.length := by
  induction M with
  | nil =>
    have : ∀ m, sumB m (fun _ => 0) = 0 := fun m => by
      induction m with
      | zero => rfl
      | succ m ih => rw [sumB_s, ih]
    exact this n
  | cons x t ih =>
    have e : (fun k => (x :: t).countP (fun x => r x == k)) = fun k => t.countP (fun x => r x == k) + (if r x = k then 1 else 0) := by
      funext k
      rw [List.countP_cons]
      by_cases q : r x = k
      · rw [if_pos (by simp [q]), if_pos q]
      · rw [if_neg (by simp [q]), if_neg q]
    rw [e, sumB_add, ih (fun y hy => h y (List.mem_cons_of_mem _ hy)), sumB_one (h x List.mem_cons_self), List.length_cons]
theorem sumB_full {n : Nat} {p : Nat → Nat} (h1 : ∀ k, k < n → p k ≤ 1) (h2 : sumB n p = n) : ∀ k, k < n → p k = 1 := by
  induction n with
  | zero => intro k hk; exact absurd hk (Nat.not_lt_zero _)
  | succ n ih =>
    rw [sumB_s] at h2
    have h3 := h1 n (by omega)
    have h4 := sumB_le (n := n) (p := p) (c := 1) (fun l hl => h1 l (by omega))
    intro k hk
    by_cases e : k = n
    · subst e; omega
    · exact ih (fun l hl => h1 l (by omega)) (by omega) k (by omega)
theorem countP_one {q : Nat → Bool} : ∀ (A : List Nat), A.Nodup → (∀ x ∈ A, ∀ y ∈ A, q x = true → q y = true → x = y) → A.countP q ≤ 1 := by
  intro A
  induction A with
  | nil => intro _ _; simp
  | cons x t ih =>
    intro hn h
    have hn' := List.nodup_cons.mp hn
    rw [List.countP_cons]
    have h1 := ih hn'.2 (fun a ha b hb => h a (List.mem_cons_of_mem _ ha) b (List.mem_cons_of_mem _ hb))
    by_cases z : q x = true
    · rw [if_pos z]
      have : t.countP q = 0 := by
        rw [List.countP_eq_zero]
        intro y hy hq
        have := h x List.mem_cons_self y (List.mem_cons_of_mem _ hy) z hq
        subst this
        exact hn'.1 hy
      omega
    · rw [if_neg z]
      exact h1
theorem countP_lt {p q : Nat → Bool} : ∀ (A : List Nat) (x : Nat), (∀ y, p y = true → q y = true) → x ∈ A → q x = true → p x = false → A.countP p < A.countP q := by
  intro A
  induction A with
  | nil => intro x _ h; cases h
  | cons y t ih =>
    intro x hpq hx hq hp
    have hle : t.countP p ≤ t.countP q := List.countP_mono_left (fun z _ hz => hpq z hz)
    rw [List.countP_cons, List.countP_cons]
    rcases List.mem_cons.mp hx with rfl | hx
    · rw [if_neg (by rw [hp]; decide), if_pos hq]
      omega
    · have := ih x hpq hx hq hp
      by_cases a : p y = true
      · rw [if_pos a, if_pos (hpq y a)]
        omega
      · rw [if_neg a]
        split <;> omega
theorem rank_onto (bf : Nat → Nat → Bool) (M : List Nat) (hM : M.Nodup) (h1 : ∀ x, bf x x = false) (h2 : ∀ x y, x ≠ y → bf x y = true ∨ bf y x = true) (h3 : ∀ x y z, bf x y = true → bf y z = true → bf x z = true) : (∀ x ∈ M, M.countP (fun y => bf y x) < M.length) ∧ ∀ k, k < M.length → ∃ x ∈ M, M.countP (fun y => bf y x) = k := by
  have hlt : ∀ x ∈ M, M.countP (fun y => bf y x) < M.length := fun x hx => by
    have := countP_lt (p := fun y => bf y x) (q := fun _ => true) M x (fun _ _ => rfl) hx rfl (h1 x)
    rwa [List.countP_true] at this
  refine ⟨hlt, fun k hk => ?_⟩
  have hmono : ∀ x ∈ M, ∀ y, bf x y = true → M.countP (fun z => bf z x) < M.countP (fun z => bf z y) := fun x hx y hxy =>
    countP_lt M x (fun z hz => h3 z x y hz hxy) hx hxy (h1 x)
  have hinj : ∀ x ∈ M, ∀ y ∈ M, M.countP (fun z => bf z x) = M.countP (fun z => bf z y) → x = y := fun x hx y hy e => by
    by_cases q : x = y
    · exact q
    · rcases h2 x y q with z | z
      · have := hmono x hx y z
        omega
      · have := hmono y hy x z
        omega
  have hc := sumB_count (fun x => M.countP (fun y => bf y x)) M hlt
  have h1c := sumB_full (p := fun k => M.countP (fun x => M.countP (fun y => bf y x) == k)) (fun k _ => countP_one M hM (fun x hx y hy a b => hinj x hx y hy (by
    simp only [beq_iff_eq] at a b
    omega))) hc k hk
  have hpos : 0 < M.countP (fun x => M.countP (fun y => bf y x) == k) := by
    have h1c' : M.countP (fun x => M.countP (fun y => bf y x) == k) = 1 := h1c
    omega
  obtain ⟨x, hx, e⟩ := List.countP_pos_iff.mp hpos
  exact ⟨x, hx, by simpa using e⟩
theorem popc_n : ∀ n, n ≤ 8 → ∀ i, i < 2 ^ n → popc i = ((List.range n).filter (fun k => i.testBit k)).length := by
  intro n hn
  have : n = 0 ∨ n = 1 ∨ n = 2 ∨ n = 3 ∨ n = 4 ∨ n = 5 ∨ n = 6 ∨ n = 7 ∨ n = 8 := by omega
  rcases this with z | z | z | z | z | z | z | z | z <;> subst z <;> decide +kernel
/-! ===== what it is worth ===== -/
def grF (n : Nat) (nu : Nat → Nat → Nat) (u : Nat) : Nat := if 1 < popc u then sumB n (fun l => if u.testBit l = true then risk nu l else 0) else 0
theorem risk_le (nu : Nat → Nat → Nat) (l : Nat) : risk nu l ≤ 15 := by unfold risk; omega
theorem grF_le {n : Nat} (hn : n ≤ 8) (nu : Nat → Nat → Nat) (u : Nat) : grF n nu u ≤ 120 := by
  unfold grF
  split
  · have := sumB_le (n := n) (p := fun l => if u.testBit l = true then risk nu l else 0) (c := 15) (fun l _ => by
      have := risk_le nu l
      show (if u.testBit l = true then risk nu l else 0) ≤ 15
      split <;> omega)
    omega
  · exact Nat.zero_le _
section WO
variable {σ : SS} {d n nk i c : Nat} {s p o : Int32} {nu : Nat → Nat → Nat} {lo : Nat → Nat} {L : List X3}
theorem number_ok (hd : d < 5) (hs : RS σ d n nk nu lo) {w l : Nat} (hw : w < 6) (hl : l < n) : X0_number σ d (nI w) (nI l) = some (nI (nu w l)) := by
  have h8 := hs.n8
  unfold X0_number X0_number_j0
  rw [nu_at hd w (by omega) (by omega), Option.bind_some, hs.2.2.1 w l hw hl]
theorem numberR_ok (hd : d < 5) (hs : RS σ d n nk nu lo) {l : Nat} (hl : l < n) : X0_number σ d 6 (nI l) = some (nI (risk nu l)) := by
  have h8 := hs.n8
  unfold X0_number X0_number_j0
  rw [show X4_at σ (4 * d + 1) 6 (nI l) = some (σ.1 13 (4 * d + 1) (6 * 8 + l)) from nu_at hd 6 (by decide) (by omega), Option.bind_some]
  have := hs.2.2.2.1 l hl
  rw [show 6 * 8 + l = 48 + l by omega, this]
theorem unclip_ok (hs : RS σ d n nk nu lo) (h : RV σ d n i c s p o L) (hx : Sub c i) : X0_unclippedSet σ d = some (nI (i &&& (255 ^^^ c))) := by
  have h8 := hs.n8
  have hi := p256 h8 h.ilt
  obtain ⟨r, r1, r2, r3⟩ := h.raw
  unfold X0_unclippedSet X0_unclippedSet_j0
  rw [h.ins, r2, show (-1 : Int32) = -nI 1 from rfl, nI_andn hi]
  congr 2
  apply Nat.eq_of_testBit_eq
  intro k
  by_cases hk : k < 8
  · rw [Nat.testBit_and, Nat.testBit_and, xor_tb hk, xor_tb hk]
    cases hb : i.testBit k with
    | false => rfl
    | true =>
      have := and_tb r3 hb
      rw [this]
  · have : i.testBit k = false := tb_out (n := 8) hi (by omega)
    rw [Nat.testBit_and, Nat.testBit_and, this, Bool.false_and, Bool.false_and]
theorem bit1 {u l : Nat} (hu : u < 256) (hl : l < 8) {α : Type} {x y : α} : (if ((nI u >>> (nI l &&& 31)) &&& 1) = 1 then x else y) = if u.testBit l = true then x else y := by
  rw [show ((nI u >>> (nI l &&& 31)) &&& 1) = nI (if u.testBit l = true then 1 else 0) from hbit hu hl]
  by_cases q : u.testBit l = true
  · rw [if_pos q, if_pos q, if_pos (by decide)]
  · rw [if_neg q, if_neg q, if_neg (by decide)]
theorem grown_ok (hd : d < 5) (hs : RS σ d n nk nu lo) (h : RV σ d n i c s p o L) (hx : Sub c i) : X8_sixteenthsGrown σ d = some (nI (grF n nu (i &&& (255 ^^^ c)))) := by
  have h8 := hs.n8
  have hi := p256 h8 h.ilt
  have hu : i &&& (255 ^^^ c) < 256 := and_lt hi
  unfold X8_sixteenthsGrown X8_sixteenthsGrown_j0 X8_sixteenthsGrown_l10
  rw [unclip_ok hs h hx, Option.bind_some]
  generalize i &&& (255 ^^^ c) = u at *
  rw [loop_sum (n := n) (fun l => if u.testBit l = true then risk nu l else 0) (by omega) (fun a k hk => by
    show X8_sixteenthsGrown_l10c σ d (nI u) (nI a) (nI k) = _
    unfold X8_sixteenthsGrown_l10c X8_sixteenthsGrown_j42 X0_leadCount X0_leadCount_j0
    rw [hs.ln, Option.bind_some, if_neg (nI_ge hk (by omega)), bit1 hu (by omega), numberR_ok hd hs hk, Option.bind_some]
    by_cases q : u.testBit k = true
    · rw [if_pos q, if_pos q, nI_add, Option.bind_some, nI_1, Option.bind_some]
    · rw [if_neg q, if_neg q, show (0 : Int32) = nI 0 from rfl, nI_add, Option.bind_some, nI_1, Option.bind_some]) (fun a => by
    show X8_sixteenthsGrown_l10c σ d (nI u) (nI a) (nI n) = _
    unfold X8_sixteenthsGrown_l10c X0_leadCount X0_leadCount_j0
    rw [hs.ln, Option.bind_some, if_pos (nI_le (Nat.le_refl _) (by omega))]), Option.bind_some, bc_ok σ u hu, Option.bind_some]
  have hp := popc_le u
  unfold grF
  by_cases q : 1 < popc u
  · rw [if_neg (show ¬ nI (popc u) ≤ 1 from nI_ge (a := 1) q (by omega)), if_pos q]
  · rw [if_pos (show nI (popc u) ≤ 1 from nI_le (b := 1) (by omega) (by decide)), if_neg q]
    rfl
theorem xgrowth (hs : RXS σ n nk nu lo) (h : RXV σ n i c s p o L) : X12_growth σ = some (nI (grF n nu (i &&& (255 ^^^ c)))) := by
  have h8 := hs.n8
  have hi := p256 h8 h.ilt
  have hu : i &&& (255 ^^^ c) < 256 := and_lt hi
  have hcr := xcrossable h8 h
  unfold X12_growth X12_growth_j0 X12_growth_l17
  rw [hcr, Option.bind_some]
  generalize i &&& (255 ^^^ c) = u at *
  have hp := popc_le u
  rw [xsizeOf hu, Option.bind_some]
  unfold grF
  by_cases q : 1 < popc u
  · rw [if_pos (show (2 : Int32) ≤ nI (popc u) from nI_le (a := 2) q (by omega)), if_pos q]
    rw [loop_sum (n := n) (fun l => if u.testBit l = true then risk nu l else 0) (by omega) (fun a k hk => by
      show X12_growth_l17c σ (nI a) (nI k) = _
      unfold X12_growth_l17c X12_growth_j48
      rw [ck0, Option.bind_some, hs.ln, if_neg (nI_ge hk (by omega)), hcr, Option.bind_some, xhas hu (by omega), Option.bind_some, v01, xriskOf hs hk, Option.bind_some]
      by_cases q : u.testBit k = true
      · rw [if_pos q, if_pos q, nI_add, Option.bind_some, nI_1, Option.bind_some]
      · rw [if_neg q, if_neg q, show (0 : Int32) = nI 0 from rfl, nI_add, Option.bind_some, nI_1, Option.bind_some]) (fun a => by
      show X12_growth_l17c σ (nI a) (nI n) = _
      unfold X12_growth_l17c
      rw [ck0, Option.bind_some, hs.ln, if_pos (nI_le (Nat.le_refl _) (by omega))]), Option.bind_some]
  · rw [if_neg (show ¬ (2 : Int32) ≤ nI (popc u) from nI_ge (b := 2) (by omega) (by decide)), if_neg q]
    rfl
/-! fractions: what may be written -/
def PF : Nat → Nat → Nat → Prop := fun k n j => PV k n j ∨ FrC k n j
theorem PS_PF : ∀ k n j, PS k n j → PF k n j := fun _ _ _ q => .inl (.inl q)
theorem PV_PF {σ τ : SS} (h : Eqo PV σ τ) : Eqo PF σ τ := h.mono (fun _ _ _ q => .inl q)
theorem fr1 (σ : SS) (a b : Int64) : Eqo FrC σ (wJ (wJ σ 10 0 12 a) 10 0 13 b) := (Eqo.wJ (.inl ⟨rfl, rfl, .inl rfl⟩)).tr (Eqo.wJ (.inl ⟨rfl, rfl, .inr rfl⟩))
theorem fr2 (σ : SS) (a b : Int64) : Eqo FrC σ (wJ (wJ σ 11 0 2 a) 11 0 3 b) := (Eqo.wJ (.inr ⟨rfl, rfl, .inl rfl⟩)).tr (Eqo.wJ (.inr ⟨rfl, rfl, .inr rfl⟩))
theorem Fr.tell {σ τ : SS} {a b : Int64} {P : Nat → Nat → Nat → Prop} (hE : Eqo P (wJ (wJ σ 10 0 12 a) 10 0 13 b) τ) (hP : ∀ k n j, P k n j → ¬ FrC k n j) : Fr (wJ (wJ τ 11 0 2 a) 11 0 3 b) := by
  have e1 : τ.2 10 0 12 = a := by
    rw [hE.2 _ _ _ (fun q => hP _ _ _ q (by unfold FrC; omega)), wJ_ne _ _ (by omega), wJ_eq]
  have e2 : τ.2 10 0 13 = b := by
    rw [hE.2 _ _ _ (fun q => hP _ _ _ q (by unfold FrC; omega)), wJ_eq]
  refine ⟨?_, ?_⟩
  · rw [wJ_ne _ _ (by omega), wJ_ne _ _ (by omega), wJ_ne _ _ (by omega), wJ_eq, e1]
  · rw [wJ_ne _ _ (by omega), wJ_ne _ _ (by omega), wJ_eq, e2]
theorem RelD.fr {τ : SS} (h : RelD σ n nk nu lo i c s p o L) (hE : Eqo FrC σ τ) : RelD τ n nk nu lo i c s p o L := h.keep hE (fun k n j q => by unfold FrC at q; unfold RDc; omega)
theorem op_grows (h : RelD σ n nk nu lo i c s p o L) : OR3 PF σ X11_grows X12_grows (fun τ => RelD τ n nk nu lo i c s p o L ∧ Fr τ) := by
  have h1 := h.ps (ps1 σ 0)
  have h8 := h.1.n8
  have e1 := grown_ok (by decide) h1.1 h1.2.1 h.2.2.2.sub
  have hg := grF_le h8 nu (i &&& (255 ^^^ c))
  generalize hgg : grF n nu (i &&& (255 ^^^ c)) = g at *
  have hX := labs_lN (n := g) (by omega)
  have t1 := tell_ok (wI σ 10 0 11 0) hX (by omega) (b := 16) (by decide) (by decide)
  have r2 := h1.fr (fr1 _ (lN g / lN (Nat.gcd g 16)) (lN 16 / lN (Nat.gcd g 16)))
  have r3 := r2.ps (xb_ps _)
  have e2 := xgrowth r3.2.2.1 r3.2.2.2
  rw [hgg] at e2
  have t2 := xtell_ok (xb (wJ (wJ (wI σ 10 0 11 0) 10 0 12 (lN g / lN (Nat.gcd g 16))) 10 0 13 (lN 16 / lN (Nat.gcd g 16)))) hX (by omega) (b := 16) (by decide) (by decide)
  refine ⟨1, wJ (wJ (wI σ 10 0 11 0) 10 0 12 (lN g / lN (Nat.gcd g 16))) 10 0 13 (lN 16 / lN (Nat.gcd g 16)), wJ (wJ (xb (wJ (wJ (wI σ 10 0 11 0) 10 0 12 (lN g / lN (Nat.gcd g 16))) 10 0 13 (lN 16 / lN (Nat.gcd g 16)))) 11 0 2 (lN g / lN (Nat.gcd g 16))) 11 0 3 (lN 16 / lN (Nat.gcd g 16)), ?_, ?_, ?_, ?_, r3.fr (fr2 _ (lN g / lN (Nat.gcd g 16)) (lN 16 / lN (Nat.gcd g 16))), Fr.tell (xb_ps _) (fun k n j q => by unfold PS at q; unfold FrC; omega)⟩
  · unfold X11_grows X11_grows_j0
    rw [answers0, Option.bind_some, if_neg neg1_0, e1, Option.bind_some, nI_l (by omega), show (16 : Int64) = lN 16 from rfl, t1, Option.bind_some, if_neg neg1_0]
  · unfold X12_grows X12_grows_j0
    rw [Option.bind_some, Option.bind_some]
    show ((X12_growth (xb _)).bind _) = _
    rw [e2, Option.bind_some, nI_l (by omega), show (16 : Int64) = lN 16 from rfl]
    show ((X12_fraction (xb _) _ _).bind _) = _
    rw [t2, Option.bind_some, zb_1, Option.bind_some]
  · exact xb_st (by
      show (wI σ 10 0 11 0).1 10 0 11 = 0
      rw [wI_eq])
  · exact ((((ps1 σ 0).mono PS_PF).tr ((fr1 _ _ _).mono (fun _ _ _ q => .inr q))).tr ((xb_ps _).mono PS_PF)).tr ((fr2 _ _ _).mono (fun _ _ _ q => .inr q))
theorem op_fresh (a b : Int32) (h : RelD σ n nk nu lo i c s p o L) (hF : Fr σ) : OR3 PF σ (fun σ => X11_fresh σ a b) (fun σ => X12_fresh σ a b) (fun τ => RelD τ n nk nu lo i c s p o L ∧ Fr τ) := by
  have h1 := h.ps (ps1 σ 0)
  have h8 := h.1.n8
  have hC : ∀ τ, Eqo PS σ τ → RelD τ n nk nu lo i c s p o L ∧ Fr τ := fun τ hE => ⟨h.ps hE, hF.keep hE (fun k n j q => by unfold PS at q; unfold FrC; omega)⟩
  rcases lead_or h.1 a with ⟨l, hl, rfl⟩ | ⟨ha, hn⟩
  · by_cases q : i.testBit l = true
    · have hin : X0_isIn σ 0 (nI l) = some 1 := by rw [isIn_in h.1 h.2.1 hl, if_pos q]
      rcases in_or b 999 (by decide) with ⟨w, hw, rfl⟩ | ⟨hb, hnb⟩
      · obtain ⟨υ, f1, hE1, -⟩ := find_ok (by decide) h1.1 h1.2.1 hl
        have hal := (alF_lt h.1.wf (l := l) h.2.1.wl).1
        generalize hv : (alF nu l L).1 = v at *
        have hco := h.1.wf.2.2.1 l hl
        have r1 := h1.keep hE1 (fun k n j q => by unfold WF WR at q; unfold RDc; omega)
        have m1 : v * w ≤ 1514 * 999 := Nat.mul_le_mul (by omega) hw
        obtain ⟨X, hX, hX2⟩ := labs_any (lN (v * w) - lN (60 * nu 4 l)) (by
          rw [Int64.toInt_sub, lN64 (by omega), lN64 (by omega), Int.bmod_eq_of_le (by omega) (by omega)]
          omega)
        generalize ht : lN (v * w) - lN (60 * nu 4 l) = t at *
        have t1 := tell_ok υ hX hX2 (b := 60) (by decide) (by decide)
        have r2 := r1.fr (fr1 _ (t / lN (Nat.gcd X 60)) (lN 60 / lN (Nat.gcd X 60)))
        have r3 := r2.ps (xb_ps _)
        obtain ⟨τ, e3, hc3, hE3, -⟩ := xaloneOf r3.2.2.1 r3.2.2.2 hl
        rw [hv] at e3
        have r4 := r3.of hE3 hc3 (fun k n j q => by unfold AX XC FX at q; omega)
        have t2 := xtell_ok τ hX hX2 (b := 60) (by decide) (by decide)
        have hEx := ((PS_PVE (xb_ps (wJ (wJ υ 10 0 12 (t / lN (Nat.gcd X 60))) 10 0 13 (lN 60 / lN (Nat.gcd X 60))))).tr (AX_PV hE3))
        refine ⟨1, wJ (wJ υ 10 0 12 (t / lN (Nat.gcd X 60))) 10 0 13 (lN 60 / lN (Nat.gcd X 60)), wJ (wJ τ 11 0 2 (t / lN (Nat.gcd X 60))) 11 0 3 (lN 60 / lN (Nat.gcd X 60)), ?_, ?_, ?_, ?_, r4.fr (fr2 _ (t / lN (Nat.gcd X 60)) (lN 60 / lN (Nat.gcd X 60))), Fr.tell hEx (fun k n j q => by
          unfold PV PS XO XC SP at q
          unfold FrC
          omega)⟩
        · show X11_fresh σ (nI l) (nI w) = _
          unfold X11_fresh X11_fresh_j0 X11_fresh_j44 X11_isPence X11_isPence_j0
          rw [has_in h.1 hl, Option.bind_some, if_neg neg1_0, hin, Option.bind_some, if_neg neg1_0, if_neg (nI_pos (by omega)), if_neg (show ¬ (999 : Int32) < nI w from nI_nlt (a := 999) hw (by decide)), Option.bind_some, if_neg neg1_0, answers0, Option.bind_some, if_neg neg1_0, f1, Option.bind_some]
          simp only
          rw [show X0_number υ 0 4 (nI l) = some (nI (nu 4 l)) from number_ok (by decide) r1.1 (by decide) hl, Option.bind_some, nI_l (by omega), nI_l (by omega), nI_l (by omega), lN_mul, show (60 : Int64) = lN 60 from rfl, lN_mul, ht, t1, Option.bind_some, if_neg neg1_0]
        · show X12_fresh _ (nI l) (nI w) = _
          unfold X12_fresh X12_fresh_j0
          rw [Option.bind_some, Option.bind_some]
          show ((X12_isLeadAt (xb _) (nI l)).bind _) = _
          rw [xisLeadAt_in r3.2.2.1 hl, Option.bind_some, if_neg neg1_0]
          show ((X12_isInside (xb _) (nI l)).bind _) = _
          rw [xisInside r3.2.2.1 r3.2.2.2 hl, Option.bind_some, if_pos q, if_neg neg1_0, xisIn_in _ hw (by decide) 999 (by decide), Option.bind_some, if_neg neg1_0]
          show ((X12_aloneOf (xb _) (nI l)).bind _) = _
          have g40 := r4.2.2.1.gn (w := 4) (by decide) hl
          rw [e3, Option.bind_some, show (40 : Int32) + nI l = nI (40 + l) from nI_add _ _, ckc (by omega), Option.bind_some]
          simp only
          rw [show 40 + l = 8 + 8 * 4 + l by omega, g40, nI_l (by omega), nI_l (by omega), nI_l (by omega), lN_mul, show (60 : Int64) = lN 60 from rfl, lN_mul, ht, t2, Option.bind_some, zb_1, Option.bind_some]
        · have g1 : (wJ (wJ υ 10 0 12 (t / lN (Nat.gcd X 60))) 10 0 13 (lN 60 / lN (Nat.gcd X 60))).1 10 0 11 = 0 := by
            show υ.1 10 0 11 = 0
            rw [hE1.at1 (by unfold WF WR; omega), wI_eq]
          have g2 := xb_st g1
          unfold St at g2 ⊢
          show τ.1 10 0 11 = τ.1 11 0 0
          rw [hE3.at1 (by unfold AX XC FX; omega), hE3.at1 (by unfold AX XC FX; omega)]
          exact g2
        · exact (((((ps1 σ 0).mono PS_PF).tr (PV_PF (WF_PV hE1))).tr ((fr1 _ _ _).mono (fun _ _ _ q => .inr q))).tr (PV_PF hEx)).tr ((fr2 _ _ _).mono (fun _ _ _ q => .inr q))
      · refine refP hC PS_PF 5 0 ?_ ?_
        · show X11_fresh σ (nI l) b = _
          have e1 : X11_isPence σ b = some 0 := by
            unfold X11_isPence X11_isPence_j0
            rcases hb with z | ⟨z1, z2⟩
            · rw [if_pos z]
            · rw [if_neg z1, if_pos (show (999 : Int32) < b from Int32.not_le.mp z2)]
          unfold X11_fresh X11_fresh_j0 X11_fresh_j44
          rw [has_in h.1 hl, Option.bind_some, if_neg neg1_0, hin, Option.bind_some, if_neg neg1_0, e1, Option.bind_some, if_pos rfl, answersN _ (by decide), Option.bind_some, if_pos rfl]
        · show X12_fresh (wI σ 10 0 11 5) (nI l) b = _
          unfold X12_fresh X12_fresh_j0
          rw [Option.bind_some, Option.bind_some, s0e, s0b h 5 hl, Option.bind_some, if_neg neg1_0, s0c h 5 hl, Option.bind_some, if_pos q, if_neg neg1_0, xisIn_out _ hnb 999 (by decide), Option.bind_some, if_pos rfl, no_eq, Option.bind_some, zb_0, Option.bind_some]
    · refine refP hC PS_PF 9 0 ?_ ?_
      · show X11_fresh σ (nI l) b = _
        unfold X11_fresh X11_fresh_j0 X11_fresh_j44
        rw [has_in h.1 hl, Option.bind_some, if_neg neg1_0, isIn_in h.1 h.2.1 hl, Option.bind_some, if_neg q, if_pos rfl, answersN _ (by decide), Option.bind_some, if_pos rfl]
      · show X12_fresh (wI σ 10 0 11 9) (nI l) b = _
        unfold X12_fresh X12_fresh_j0
        rw [Option.bind_some, Option.bind_some, s0e, s0b h 9 hl, Option.bind_some, if_neg neg1_0, s0c h 9 hl, Option.bind_some, if_neg q, if_pos rfl, no_eq, Option.bind_some, zb_0, Option.bind_some]
  · refine refP hC PS_PF 2 0 ?_ ?_
    · show X11_fresh σ a b = _
      unfold X11_fresh X11_fresh_j0 X11_fresh_j44
      rw [hn, Option.bind_some, if_pos rfl, answersN _ (by decide), Option.bind_some, if_pos rfl]
    · show X12_fresh (wI σ 10 0 11 2) a b = _
      unfold X12_fresh X12_fresh_j0
      rw [Option.bind_some, Option.bind_some, s0e, s0a h 2 ha, Option.bind_some, if_pos rfl, no_eq, Option.bind_some, zb_0, Option.bind_some]
end WO
