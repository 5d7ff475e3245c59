/-! ===== keeping and giving; the best cut; the worst ===== -/
theorem xkeeps (σ : SS) : ∃ τ, X12_keeps σ = some τ ∧ τ.2 = σ.2 ∧ (∀ k n j, ¬ (k = 13 ∧ n = 35) → τ.1 k n j = σ.1 k n j) ∧ ∀ j, j < 132 → τ.1 13 35 j = σ.1 13 34 j := by
  have key : ∃ t, iter X12_keeps_l2b NF (0, σ) = some t ∧ t.2 = σ.2 ∧ (∀ k n j, ¬ (k = 13 ∧ n = 35) → t.1 k n j = σ.1 k n j) ∧ ∀ j, j < 132 → t.1 13 35 j = σ.1 13 34 j := by
    refine iter_upto (fun m (st : Int32 × SS) => st.1 = nI m ∧ st.2.2 = σ.2 ∧ (∀ k n j, ¬ (k = 13 ∧ n = 35) → st.2.1 k n j = σ.1 k n j) ∧ ∀ j, j < m → st.2.1 13 35 j = σ.1 13 34 j) 132 (fun (t : SS) => t.2 = σ.2 ∧ (∀ k n j, ¬ (k = 13 ∧ n = 35) → t.1 k n j = σ.1 k n j) ∧ ∀ j, j < 132 → t.1 13 35 j = σ.1 13 34 j) (fun m st hm hI => ?_) (fun st hI => ?_) ⟨rfl, rfl, fun _ _ _ _ => rfl, fun j hj => absurd hj (Nat.not_lt_zero _)⟩ (by decide)
    · left
      obtain ⟨x, υ⟩ := st
      obtain ⟨g1, g2, g3, g4⟩ := hI
      simp only at g1 g2 g3 g4
      subst g1
      have c35 : ck (LN 13 35) (nI m) = some m := by
        rw [lens.2.2.2.2.1]
        exact ck_nI hm (by decide)
      refine ⟨(nI (m + 1), wI υ 13 35 m (υ.1 13 34 m)), ?_, rfl, g2, fun k n j q => ?_, fun j hj => ?_⟩
      · show X12_keeps_l2c υ (nI m) = _
        unfold X12_keeps_l2c
        rw [if_neg (show ¬ (132 : Int32) ≤ nI m from nI_ge (b := 132) hm (by decide)), ckc (by omega), Option.bind_some, c35, Option.bind_some, Option.bind_some, nI_1, Option.bind_some]
      · simp only
        rw [wI_ne _ _ (by omega)]
        exact g3 k n j q
      · simp only
        by_cases e : j = m
        · subst e
          rw [wI_eq]
          exact g3 _ _ _ (by omega)
        · rw [wI_ne _ _ (by omega)]
          exact g4 j (by omega)
    · obtain ⟨x, υ⟩ := st
      obtain ⟨g1, g2, g3, g4⟩ := hI
      simp only at g1 g2 g3 g4
      subst g1
      refine ⟨υ, ?_, g2, g3, g4⟩
      show X12_keeps_l2c υ (nI 132) = _
      unfold X12_keeps_l2c
      rw [if_pos (show (132 : Int32) ≤ nI 132 by decide)]
  obtain ⟨t, e, h⟩ := key
  refine ⟨t, ?_, h⟩
  unfold X12_keeps X12_keeps_j0 X12_keeps_l2
  rw [e, Option.bind_some]
theorem xgives (σ : SS) : ∃ τ, X12_gives σ = some τ ∧ τ.2 = σ.2 ∧ (∀ k n j, ¬ (k = 13 ∧ n = 34 ∧ j < 132) → τ.1 k n j = σ.1 k n j) ∧ ∀ j, j < 132 → τ.1 13 34 j = σ.1 13 35 j := by
  have key : ∃ t, iter X12_gives_l2b NF (0, σ) = some t ∧ t.2 = σ.2 ∧ (∀ k n j, ¬ (k = 13 ∧ n = 34 ∧ j < 132) → t.1 k n j = σ.1 k n j) ∧ ∀ j, j < 132 → t.1 13 34 j = σ.1 13 35 j := by
    refine iter_upto (fun m (st : Int32 × SS) => st.1 = nI m ∧ st.2.2 = σ.2 ∧ (∀ k n j, ¬ (k = 13 ∧ n = 34 ∧ j < 132) → st.2.1 k n j = σ.1 k n j) ∧ ∀ j, j < m → st.2.1 13 34 j = σ.1 13 35 j) 132 (fun (t : SS) => t.2 = σ.2 ∧ (∀ k n j, ¬ (k = 13 ∧ n = 34 ∧ j < 132) → t.1 k n j = σ.1 k n j) ∧ ∀ j, j < 132 → t.1 13 34 j = σ.1 13 35 j) (fun m st hm hI => ?_) (fun st hI => ?_) ⟨rfl, rfl, fun _ _ _ _ => rfl, fun j hj => absurd hj (Nat.not_lt_zero _)⟩ (by decide)
    · left
      obtain ⟨x, υ⟩ := st
      obtain ⟨g1, g2, g3, g4⟩ := hI
      simp only at g1 g2 g3 g4
      subst g1
      have c35 : ck (LN 13 35) (nI m) = some m := by
        rw [lens.2.2.2.2.1]
        exact ck_nI hm (by decide)
      refine ⟨(nI (m + 1), wI υ 13 34 m (υ.1 13 35 m)), ?_, rfl, g2, fun k n j q => ?_, fun j hj => ?_⟩
      · show X12_gives_l2c υ (nI m) = _
        unfold X12_gives_l2c
        rw [if_neg (show ¬ (132 : Int32) ≤ nI m from nI_ge (b := 132) hm (by decide)), c35, Option.bind_some, ckc (by omega), Option.bind_some, Option.bind_some, nI_1, Option.bind_some]
      · simp only
        rw [wI_ne _ _ (by omega)]
        exact g3 k n j q
      · simp only
        by_cases e : j = m
        · subst e
          rw [wI_eq]
          exact g3 _ _ _ (by omega)
        · rw [wI_ne _ _ (by omega)]
          exact g4 j (by omega)
    · obtain ⟨x, υ⟩ := st
      obtain ⟨g1, g2, g3, g4⟩ := hI
      simp only at g1 g2 g3 g4
      subst g1
      refine ⟨υ, ?_, g2, g3, g4⟩
      show X12_gives_l2c υ (nI 132) = _
      unfold X12_gives_l2c
      rw [if_pos (show (132 : Int32) ≤ nI 132 by decide)]
  obtain ⟨t, e, h⟩ := key
  refine ⟨t, ?_, h⟩
  unfold X12_gives X12_gives_j0 X12_gives_l2
  rw [e, Option.bind_some]
theorem updC_mem {l : Nat} {L : List X3} {x : X3} (hx : x ∈ L) (hq : qO l x = false) : x ∈ updL (gC l) L := by
  induction L with
  | nil => cases hx
  | cons y t ih =>
    rw [updL_cons]
    rcases List.mem_cons.mp hx with z | z
    · subst z
      rw [if_neg (show ¬ (gC l x).2 = true from fun w => by
        have : qO l x = true := w
        rw [hq] at this
        cases this)]
      exact List.mem_cons_self
    · have := ih z
      split
      · exact this
      · exact List.mem_cons_of_mem _ this
theorem lumpF_cut {i l a : Nat} {L : List X3} (hl : l < 8) : lumpF (i &&& (255 ^^^ 2 ^ l)) (updL (gC l) L) a = lumpF (i &&& (255 ^^^ 2 ^ l)) L a := by
  have hC : ∀ T, Cld (i &&& (255 ^^^ 2 ^ l)) (updL (gC l) L) T ↔ Cld (i &&& (255 ^^^ 2 ^ l)) L T := fun T => by
    constructor
    · intro h x hx ht
      have hq : qO l x = false := by
        have h1 := ((and_not_tb hl).mp ht.2.1).2.1
        have h2 := ((and_not_tb hl).mp ht.2.2).2.1
        unfold qO
        simp [h1, h2]
      exact h x (updC_mem hx hq) ht
    · intro h x hx ht
      exact h x (mem_updC hx).1 ht
  have hP : ∀ s, IsLump (i &&& (255 ^^^ 2 ^ l)) (updL (gC l) L) a s ↔ IsLump (i &&& (255 ^^^ 2 ^ l)) L a s := fun s => by
    unfold IsLump
    rw [hC s]
    constructor
    · rintro ⟨a1, a2, a3, a4⟩
      exact ⟨a1, a2, a3, fun T g1 g2 => a4 T g1 ((hC T).mpr g2)⟩
    · rintro ⟨a1, a2, a3, a4⟩
      exact ⟨a1, a2, a3, fun T g1 g2 => a4 T g1 ((hC T).mp g2)⟩
  have hPE : (fun s => IsLump (i &&& (255 ^^^ 2 ^ l)) (updL (gC l) L) a s) = fun s => IsLump (i &&& (255 ^^^ 2 ^ l)) L a s := funext fun s => propext (hP s)
  by_cases hex : ∃ s, IsLump (i &&& (255 ^^^ 2 ^ l)) L a s
  · obtain ⟨s, hs⟩ := hex
    rw [← lumpF_is hs, ← lumpF_is ((hP s).mpr hs)]
  · have hex2 : ¬ ∃ s, IsLump (i &&& (255 ^^^ 2 ^ l)) (updL (gC l) L) a s := fun ⟨s, hs⟩ => hex ⟨s, (hP s).mp hs⟩
    unfold lumpF
    rw [dif_neg hex, dif_neg hex2]
theorem largestF_cut {n i l : Nat} {L : List X3} (hl : l < 8) : largestF n (i &&& (255 ^^^ 2 ^ l)) (updL (gC l) L) = largestF n (i &&& (255 ^^^ 2 ^ l)) L := by
  unfold largestF
  congr 1
  funext a b
  rw [lumpF_cut hl]
theorem largestF_le (n m : Nat) (L : List X3) : largestF n m L ≤ 8 := by
  unfold largestF
  have : ∀ (M : List Nat) (a : Nat), a ≤ 8 → M.foldl (fun a l => max a (popc (lumpF m L l))) a ≤ 8 := by
    intro M
    induction M with
    | nil => intro a h; exact h
    | cons x t ih =>
      intro a h
      exact ih _ (Nat.max_le.mpr ⟨h, popc_le _⟩)
  exact this _ _ (Nat.zero_le _)
section G1
variable {σ τ : SS} {n nk i c : Nat} {s p o : Int32} {nu : Nat → Nat → Nat} {lo : Nat → Nat} {L : List X3}
theorem RXS.of (h : RXS σ n nk nu lo) (e : ∀ j, j < 132 → τ.1 13 34 j = σ.1 13 34 j) : RXS τ n nk nu lo := by
  have : RXS (τ.1, σ.2) n nk nu lo := h.keep (P := fun k n j => ¬ (k = 13 ∧ n = 34 ∧ j < 132)) ⟨fun k n j q => by
    have q' : k = 13 ∧ n = 34 ∧ j < 132 := Classical.not_not.mp q
    obtain ⟨rfl, rfl, hj⟩ := q'
    exact e j hj, fun _ _ _ _ => rfl⟩ (fun j q => by omega)
  exact this
theorem RXV.of (h : RXV σ n i c s p o L) (e : ∀ j, j < 132 → τ.1 13 34 j = σ.1 13 34 j) : RXV τ n i c s p o L := by
  have : RXV (τ.1, σ.2) n i c s p o L := h.keep (P := fun k n j => ¬ (k = 13 ∧ n = 34 ∧ j < 132)) ⟨fun k n j q => by
    have q' : k = 13 ∧ n = 34 ∧ j < 132 := Classical.not_not.mp q
    obtain ⟨rfl, rfl, hj⟩ := q'
    exact e j hj, fun _ _ _ _ => rfl⟩ (fun j q => by omega)
  exact this
/-- what is only tried: keep, change, give -/
theorem tried {υ ω : SS} (hk : υ.2 = σ.2 ∧ (∀ k n j, ¬ (k = 13 ∧ n = 35) → υ.1 k n j = σ.1 k n j) ∧ ∀ j, j < 132 → υ.1 13 35 j = σ.1 13 34 j) (hE : Eqo XC υ ω) (hg : τ.2 = ω.2 ∧ (∀ k n j, ¬ (k = 13 ∧ n = 34 ∧ j < 132) → τ.1 k n j = ω.1 k n j) ∧ ∀ j, j < 132 → τ.1 13 34 j = ω.1 13 35 j) : (∀ j, j < 132 → τ.1 13 34 j = σ.1 13 34 j) ∧ Eqo XO σ τ := by
  have e1 : ∀ j, j < 132 → τ.1 13 34 j = σ.1 13 34 j := fun j hj => by
    rw [hg.2.2 j hj, hE.1 13 35 j (by unfold XC; omega), hk.2.2 j hj]
  refine ⟨e1, fun k n j q => ?_, fun k n j q => ?_⟩
  · by_cases z : k = 13 ∧ n = 34 ∧ j < 132
    · obtain ⟨rfl, rfl, hj⟩ := z
      exact e1 j hj
    · rw [hg.2.1 k n j z, hE.1 k n j (fun w => q (.inl w)), hk.2.1 k n j (fun w => q (.inr (.inr w)))]
  · rw [hg.1, hE.2 k n j (fun w => q (.inl w)), hk.1]
theorem xkey (hs : RXS σ n nk nu lo) (h : RXV σ n i c s p o L) : ∃ τ, X12_key_l17 σ (-1) 99 0 = (if 0 ≤ oI (bcF n i L).1 then some (oI (bcF n i L).1, τ) else (X12_refuse τ 8).bind fun p86 => some (p86.1, p86.2)) ∧ Eqo XO σ τ ∧ RXV τ n i c s p o L := by
  have h8 := hs.n8
  have hbs : ∀ k, (List.range (k + 1)).foldl (fun a l => if i.testBit l = true ∧ largestF n (i &&& (255 ^^^ 2 ^ l)) L < a.2 then (some l, largestF n (i &&& (255 ^^^ 2 ^ l)) L) else a) ((none, 9) : Option Nat × Nat) = (fun a => if i.testBit k = true ∧ largestF n (i &&& (255 ^^^ 2 ^ k)) L < a.2 then (some k, largestF n (i &&& (255 ^^^ 2 ^ k)) L) else a) ((List.range k).foldl (fun a l => if i.testBit l = true ∧ largestF n (i &&& (255 ^^^ 2 ^ l)) L < a.2 then (some l, largestF n (i &&& (255 ^^^ 2 ^ l)) L) else a) (none, 9)) := fun k => by
    rw [List.range_succ, List.foldl_append]
    rfl
  have key : ∃ t, iter X12_key_l17b NF (-1, 99, 0, σ) = some t ∧ t.1 = oI (bcF n i L).1 ∧ Eqo XO σ t.2 ∧ RXS t.2 n nk nu lo ∧ RXV t.2 n i c s p o L := by
    refine iter_upto (fun k (st : Int32 × Int32 × Int32 × SS) => k ≤ n ∧ st.2.2.1 = nI k ∧ (∃ a : Option Nat × Nat, a = (List.range k).foldl (fun a l => if i.testBit l = true ∧ largestF n (i &&& (255 ^^^ 2 ^ l)) L < a.2 then (some l, largestF n (i &&& (255 ^^^ 2 ^ l)) L) else a) (none, 9) ∧ st.1 = oI a.1 ∧ a.2 ≤ 9 ∧ ((a.1 = none ∧ a.2 = 9 ∧ st.2.1 = nI 99) ∨ (a.1 ≠ none ∧ st.2.1 = nI a.2))) ∧ Eqo XO σ st.2.2.2 ∧ RXS st.2.2.2 n nk nu lo ∧ RXV st.2.2.2 n i c s p o L) n (fun (t : Int32 × SS) => t.1 = oI (bcF n i L).1 ∧ Eqo XO σ t.2 ∧ RXS t.2 n nk nu lo ∧ RXV t.2 n i c s p o L) (fun k st hk hI => ?_) (fun st hI => ?_) ⟨Nat.zero_le _, rfl, ⟨(none, 9), rfl, rfl, Nat.le_refl _, .inl ⟨rfl, rfl, rfl⟩⟩, Eqo.rf _ _, hs, h⟩ (by omega)
    · left
      obtain ⟨x1, x2, x3, υ⟩ := st
      obtain ⟨hkl, g1, ⟨a, ga, g2, g3, g4⟩, hE, hS, hR⟩ := hI
      simp only at g1 g2 g4 hE hS hR
      subst g1
      subst g2
      have hb := hbs k
      rw [← ga] at hb
      show ∃ s', X12_key_l17c υ (oI a.1) x2 (nI k) = _ ∧ _
      unfold X12_key_l17c X12_key_j73
      rw [ck0, Option.bind_some, hS.ln, if_neg (nI_ge hk (by omega)), xisInside hS hR hk, Option.bind_some, v01]
      by_cases q : i.testBit k = true
      · rw [if_pos q]
        obtain ⟨υ1, e1, k1⟩ := xkeeps υ
        have hS1 : RXS υ1 n nk nu lo := hS.of (fun j hj => k1.2.1 _ _ _ (by omega))
        have hR1 : RXV υ1 n i c s p o L := hR.of (fun j hj => k1.2.1 _ _ _ (by omega))
        obtain ⟨υ2, e2, hE2, hR2⟩ := xcuts hS1 hR1 hk
        have hS2 := hS1.keepV hE2
        obtain ⟨e3, hle⟩ := xlargest hS2 hR2
        obtain ⟨υ3, e4, k4⟩ := xgives υ2
        obtain ⟨hT, hE3⟩ := tried k1 hE2 k4
        rw [largestF_cut (by omega)] at e3 hle
        simp only [e1, e2, e3, e4, Option.bind_some, nI_1]
        generalize largestF n (i &&& (255 ^^^ 2 ^ k)) L = v at *
        rcases g4 with ⟨z1, z2, z3⟩ | ⟨z1, z3⟩
        · have hv9 : v < 9 := by omega
          rw [z3, if_pos (nI_lt (show v < 99 by omega) (by decide)), if_pos (nI_lt (show v < 99 by omega) (by decide))]
          refine ⟨_, rfl, hk, rfl, ⟨(some k, v), ?_, rfl, by show v ≤ 9; omega, .inr ⟨by simp, rfl⟩⟩, hE.tr hE3, hS.of hT, hR.of hT⟩
          rw [hb]
          simp only
          rw [if_pos ⟨q, by rw [z2]; exact hv9⟩]
        · rw [z3]
          by_cases y : v < a.2
          · rw [if_pos (nI_lt y (by omega)), if_pos (nI_lt y (by omega))]
            refine ⟨_, rfl, hk, rfl, ⟨(some k, v), ?_, rfl, by show v ≤ 9; omega, .inr ⟨by simp, rfl⟩⟩, hE.tr hE3, hS.of hT, hR.of hT⟩
            rw [hb]
            simp only
            rw [if_pos ⟨q, y⟩]
          · rw [if_neg (nI_nlt (by omega) (by omega)), if_neg (nI_nlt (by omega) (by omega))]
            refine ⟨_, rfl, hk, rfl, ⟨a, ?_, rfl, g3, .inr ⟨z1, rfl⟩⟩, hE.tr hE3, hS.of hT, hR.of hT⟩
            rw [hb]
            simp only
            rw [if_neg (fun w => y w.2)]
      · rw [if_neg q, nI_1, Option.bind_some]
        refine ⟨_, rfl, hk, rfl, ⟨a, ?_, rfl, g3, g4⟩, hE, hS, hR⟩
        rw [hb]
        simp only
        rw [if_neg (fun w => q w.1)]
    · obtain ⟨x1, x2, x3, υ⟩ := st
      obtain ⟨hkl, g1, ⟨a, ga, g2, g3, g4⟩, hE, hS, hR⟩ := hI
      simp only at g1 g2 g4 hE hS hR
      subst g1
      subst g2
      refine ⟨(oI a.1, υ), ?_, ?_, hE, hS, hR⟩
      · show X12_key_l17c υ (oI a.1) x2 (nI n) = _
        unfold X12_key_l17c
        rw [ck0, Option.bind_some, hS.ln, if_pos (nI_le (Nat.le_refl _) (by omega))]
      · rw [ga]
        rfl
  obtain ⟨t, e, g1, hE, -, hR⟩ := key
  refine ⟨t.2, ?_, hE, hR⟩
  unfold X12_key_l17
  rw [e, Option.bind_some, g1]
theorem bcF_none (hi : i < 2 ^ n) : (bcF n i L).1 = none ↔ i = 0 := by
  have key : ∀ m, (((List.range m).foldl (fun a l => if i.testBit l = true ∧ largestF n (i &&& (255 ^^^ 2 ^ l)) L < a.2 then (some l, largestF n (i &&& (255 ^^^ 2 ^ l)) L) else a) ((none, 9) : Option Nat × Nat)).1 = none ↔ ∀ k, k < m → i.testBit k = false) ∧ (((List.range m).foldl (fun a l => if i.testBit l = true ∧ largestF n (i &&& (255 ^^^ 2 ^ l)) L < a.2 then (some l, largestF n (i &&& (255 ^^^ 2 ^ l)) L) else a) ((none, 9) : Option Nat × Nat)).1 = none → ((List.range m).foldl (fun a l => if i.testBit l = true ∧ largestF n (i &&& (255 ^^^ 2 ^ l)) L < a.2 then (some l, largestF n (i &&& (255 ^^^ 2 ^ l)) L) else a) ((none, 9) : Option Nat × Nat)).2 = 9) := by
    intro m
    induction m with
    | zero => exact ⟨⟨fun _ k hk => absurd hk (Nat.not_lt_zero _), fun _ => rfl⟩, fun _ => rfl⟩
    | succ m ih =>
      rw [List.range_succ, List.foldl_append]
      generalize (List.range m).foldl _ ((none, 9) : Option Nat × Nat) = a at *
      rw [List.foldl_cons, List.foldl_nil]
      have hle := largestF_le n (i &&& (255 ^^^ 2 ^ m)) L
      by_cases q : i.testBit m = true
      · by_cases y : largestF n (i &&& (255 ^^^ 2 ^ m)) L < a.2
        · rw [if_pos ⟨q, y⟩]
          refine ⟨⟨fun z => (Option.some_ne_none _ z).elim, fun z => ?_⟩, fun z => (Option.some_ne_none _ z).elim⟩
          rw [z m (by omega)] at q
          cases q
        · rw [if_neg (fun w => y w.2)]
          have hne : a.1 ≠ none := fun z => by
            have := ih.2 z
            omega
          refine ⟨⟨fun z => (hne z).elim, fun z => ?_⟩, ih.2⟩
          rw [z m (by omega)] at q
          cases q
      · rw [if_neg (fun w => q w.1)]
        refine ⟨⟨fun z k hk => ?_, fun z => ih.1.mpr (fun k hk => z k (by omega))⟩, ih.2⟩
        by_cases e : k = m
        · rw [e]
          exact Bool.eq_false_iff.mpr q
        · exact ih.1.mp z k (by omega)
  have h1 := (key n).1
  constructor
  · intro h
    have h2 := h1.mp h
    apply Nat.eq_of_testBit_eq
    intro k
    rw [Nat.zero_testBit]
    by_cases hk : k < n
    · exact h2 k hk
    · exact tb_out hi (by omega)
  · intro h
    refine h1.mpr (fun k _ => ?_)
    rw [h, Nat.zero_testBit]
end G1
