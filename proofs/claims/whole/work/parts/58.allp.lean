/-! ===== ALL, pure ===== -/
theorem or_tb (S l k : Nat) : (S ||| 2 ^ l).testBit k = true ↔ S.testBit k = true ∨ k = l := by
  rw [Nat.testBit_or, Nat.testBit_two_pow, Bool.or_eq_true, decide_eq_true_eq]
  constructor
  · rintro (y | y)
    · exact .inl y
    · exact .inr y.symm
  · rintro (y | y)
    · exact .inl y
    · exact .inr y.symm
theorem or_gt {S l : Nat} (h : S.testBit l = false) : S < S ||| 2 ^ l := by
  have h1 : S ≤ S ||| 2 ^ l := Nat.left_le_or
  rcases Nat.lt_or_ge S (S ||| 2 ^ l) with z | z
  · exact z
  · have e : S ||| 2 ^ l = S := Nat.le_antisymm z h1
    have := (or_tb S l l).mpr (.inr rfl)
    rw [e, h] at this
    cases this
theorem or_sub {S i l : Nat} (h : Sub S i) (hl : i.testBit l = true) : Sub (S ||| 2 ^ l) i := fun k hk => by
  rcases (or_tb S l k).mp hk with y | y
  · exact h k y
  · rw [y]; exact hl
def alp (i S l : Nat) : Bool := i.testBit l && !S.testBit l
theorem alp_iff {i S l : Nat} : alp i S l = true ↔ i.testBit l = true ∧ S.testBit l = false := by
  unfold alp
  simp
def hb (n i : Nat) (cf : Nat → Nat → Nat) : Nat → Nat → Nat
  | 0, _ => 0
  | f + 1, S => if S = i then 0 else fmin (alp i S) (fun l => cf l S + hb n i cf f (S ||| 2 ^ l)) (List.range n) 1073741824
theorem hb_fuel {n i : Nat} {cf : Nat → Nat → Nat} (hi : i < 256) : ∀ f S, Sub S i → 256 - S ≤ f → hb n i cf f S = hb n i cf (256 - S) S := by
  intro f
  induction f using Nat.strongRecOn with
  | ind f ih =>
    intro S hS hf
    have hlt := hS.le
    obtain ⟨f, rfl⟩ := Nat.exists_eq_succ_of_ne_zero (by omega : f ≠ 0)
    obtain ⟨g, hg⟩ : ∃ g, 256 - S = g + 1 := ⟨255 - S, by omega⟩
    rw [hg]
    unfold hb
    split
    · rfl
    · apply fmin_congr
      intro l _ hl
      obtain ⟨l1, l2⟩ := alp_iff.mp hl
      have h1 := or_gt l2
      have h2 := or_sub hS l1
      have h3 := h2.le
      rw [ih f (by omega) _ h2 (by omega), ih g (by omega) _ h2 (by omega)]
def Hf (n i : Nat) (cf : Nat → Nat → Nat) (S : Nat) : Nat := hb n i cf (256 - S) S
theorem Hf_full {n i : Nat} {cf : Nat → Nat → Nat} (hi : i < 256) : Hf n i cf i = 0 := by
  unfold Hf
  obtain ⟨g, hg⟩ : ∃ g, 256 - i = g + 1 := ⟨255 - i, by omega⟩
  rw [hg, hb, if_pos rfl]
theorem Hf_s {n i S : Nat} {cf : Nat → Nat → Nat} (hi : i < 256) (hS : Sub S i) (h0 : S ≠ i) : Hf n i cf S = fmin (alp i S) (fun l => cf l S + Hf n i cf (S ||| 2 ^ l)) (List.range n) 1073741824 := by
  have hlt := hS.le
  obtain ⟨g, hg⟩ : ∃ g, 256 - S = g + 1 := ⟨255 - S, by omega⟩
  have e : Hf n i cf S = fmin (alp i S) (fun l => cf l S + hb n i cf g (S ||| 2 ^ l)) (List.range n) 1073741824 := by
    unfold Hf
    rw [hg, hb, if_neg h0]
  rw [e]
  apply fmin_congr
  intro l _ hl
  obtain ⟨l1, l2⟩ := alp_iff.mp hl
  have h1 := or_gt l2
  have h2 := or_sub hS l1
  have h3 := h2.le
  rw [hb_fuel hi g _ h2 (by omega)]
  rfl
section AP
variable {n i : Nat} {cf : Nat → Nat → Nat}
theorem ex_alp {S : Nat} (hi : i < 2 ^ n) (hS : Sub S i) (h0 : S ≠ i) : ∃ l, l < n ∧ alp i S l = true := by
  rcases Classical.em (∃ l, l < n ∧ alp i S l = true) with z | z
  · exact z
  · exfalso
    apply h0
    apply hS.antisymm
    intro k hk
    have hkn : k < n := by
      rcases Nat.lt_or_ge k n with y | y
      · exact y
      · have := tb_out hi y
        rw [hk] at this
        cases this
    cases hb : S.testBit k with
    | true => rfl
    | false => exact absurd ⟨k, hkn, alp_iff.mpr ⟨hk, hb⟩⟩ z
theorem pop_or {S l : Nat} (hn : n ≤ 8) (hi : i < 2 ^ n) (hS : Sub S i) (hl : alp i S l = true) : popc (S ||| 2 ^ l) = popc S + 1 := by
  obtain ⟨l1, l2⟩ := alp_iff.mp hl
  have hi8 := p256 hn hi
  exact popc_add S (Nat.lt_of_le_of_lt hS.le hi8) l (tb_lt hi8 l1) l2
theorem Hf_le (hn : n ≤ 8) (hi : i < 2 ^ n) (hcf : ∀ l S, cf l S ≤ 1442) : ∀ S, Sub S i → Hf n i cf S + 1442 * popc S ≤ 1442 * popc i := by
  have hi8 := p256 hn hi
  have key : ∀ m S, 256 - S ≤ m → Sub S i → Hf n i cf S + 1442 * popc S ≤ 1442 * popc i := by
    intro m
    induction m with
    | zero =>
      intro S hm hS
      have := hS.le
      omega
    | succ m ih =>
      intro S hm hS
      by_cases h0 : S = i
      · subst h0
        rw [Hf_full hi8]
        omega
      · obtain ⟨l, hl, ha⟩ := ex_alp hi hS h0
        obtain ⟨l1, l2⟩ := alp_iff.mp ha
        have h1 := or_gt l2
        have h2 := or_sub hS l1
        have h3 := h2.le
        have h4 := ih _ (by omega) h2
        have h5 := pop_or hn hi hS ha
        have h6 := (fmin_ok (alp i S) (fun l => cf l S + Hf n i cf (S ||| 2 ^ l)) (List.range n) 1073741824).2.1 l (List.mem_range.mpr hl) ha
        rw [← Hf_s hi8 hS h0] at h6
        have h7 := hcf l S
        omega
  exact fun S hS => key (256 - S) S (Nat.le_refl _) hS
theorem Hf_b (hn : n ≤ 8) (hi : i < 2 ^ n) (hcf : ∀ l S, cf l S ≤ 1442) {S : Nat} (hS : Sub S i) : Hf n i cf S ≤ 11536 := by
  have := Hf_le hn hi hcf S hS
  have := popc_le i
  omega
/-- the same from any beginning that is large -/
theorem fmin_init {p : Nat → Bool} {v : Nat → Nat} {A : List Nat} {a a' : Nat} (h : ∃ b ∈ A, p b = true ∧ v b ≤ a ∧ v b ≤ a') : fmin p v A a = fmin p v A a' := by
  obtain ⟨b, hb, hp, h1, h2⟩ := h
  obtain ⟨f1, f2, f3⟩ := fmin_ok p v A a
  obtain ⟨g1, g2, g3⟩ := fmin_ok p v A a'
  have f4 := f2 b hb hp
  have g4 := g2 b hb hp
  rcases f3 with z | ⟨x, hx, hpx, z⟩
  · rcases g3 with y | ⟨x', hx', hpx', y⟩
    · omega
    · have := f2 x' hx' hpx'
      omega
  · have h3 := g2 x hx hpx
    rcases g3 with y | ⟨x', hx', hpx', y⟩
    · omega
    · have := f2 x' hx' hpx'
      omega
/-- the next of the order -/
def nxp (n i : Nat) (cf : Nat → Nat → Nat) (S l : Nat) : Bool := alp i S l && decide (cf l S + Hf n i cf (S ||| 2 ^ l) = Hf n i cf S)
def nxF (n i : Nat) (cf : Nat → Nat → Nat) (S : Nat) : Nat := ((List.range n).find? (nxp n i cf S)).getD 0
theorem nx_ok (hn : n ≤ 8) (hi : i < 2 ^ n) (hcf : ∀ l S, cf l S ≤ 1442) {S : Nat} (hS : Sub S i) (h0 : S ≠ i) : (List.range n).find? (nxp n i cf S) = some (nxF n i cf S) ∧ nxF n i cf S < n ∧ alp i S (nxF n i cf S) = true ∧ cf (nxF n i cf S) S + Hf n i cf (S ||| 2 ^ nxF n i cf S) = Hf n i cf S ∧ ∀ j, j < nxF n i cf S → nxp n i cf S j = false := by
  have hi8 := p256 hn hi
  have hH := Hf_b hn hi hcf hS
  have hF := Hf_s (n := n) (cf := cf) hi8 hS h0
  obtain ⟨f1, f2, f3⟩ := fmin_ok (alp i S) (fun l => cf l S + Hf n i cf (S ||| 2 ^ l)) (List.range n) 1073741824
  rw [← hF] at f3
  have ex : ∃ l, l < n ∧ nxp n i cf S l = true := by
    rcases f3 with z | ⟨l, hl, ha, e⟩
    · omega
    · refine ⟨l, List.mem_range.mp hl, ?_⟩
      unfold nxp
      rw [ha, Bool.true_and, decide_eq_true_eq]
      exact e.symm
  obtain ⟨l0, y1, y2⟩ := ex
  have hs : ∃ l, (List.range n).find? (nxp n i cf S) = some l := by
    cases e : (List.range n).find? (nxp n i cf S) with
    | some l => exact ⟨l, rfl⟩
    | none =>
      have := List.find?_range_eq_none.mp e l0 y1
      rw [y2] at this
      cases this
  obtain ⟨l, hl⟩ := hs
  have e : nxF n i cf S = l := by unfold nxF; rw [hl]; rfl
  rw [e]
  obtain ⟨h1, h2, h3⟩ := List.find?_range_eq_some.mp hl
  have h1' := h1
  unfold nxp at h1'
  rw [Bool.and_eq_true, decide_eq_true_eq] at h1'
  refine ⟨hl, List.mem_range.mp h2, h1'.1, h1'.2, fun j hj => ?_⟩
  have := h3 j hj
  cases hb : nxp n i cf S j with
  | false => rfl
  | true => rw [hb] at this; cases this
def sqF (n i : Nat) (cf : Nat → Nat → Nat) : Nat → Nat
  | 0 => 0
  | j + 1 => if sqF n i cf j = i then sqF n i cf j else sqF n i cf j ||| 2 ^ nxF n i cf (sqF n i cf j)
theorem sq_ok (hn : n ≤ 8) (hi : i < 2 ^ n) (hcf : ∀ l S, cf l S ≤ 1442) : ∀ j, Sub (sqF n i cf j) i ∧ (j ≤ popc i → popc (sqF n i cf j) = j) ∧ (popc i ≤ j → sqF n i cf j = i) := by
  have hi8 := p256 hn hi
  intro j
  induction j with
  | zero =>
    refine ⟨fun k hk => ?_, fun _ => popc_0, fun h => ?_⟩
    · unfold sqF at hk
      rw [Nat.zero_testBit] at hk
      cases hk
    · unfold sqF
      rcases Nat.eq_zero_or_pos i with z | z
      · exact z.symm
      · have := popc_lt (a := 0) hi8 (fun k hk => by rw [Nat.zero_testBit] at hk; cases hk) (by omega)
        omega
  | succ j ih =>
    obtain ⟨h1, h2, h3⟩ := ih
    unfold sqF
    by_cases q : sqF n i cf j = i
    · rw [if_pos q]
      refine ⟨h1, fun hj => ?_, fun _ => q⟩
      have := h2 (by omega)
      rw [q] at this
      omega
    · rw [if_neg q]
      obtain ⟨-, g1, g2, -, -⟩ := nx_ok hn hi hcf h1 q
      have g3 := pop_or hn hi h1 g2
      have g4 := or_sub h1 (alp_iff.mp g2).1
      have hj : j < popc i := by
        rcases Nat.lt_or_ge j (popc i) with z | z
        · exact z
        · exact absurd (h3 z) q
      have h2' := h2 (by omega)
      refine ⟨g4, fun _ => by omega, fun hp => ?_⟩
      have hple := popc_mono g4
      rcases Classical.em (sqF n i cf j ||| 2 ^ nxF n i cf (sqF n i cf j) = i) with z | z
      · exact z
      · have := popc_lt hi8 g4 z
        omega
theorem sq_ne (hn : n ≤ 8) (hi : i < 2 ^ n) (hcf : ∀ l S, cf l S ≤ 1442) {j : Nat} (hj : j < popc i) : sqF n i cf j ≠ i := fun e => by
  have := (sq_ok hn hi hcf j).2.1 (by omega)
  rw [e] at this
  omega
end AP
/-- the best number of loosenings -/
def llS (nu : Nat → Nat → Nat) (n i : Nat) (L : List X3) (a : Nat × Nat) (k : Nat) : Nat × Nat := if sLo k L + Hf n i (fun l S => (few (rowL nu l S k L)).1) 0 < a.1 then (sLo k L + Hf n i (fun l S => (few (rowL nu l S k L)).1) 0, k) else a
def llF (nu : Nat → Nat → Nat) (n i : Nat) (L : List X3) : Nat × Nat := (List.range 4).foldl (llS nu n i L) (1073741824, 0)
theorem rowL_congr {nu : Nat → Nat → Nat} {l dn dn' k : Nat} {L : List X3} (h : ∀ x ∈ L, qO l x = true → dn.testBit (oth l x) = dn'.testBit (oth l x)) : rowL nu l dn k L = rowL nu l dn' k L := by
  unfold rowL
  induction L with
  | nil => rfl
  | cons x t ih =>
    rw [List.filterMap_cons, List.filterMap_cons, ih (fun y hy => h y (List.mem_cons_of_mem _ hy))]
    have e : rowF nu l dn k x = rowF nu l dn' k x := by
      unfold rowF
      by_cases q : qO l x = true
      · rw [h x List.mem_cons_self q]
      · rw [if_neg (fun z => q z.1), if_neg (fun z => q z.1)]
    rw [e]
theorem few_b {n nk : Nat} {nu : Nat → Nat → Nat} {lo : Nat → Nat} (hw : wfS n nk nu lo) {L : List X3} (hL : wfL n L) (k l S : Nat) : (few (rowL nu l S k L)).1 ≤ 1442 := (few_lt (rowL_b hw (l := l) (dn := S) (k := k) hL).1).1
