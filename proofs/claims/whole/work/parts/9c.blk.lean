/-! ===== TEXTS: blocks of STEPs, joined ===== -/
section BJ
variable {n : Nat} {F F' G G' : Nat → Int32}
theorem Bk.le : ∀ K q s t l lt, Bk n F G K q s t l lt → s ≤ t ∧ l ≤ lt := by
  intro K
  cases K with
  | zero =>
    intro q s t l lt h
    have h' : s = t ∧ l = lt := h
    omega
  | succ K =>
    intro q s t l lt h
    rcases h with h | ⟨w, k, hp, h1, h2, h3, h4, h5, h6⟩ | ⟨h1, h2, h3, h4, h5, h6⟩ | ⟨q', m, le, w, k, hq, hp, hw, hk, hk6, hm, hp1, he, hp2, hsm, hmt, hlle, hlelt, hbody, hrest⟩ | ⟨q', m, le, num, hq, hn1, hnum, hw, hf, hk, hg, hm, hp1, he, hp2, hsm, hmt, hlle, hlelt, hbody, hrest⟩ <;> omega
theorem Bk.up : ∀ K q s t l lt, Bk n F G K q s t l lt → Bk n F G (K + 1) q s t l lt := by
  intro K
  induction K with
  | zero =>
    intro q s t l lt h
    exact .inl h
  | succ K ih =>
    intro q s t l lt h
    rcases h with h | ⟨w, k, hp, h1, h2, h3, h4, h5, h6⟩ | ⟨h1, h2, h3, h4, h5, h6⟩ | ⟨q', m, le, w, k, hq, hp, hw, hk, hk6, hm, hp1, he, hp2, hsm, hmt, hlle, hlelt, hbody, hrest⟩ | ⟨q', m, le, num, hq, hn1, hnum, hw, hf, hk, hg, hm, hp1, he, hp2, hsm, hmt, hlle, hlelt, hbody, hrest⟩
    · exact .inl h
    · exact .inr (.inl ⟨w, k, hp, h1, h2, h3, h4, h5, ih _ _ _ _ _ h6⟩)
    · exact .inr (.inr (.inl ⟨h1, h2, h3, h4, h5, ih _ _ _ _ _ h6⟩))
    · exact .inr (.inr (.inr (.inl ⟨q', m, le, w, k, hq, hp, hw, hk, hk6, hm, hp1, he, hp2, hsm, hmt, hlle, hlelt, ih _ _ _ _ _ hbody, ih _ _ _ _ _ hrest⟩)))
    · exact .inr (.inr (.inr (.inr ⟨q', m, le, num, hq, hn1, hnum, hw, hf, hk, hg, hm, hp1, he, hp2, hsm, hmt, hlle, hlelt, ih _ _ _ _ _ hbody, ih _ _ _ _ _ hrest⟩)))
theorem Bk.ups {q s t l lt : Nat} : ∀ d K, Bk n F G K q s t l lt → Bk n F G (K + d) q s t l lt := by
  intro d
  induction d with
  | zero => intro K h; exact h
  | succ d ih => intro K h; exact Bk.up _ _ _ _ _ _ (ih K h)
/-- one block behind the other -/
theorem Bk.app {K2 : Nat} : ∀ K q s t l lt t' lt', Bk n F G K q s t l lt → Bk n F G K2 q t t' lt lt' → Bk n F G (K + K2) q s t' l lt' := by
  intro K
  induction K with
  | zero =>
    intro q s t l lt t' lt' h g
    have h' : s = t ∧ l = lt := h
    obtain ⟨rfl, rfl⟩ := h'
    rw [Nat.zero_add]
    exact g
  | succ K ih =>
    intro q s t l lt t' lt' h g
    have gl := Bk.le _ _ _ _ _ _ g
    rw [show K + 1 + K2 = K + K2 + 1 by omega]
    rcases h with h | ⟨w, k, hp, h1, h2, h3, h4, h5, h6⟩ | ⟨h1, h2, h3, h4, h5, h6⟩ | ⟨q', m, le, w, k, hq, hp, hw, hk, hk6, hm, hp1, he, hp2, hsm, hmt, hlle, hlelt, hbody, hrest⟩ | ⟨q', m, le, num, hq, hn1, hnum, hw, hf, hk, hg, hm, hp1, he, hp2, hsm, hmt, hlle, hlelt, hbody, hrest⟩
    · obtain ⟨rfl, rfl⟩ := h
      rw [show K + K2 + 1 = K2 + (K + 1) by omega]
      exact Bk.ups _ _ g
    · exact .inr (.inl ⟨w, k, hp, h1, h2, h3, by omega, by omega, ih _ _ _ _ _ _ _ h6 g⟩)
    · exact .inr (.inr (.inl ⟨h1, h2, h3, by omega, by omega, ih _ _ _ _ _ _ _ h6 g⟩))
    · exact .inr (.inr (.inr (.inl ⟨q', m, le, w, k, hq, hp, hw, hk, hk6, hm, hp1, he, hp2, hsm, by omega, hlle, by omega, Bk.ups _ _ hbody, ih _ _ _ _ _ _ _ hrest g⟩)))
    · exact .inr (.inr (.inr (.inr ⟨q', m, le, num, hq, hn1, hnum, hw, hf, hk, hg, hm, hp1, he, hp2, hsm, by omega, hlle, by omega, Bk.ups _ _ hbody, ih _ _ _ _ _ _ _ hrest g⟩)))
/-- of the cells of its own STEPs and lines alone -/
theorem Bk.own : ∀ K q s t l lt, (∀ j, l ≤ j % 60 → j % 60 < lt → j < 240 → F' j = F j) → (∀ j, 134 + 9 * s ≤ j → j < 134 + 9 * t → G' j = G j) → lt ≤ 60 → Bk n F G K q s t l lt → Bk n F' G' K q s t l lt := by
  intro K
  induction K with
  | zero => exact fun q s t l lt _ _ _ h => h
  | succ K ih =>
    intro q s t l lt hF hG hlt h
    rcases h with h | ⟨w, k, hp, h1, h2, h3, h4, h5, h6⟩ | ⟨h1, h2, h3, h4, h5, h6⟩ | ⟨q', m, le, w, k, hq, hp, hw, hk, hk6, hm, hp1, he, hp2, hsm, hmt, hlle, hlelt, hbody, hrest⟩ | ⟨q', m, le, num, hq, hn1, hnum, hw, hf, hk, hg, hm, hp1, he, hp2, hsm, hmt, hlle, hlelt, hbody, hrest⟩
    · exact .inl h
    · refine .inr (.inl ⟨w, k, ?_, ?_, ?_, ?_, h4, h5, ih _ _ _ _ _ (fun j a b c => hF j (by omega) b c) (fun j a b => hG j (by omega) b) hlt h6⟩)
      · rw [hF _ (by omega) (by omega) (by omega), hG _ (by omega) (by omega)]; exact hp
      · rw [hF _ (by omega) (by omega) (by omega)]; exact h1
      · rw [hG _ (by omega) (by omega)]; exact h2
      · rw [hG _ (by omega) (by omega)]; exact h3
    · refine .inr (.inr (.inl ⟨?_, ?_, ?_, h4, h5, ih _ _ _ _ _ (fun j a b c => hF j (by omega) b c) (fun j a b => hG j (by omega) b) hlt h6⟩))
      · rw [hF _ (by omega) (by omega) (by omega)]; exact h1
      · rw [hG _ (by omega) (by omega)]; exact h2
      · rw [hG _ (by omega) (by omega)]; exact h3
    · refine .inr (.inr (.inr (.inl ⟨q', m, le, w, k, hq, ?_, ?_, ?_, ?_, ?_, ?_, ?_, ?_, hsm, hmt, hlle, hlelt, ih _ _ _ _ _ (fun j a b c => hF j (by omega) (by omega) c) (fun j a b => hG j (by omega) (by omega)) (by omega) hbody, ih _ _ _ _ _ (fun j a b c => hF j (by omega) b c) (fun j a b => hG j (by omega) b) hlt hrest⟩)))
      · rw [hF _ (by omega) (by omega) (by omega), hF _ (by omega) (by omega) (by omega), hG _ (by omega) (by omega), hG _ (by omega) (by omega), hG _ (by omega) (by omega)]; exact hp
      · rw [hF _ (by omega) (by omega) (by omega)]; exact hw
      · rw [hG _ (by omega) (by omega)]; exact hk
      · rw [hG _ (by omega) (by omega)]; exact hk6
      · rw [hG _ (by omega) (by omega)]; exact hm
      · rw [hF _ (by omega) (by omega) (by omega)]; exact hp1
      · rw [hF _ (by omega) (by omega) (by omega)]; exact he
      · rw [hF _ (by omega) (by omega) (by omega)]; exact hp2
    · refine .inr (.inr (.inr (.inr ⟨q', m, le, num, hq, hn1, hnum, ?_, ?_, ?_, ?_, ?_, ?_, ?_, ?_, hsm, hmt, hlle, hlelt, ih _ _ _ _ _ (fun j a b c => hF j (by omega) (by omega) c) (fun j a b => hG j (by omega) (by omega)) (by omega) hbody, ih _ _ _ _ _ (fun j a b c => hF j (by omega) b c) (fun j a b => hG j (by omega) b) hlt hrest⟩)))
      · rw [hF _ (by omega) (by omega) (by omega)]; exact hw
      · rw [hF _ (by omega) (by omega) (by omega)]; exact hf
      · rw [hG _ (by omega) (by omega)]; exact hk
      · rw [hG _ (by omega) (by omega)]; exact hg
      · rw [hG _ (by omega) (by omega)]; exact hm
      · rw [hF _ (by omega) (by omega) (by omega)]; exact hp1
      · rw [hF _ (by omega) (by omega) (by omega)]; exact he
      · rw [hF _ (by omega) (by omega) (by omega)]; exact hp2
end BJ
/-- a block in drawer 1's lines and in the reference's block 4 -/
def BkE (n : Nat) (σ υ : SS) (q s t l lt : Nat) : Prop := ∃ K, Bk n (fun j => σ.1 13 4 j) (fun j => υ.1 13 34 (1640 + j)) K q s t l lt
theorem BkE.nil (n : Nat) (σ υ : SS) (q s l : Nat) : BkE n σ υ q s s l l := ⟨0, rfl, rfl⟩
theorem BkE.app {n : Nat} {σ υ : SS} {q s t l lt t' lt' : Nat} (h : BkE n σ υ q s t l lt) (g : BkE n σ υ q t t' lt lt') : BkE n σ υ q s t' l lt' := by
  obtain ⟨K, h⟩ := h
  obtain ⟨K2, g⟩ := g
  exact ⟨K + K2, Bk.app _ _ _ _ _ _ _ _ h g⟩
theorem BkE.own {n : Nat} {σ υ σ' υ' : SS} {q s t l lt : Nat} (h : BkE n σ υ q s t l lt) (hlt : lt ≤ 60) (hF : ∀ j, l ≤ j % 60 → j % 60 < lt → j < 240 → σ'.1 13 4 j = σ.1 13 4 j) (hG : ∀ j, 1774 + 9 * s ≤ j → j < 1774 + 9 * t → υ'.1 13 34 j = υ.1 13 34 j) : BkE n σ' υ' q s t l lt := by
  obtain ⟨K, h⟩ := h
  exact ⟨K, Bk.own _ _ _ _ _ _ (fun j a b c => hF j a b c) (fun j a b => hG _ (by omega) (by omega)) hlt h⟩
/-! ===== TEXTS: a line's cells ===== -/
section LC1
variable {σ υ : SS} {B : Nat → Nat} {S a : Nat}
theorem word_val (h : TK B S a σ υ) : X5_word σ = some (wnI (wid B S a)) := by
  unfold X5_word X5_word_j0 wid
  by_cases q : tkK B S a = 1
  · rw [h.2.2.2.2.2.2.1 q, if_pos q]
  · rw [h.2.2.2.2.2.2.2.1 q, if_neg q]
    rfl
/-- which sign stands there -/
def sgn (B : Nat → Nat) (S a : Nat) : Option Nat := if tkK B S a = 3 then some (B a) else none
theorem sign_val (h : TK B S a σ υ) {s : Nat} (hs : s < 256) : X5_signIs σ (nI s) = some (if sgn B S a = some s then 1 else 0) ∧ X12_isSign υ (nI s) = some (if sgn B S a = some s then 1 else 0) := by
  have hh := h
  obtain ⟨h1, h2, h3, h4, h5, h6, h7, h8, h9, h10, h11, h12, h13, h14, -⟩ := h
  have hc := clK_bad _ (tkK_le B S a)
  have hkl := tkK_le B S a
  unfold X5_signIs X5_signIs_j0 X12_isSign X12_isSign_j0 sgn
  rw [h6, h11]
  by_cases q : tkK B S a = 3
  · have haS : a < S := by
      unfold tkK at q
      split at q
      · cases q
      · omega
    have hb := (h1.2.2 a haS).1
    rw [q, if_pos (show nI (clK 3) = 4 by decide), if_pos (show nI 3 = 3 from rfl), if_pos rfl, h4, h1.at haS, Option.bind_some, h14 q]
    by_cases y : B a = s
    · rw [if_pos (by rw [y]), if_pos (by rw [y])]
      exact ⟨rfl, rfl⟩
    · rw [if_neg (wne y (by omega) (by omega)), if_neg (fun z => y (Option.some.inj z))]
      exact ⟨rfl, rfl⟩
  · rw [if_neg (show ¬ nI (clK (tkK B S a)) = 4 from wne (fun z => q (hc.2.2.2.2.1.mp z)) (by omega) (by decide)), if_neg (show ¬ nI (tkK B S a) = 3 from wne q (by omega) (by decide)), if_neg q, if_neg (fun z => by cases z)]
    exact ⟨rfl, rfl⟩
theorem line_put (r : Nat) (hr : r < 4) {l : Nat} (hl : l < 60) (x : Int32) : X4_put σ (4 * 1) (nI r) (nI l) x = some (wI σ 13 4 (r * 60 + l) x) := by
  obtain ⟨h1, h2⟩ := T_ln (d := 1) (by decide)
  have := put_ok σ (t := 4 * 1) (r := r) (c := l) x (by decide) (by rw [h1]; exact hr) (by rw [h2]; exact hl)
  rw [h2] at this
  exact this
/-- what addStep touches -/
def AS (l : Nat) : Nat → Nat → Nat → Prop := fun k m j => (k = 13 ∧ m = 4 ∧ (j = l ∨ j = 60 + l ∨ j = 120 + l ∨ j = 180 + l)) ∨ (k = 8 ∧ m = 1 ∧ (j = 2 ∨ j = 3))
theorem addStep_ok {l s : Nat} (hl : l < 60) (h2 : σ.1 8 1 2 = nI l) (h3 : σ.1 8 1 3 = nI s) (x1 x2 x3 : Int32) : ∃ τ, X9_addStep σ 1 x1 x2 x3 = some τ ∧ τ.1 13 4 l = x1 ∧ τ.1 13 4 (60 + l) = x2 ∧ τ.1 13 4 (120 + l) = x3 ∧ τ.1 13 4 (180 + l) = -1 ∧ τ.1 8 1 2 = nI (l + 1) ∧ τ.1 8 1 3 = nI (s + 1) ∧ Eqo (AS l) σ τ := by
  have p : ∀ (w : SS) (x : Int32), X4_put w (4 * 1) 0 (nI l) x = some (wI w 13 4 (0 * 60 + l) x) ∧ X4_put w (4 * 1) 1 (nI l) x = some (wI w 13 4 (1 * 60 + l) x) ∧ X4_put w (4 * 1) 2 (nI l) x = some (wI w 13 4 (2 * 60 + l) x) ∧ X4_put w (4 * 1) 3 (nI l) x = some (wI w 13 4 (3 * 60 + l) x) := fun w x => ⟨line_put 0 (by decide) hl x, line_put 1 (by decide) hl x, line_put 2 (by decide) hl x, line_put 3 (by decide) hl x⟩
  refine ⟨wI (wI (wI (wI (wI (wI σ 13 4 (0 * 60 + l) x1) 13 4 (1 * 60 + l) x2) 13 4 (2 * 60 + l) x3) 13 4 (3 * 60 + l) (-1)) 8 1 2 (nI (l + 1))) 8 1 3 (nI (s + 1)), ?_, ?_, ?_, ?_, ?_, ?_, ?_, ?_⟩
  · unfold X9_addStep X9_addStep_j0
    rw [h2, (p _ _).1, Option.bind_some, wI_ne _ _ (by omega), h2, (p _ _).2.1, Option.bind_some, wI_ne _ _ (by omega), wI_ne _ _ (by omega), h2, (p _ _).2.2.1, Option.bind_some, wI_ne _ _ (by omega), wI_ne _ _ (by omega), wI_ne _ _ (by omega), h2, (p _ _).2.2.2, Option.bind_some, wI_ne _ _ (by omega), wI_ne _ _ (by omega), wI_ne _ _ (by omega), wI_ne _ _ (by omega), h2, nI_1, Option.bind_some, wI_ne _ _ (by omega), wI_ne _ _ (by omega), wI_ne _ _ (by omega), wI_ne _ _ (by omega), wI_ne _ _ (by omega), h3, nI_1, Option.bind_some]
  · rw [wI_ne _ _ (by omega), wI_ne _ _ (by omega), wI_ne _ _ (by omega), wI_ne _ _ (by omega), wI_ne _ _ (by omega), show wI σ 13 4 (0 * 60 + l) x1 = wI σ 13 4 l x1 by rw [Nat.zero_mul, Nat.zero_add], wI_eq]
  · rw [wI_ne _ _ (by omega), wI_ne _ _ (by omega), wI_ne _ _ (by omega), wI_ne _ _ (by omega), show 60 + l = 1 * 60 + l by omega, wI_eq]
  · rw [wI_ne _ _ (by omega), wI_ne _ _ (by omega), wI_ne _ _ (by omega), show 120 + l = 2 * 60 + l by omega, wI_eq]
  · rw [wI_ne _ _ (by omega), wI_ne _ _ (by omega), show 180 + l = 3 * 60 + l by omega, wI_eq]
  · rw [wI_ne _ _ (by omega), wI_eq]
  · exact wI_eq _ _ _ _ _
  · exact (((((Eqo.wI (by unfold AS; omega)).tr (Eqo.wI (by unfold AS; omega))).tr (Eqo.wI (by unfold AS; omega))).tr (Eqo.wI (by unfold AS; omega))).tr (Eqo.wI (by unfold AS; omega))).tr (Eqo.wI (by unfold AS; omega))
/-- what addEnd touches -/
def AE (l o : Nat) : Nat → Nat → Nat → Prop := fun k m j => (k = 13 ∧ m = 4 ∧ (j = l ∨ j = 180 + l ∨ j = 180 + o)) ∨ (k = 8 ∧ m = 1 ∧ j = 2)
theorem addEnd_ok {l o : Nat} (hl : l < 60) (ho : o < l) (h2 : σ.1 8 1 2 = nI l) : ∃ τ, X9_addEnd σ 1 (nI o) = some τ ∧ τ.1 13 4 l = nI 22 ∧ τ.1 13 4 (180 + l) = nI o ∧ τ.1 13 4 (180 + o) = nI l ∧ τ.1 8 1 2 = nI (l + 1) ∧ Eqo (AE l o) σ τ := by
  have p : ∀ (w : SS) (x : Int32), X4_put w (4 * 1) 0 (nI l) x = some (wI w 13 4 (0 * 60 + l) x) ∧ X4_put w (4 * 1) 3 (nI l) x = some (wI w 13 4 (3 * 60 + l) x) ∧ X4_put w (4 * 1) 3 (nI o) x = some (wI w 13 4 (3 * 60 + o) x) := fun w x => ⟨line_put 0 (by decide) hl x, line_put 3 (by decide) hl x, line_put 3 (by decide) (by omega) x⟩
  refine ⟨wI (wI (wI (wI σ 13 4 (0 * 60 + l) 22) 13 4 (3 * 60 + l) (nI o)) 13 4 (3 * 60 + o) (nI l)) 8 1 2 (nI (l + 1)), ?_, ?_, ?_, ?_, ?_, ?_⟩
  · unfold X9_addEnd X9_addEnd_j0
    rw [h2, (p _ _).1, Option.bind_some, wI_ne _ _ (by omega), h2, (p _ _).2.1, Option.bind_some, wI_ne _ _ (by omega), wI_ne _ _ (by omega), h2, (p _ _).2.2, Option.bind_some, wI_ne _ _ (by omega), wI_ne _ _ (by omega), wI_ne _ _ (by omega), h2, nI_1, Option.bind_some]
  · rw [wI_ne _ _ (by omega), wI_ne _ _ (by omega), wI_ne _ _ (by omega), show wI σ 13 4 (0 * 60 + l) 22 = wI σ 13 4 l 22 by rw [Nat.zero_mul, Nat.zero_add], wI_eq]
    rfl
  · rw [wI_ne _ _ (by omega), wI_ne _ _ (by omega), show 180 + l = 3 * 60 + l by omega, wI_eq]
  · rw [wI_ne _ _ (by omega), show 180 + o = 3 * 60 + o by omega, wI_eq]
  · exact wI_eq _ _ _ _ _
  · exact (((Eqo.wI (by unfold AE; omega)).tr (Eqo.wI (by unfold AE; omega))).tr (Eqo.wI (by unfold AE; omega))).tr (Eqo.wI (by unfold AE; omega))
/-- a lead's name must stand here -/
theorem must_lead (h : TK B S a σ υ) (h12 : υ.1 11 0 12 = 0) {n : Nat} (h5 : σ.1 0 0 5 = nI n) (h0 : υ.1 13 34 0 = nI n) (hn : n ≤ 8) (hN : ∀ l, l < n → σ.2 14 0 l = υ.2 14 7 l) : ∃ w x σ' υ', X10_passLead σ 0 = some (w, σ') ∧ X12_readTold υ 0 = some (x, υ') ∧ ((∃ m, m < n ∧ w = nI m ∧ x = nI m ∧ Gon B S σ' υ') ∨ (w = -1 ∧ x = 0 ∧ Flt σ' υ')) ∧ Eqo NCf σ σ' ∧ Eqo NXf υ υ' := by
  have fl : ∀ σ' υ', X12_told υ (nI 0) = some (0, υ') → Flt σ' υ' → X12_readTold υ 0 = some (0, υ') := fun σ' υ' e g => by
    have e' : X12_told υ 0 = some (0, υ') := e
    unfold X12_readTold X12_readTold_j0
    rw [e', Option.bind_some, must_no g.pos.2.1, Option.bind_some]
  rcases who_ok h h12 (d := 0) (b := 0) (by decide) (by decide) h5 (by rw [Nat.mul_zero]; exact h0) hn (fun l hl => by rw [Nat.mul_zero, Nat.zero_add]; exact hN l hl) with ⟨y, l, g1, g2, g3, g4, g5, g6⟩ | ⟨y, σ', υ', g3, g4, g5, g6, g7, g8, g9, g10⟩ | ⟨σ', υ', g3, g6, g7, g8, g9, g10⟩
  · obtain ⟨σ2, υ2, k1, k2, k3, k4, k5⟩ := next_gon h h12
    refine ⟨nI l, nI l, σ2, υ2, ?_, ?_, .inl ⟨l, g1, rfl, rfl, k3⟩, NC_NCf k4, NX_NXf k5⟩
    · unfold X10_passLead X10_passLead_j0
      rw [g3, Option.bind_some, if_neg neg1_0, g4, Option.bind_some, g5, Option.bind_some, if_neg (show ¬ nI l = -1 from ne_m1 (by omega)), k1, Option.bind_some]
    · have e' : X12_told υ 0 = some (nI l, υ) := g6
      unfold X12_readTold X12_readTold_j0 X12_must X12_must_j0
      rw [e', Option.bind_some, h12, if_pos (by decide), if_neg neg1_0, k2, Option.bind_some, Option.bind_some]
  · refine ⟨-1, 0, σ', υ', ?_, fl _ _ g7 g8, .inr ⟨rfl, rfl, g8⟩, g9, g10⟩
    unfold X10_passLead X10_passLead_j0
    rw [g3, Option.bind_some, if_neg neg1_0, g4, Option.bind_some, g5, Option.bind_some, if_pos rfl, g6, Option.bind_some]
  · refine ⟨-1, 0, σ', υ', ?_, fl _ _ g7 g8, .inr ⟨rfl, rfl, g8⟩, g9, g10⟩
    unfold X10_passLead X10_passLead_j0
    rw [g3, Option.bind_some, if_pos rfl, g6, Option.bind_some]
end LC1
