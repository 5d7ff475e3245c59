/-! ===== TEXTS: one token, both sides ===== -/
def ixW (T : List Nat) : List (List Nat) → Nat → Option Nat
  | [], _ => none
  | W :: Ws, k => if T = W then some k else ixW T Ws (k + 1)
theorem fnd_ix {B : Nat → Nat} {a z : Nat} (h : a ≤ z) : ∀ (Ws : List (List Nat)) (k : Nat), fndW B a z Ws k = ixW (txt B a (z - a)) Ws k := by
  intro Ws
  induction Ws with
  | nil => intro k; rfl
  | cons W Ws ih =>
    intro k
    show (if (mt B z a W && (a + W.length == z)) = true then some k else fndW B a z Ws (k + 1)) = (if txt B a (z - a) = W then some k else ixW (txt B a (z - a)) Ws (k + 1))
    have h1 := mt_txt B z W a h
    by_cases q : txt B a (z - a) = W
    · rw [if_pos q, if_pos (h1.mpr q)]
    · rw [if_neg q, if_neg (fun w => q (h1.mp w)), ih]
theorem ix_ge {T : List Nat} : ∀ (Ws : List (List Nat)) (k m : Nat), ixW T Ws k = some m → k ≤ m := by
  intro Ws
  induction Ws with
  | nil => intro k m h; cases h
  | cons W Ws ih =>
    intro k m h
    unfold ixW at h
    split at h
    · injection h with h; omega
    · have := ih (k + 1) m h; omega
theorem ix_lt {T : List Nat} : ∀ (Ws : List (List Nat)) (k m : Nat), ixW T Ws k = some m → m < k + Ws.length := by
  intro Ws
  induction Ws with
  | nil => intro k m h; cases h
  | cons W Ws ih =>
    intro k m h
    rw [List.length_cons]
    unfold ixW at h
    split at h
    · injection h with h; omega
    · have := ih (k + 1) m h; omega
theorem lg_0 {x y : Int64} : lg_cmp x y = 0 ↔ x = y := by
  unfold lg_cmp
  by_cases q : x > y
  · rw [if_pos q]
    constructor
    · intro h
      exact absurd h (by decide)
    · intro h
      rw [h] at q
      exact absurd q (Int64.lt_irrefl)
  · rw [if_neg q]
    by_cases y : x = y
    · rw [if_pos y]
      exact ⟨fun _ => y, fun _ => rfl⟩
    · rw [if_neg y]
      exact ⟨fun h => absurd h (by decide), fun h => absurd h y⟩
theorem ix_iff {T : List Nat} : ∀ (Ws : List (List Nat)), Ws.Nodup → ∀ (k j : Nat) (W : List Nat), Ws[j]? = some W → (ixW T Ws k = some (k + j) ↔ T = W) := by
  intro Ws
  induction Ws with
  | nil => intro hn k j W h; cases h
  | cons X Ws ih =>
    intro hn k j W h
    have hn' := List.nodup_cons.mp hn
    unfold ixW
    cases j with
    | zero =>
      have e : X = W := by simpa using h
      subst e
      by_cases q : T = X
      · rw [if_pos q]
        exact ⟨fun _ => q, fun _ => rfl⟩
      · rw [if_neg q]
        exact ⟨fun w => absurd (ix_ge Ws _ _ w) (by omega), fun w => absurd w q⟩
    | succ j =>
      have e : Ws[j]? = some W := by simpa using h
      have hm : W ∈ Ws := List.mem_of_getElem? e
      by_cases q : T = X
      · rw [if_pos q]
        constructor
        · intro w
          injection w with w
          omega
        · intro w
          exact absurd (by rw [← w, q] at hm; exact hm) hn'.1
      · rw [if_neg q, show k + (j + 1) = k + 1 + j by omega]
        exact ih hn'.2 (k + 1) j W e
theorem WDS_nodup : WDS.Nodup := by decide +kernel
theorem WDS_ok : ∀ W ∈ WDS, W.length ≤ 8 ∧ ∀ v ∈ W, 97 ≤ v ∧ v ≤ 122 := by decide +kernel
theorem lN_inj {a b : Nat} (ha : a < 2 ^ 63) (hb : b < 2 ^ 63) (h : lN a = lN b) : a = b := by
  have h1 := lN64 ha
  have h2 := lN64 hb
  rw [h] at h1
  omega
/-- the code says which word it is -/
theorem code_iff {B : Nat → Nat} {a n : Nat} (hB : ∀ i, i < n → 97 ≤ B (a + i) ∧ B (a + i) ≤ 122) {W : List Nat} (h8 : W.length ≤ 8) (hW : ∀ v ∈ W, 97 ≤ v ∧ v ≤ 122) : cdF B a n = lN (cdL W) ↔ txt B a n = W := by
  have hT : ∀ v ∈ txt B a n, 97 ≤ v ∧ v ≤ 122 := fun v hv => by
    obtain ⟨i, hi, e⟩ := txt_mem B n a v hv
    rw [e]
    exact hB i hi
  have hl := cdL_lt hW h8
  by_cases q : n ≤ 8
  · rw [cdF_txt B a n q hB]
    have ht := cdL_lt hT (by rw [txt_len]; exact q)
    constructor
    · intro h
      exact cdL_inj hT hW (lN_inj (by omega) (by omega) h)
    · intro h
      rw [h]
  · constructor
    · intro h
      obtain ⟨m, rfl⟩ : ∃ m, n = m + 1 := ⟨n - 1, by omega⟩
      rw [show cdF B a (m + 1) = if 8 ≤ m then -1 else ((cdF B a m * 32) + Int32.toInt64 (nI (B (a + m)))) - 96 from rfl, if_pos (by omega)] at h
      have h1 := lN64 (n := cdL W) (by omega)
      rw [← h] at h1
      have h2 : ((-1 : Int64)).toInt = -1 := by decide
      omega
    · intro h
      have := txt_len B n a
      rw [h] at this
      omega
section TK2
variable {σ υ : SS} {B : Nat → Nat} {S a : Nat}
/-- both stand at the token that starts at a -/
def TK (B : Nat → Nat) (S a : Nat) (σ υ : SS) : Prop := TxC B S σ ∧ TxX B S υ ∧ a ≤ S ∧ σ.1 4 0 4 = nI a ∧ σ.1 4 0 5 = nI (tkZ B S a) ∧ σ.1 4 0 3 = nI (clK (tkK B S a)) ∧ (tkK B S a = 1 → σ.1 4 0 6 = wnI (ixW (txt B a (tkZ B S a - a)) WDS 0)) ∧ (tkK B S a ≠ 1 → σ.1 4 0 6 = -1) ∧ υ.1 11 0 15 = nI a ∧ υ.1 11 0 16 = nI (tkZ B S a) ∧ υ.1 11 0 14 = nI (tkK B S a) ∧ (tkK B S a = 1 → υ.1 11 0 18 = nI (tkZ B S a - a) ∧ υ.2 11 0 19 = cdF B a (tkZ B S a - a)) ∧ (tkK B S a = 2 → υ.1 11 0 17 = nI (nvF B a (tkZ B S a - a))) ∧ (tkK B S a = 3 → υ.1 11 0 17 = nI (B a)) ∧ σ.1 4 0 7 = 0 ∧ σ.1 4 0 8 = -1
def NC : Nat → Nat → Nat → Prop := fun k n j => k = 4 ∧ n = 0 ∧ 3 ≤ j ∧ j ≤ 6
def NX : Nat → Nat → Nat → Prop := fun k n j => k = 11 ∧ n = 0 ∧ 14 ≤ j ∧ j ≤ 19
theorem tkZ_le (B : Nat → Nat) (S : Nat) {a : Nat} (h : a ≤ S) : a ≤ tkZ B S a ∧ tkZ B S a ≤ S := by
  have h1 := rnn_ok isLe B S a
  have h2 := rnn_ok isDi B S a
  unfold tkZ
  split
  · omega
  · split
    · exact ⟨h1.1, h1.2.1 h⟩
    · split
      · exact ⟨h2.1, h2.2.1 h⟩
      · omega
theorem nexts_ok (hC : TxC B S σ) (hX : TxX B S υ) {p : Nat} (hp : p ≤ S) (h5 : σ.1 4 0 5 = nI p) (h16 : υ.1 11 0 16 = nI p) (hf7 : σ.1 4 0 7 = 0) (hf8 : σ.1 4 0 8 = -1) : ∃ σ' υ', X5_next σ = some σ' ∧ X12_next υ = some υ' ∧ TK B S (tkA B S p) σ' υ' ∧ Eqo NC σ σ' ∧ Eqo NX υ υ' := by
  have haS : tkA B S p ≤ S := (rnn_ok isBl B S p).2.1 hp
  obtain ⟨z1, z2⟩ := tkZ_le B S haS
  obtain ⟨σ', e1, a1, a2, a3, a4, a5, E1⟩ := next_ok hC hp h5 _ (fun w hw h4 h5' => numberOfWord_ok hw h4 h5' z2 haS)
  obtain ⟨υ', e2, b1, b2, b3, b4, b5, b6, E2⟩ := xnext_ok hX hp h16
  rw [fnd_ix z1] at a4
  exact ⟨σ', υ', e1, e2, ⟨hC.keep E1 (fun k n j q => by omega), hX.keep E2 (fun k n j q => by omega), haS, a1, a2, a3, a4, a5, b1, b2, b3, b4, b5, b6, (E1.at1 (by omega)).trans hf7, (E1.at1 (by omega)).trans hf8⟩, E1, E2⟩
theorem TK.next (h : TK B S a σ υ) : ∃ a' σ' υ', X5_next σ = some σ' ∧ X12_next υ = some υ' ∧ TK B S a' σ' υ' ∧ Eqo NC σ σ' ∧ Eqo NX υ υ' := by
  obtain ⟨h1, h2, h3, h4, h5, h6, h7, h8, h9, h10, h11, h12, h13, h14, hf7, hf8⟩ := h
  obtain ⟨σ', υ', g⟩ := nexts_ok h1 h2 (tkZ_le B S h3).2 h5 h10 hf7 hf8
  exact ⟨_, σ', υ', g⟩
/-- the letters of a word -/
theorem word_le (h : tkK B S a = 1) : a < S ∧ ∀ i, i < tkZ B S a - a → 97 ≤ B (a + i) ∧ B (a + i) ≤ 122 := by
  unfold tkK at h
  split at h
  · cases h
  · rename_i q
    split at h
    · rename_i q2
      refine ⟨by omega, fun i hi => ?_⟩
      have hz : tkZ B S a = rnn isLe B S a := by
        unfold tkZ
        rw [if_neg q, if_pos q2]
      rw [hz] at hi
      have := ((rnn_ok isLe B S a).2.2.1 (a + i) (by omega) (by omega)).2
      unfold isLe at this
      simpa using this
    · split at h
      · split at h <;> cases h
      · split at h <;> cases h
/-- is it the k-th word? both say the same -/
theorem TK.word (h : TK B S a σ υ) {k : Nat} {W : List Nat} (hk : WDS[k]? = some W) : ∃ v : Int32, (v = 0 ∨ v = 1) ∧ X5_wordIs σ (nI k) = some v ∧ X12_isWord υ (lN (cdL W)) = some v ∧ (v = 1 ↔ tkK B S a = 1 ∧ txt B a (tkZ B S a - a) = W) := by
  obtain ⟨h1, h2, h3, h4, h5, h6, h7, h8, h9, h10, h11, h12, h13, h14⟩ := h
  have hW := WDS_ok W (List.mem_of_getElem? hk)
  have hkl : k < 24 := (List.getElem?_eq_some_iff.mp hk).1
  have hkk : tkK B S a ≤ 4 := by
    unfold tkK
    split
    · decide
    · split
      · decide
      · split
        · split <;> decide
        · split <;> decide
  unfold X5_wordIs X5_wordIs_j0 X12_isWord X12_isWord_j0
  rw [h6, h11]
  by_cases q : tkK B S a = 1
  · have hc := (h12 q).2
    have hw := h7 q
    have hi := ix_iff (T := txt B a (tkZ B S a - a)) WDS WDS_nodup 0 k W hk
    rw [Nat.zero_add] at hi
    have hcd := code_iff (word_le q).2 hW.1 hW.2
    rw [q, if_pos (show nI (clK 1) = 2 by decide), if_pos (show nI 1 = 1 from rfl), hw, hc]
    by_cases y : txt B a (tkZ B S a - a) = W
    · refine ⟨1, .inr rfl, ?_, ?_, fun _ => ⟨rfl, y⟩, fun _ => rfl⟩
      · rw [hi.mpr y, if_pos (show wnI (some k) = nI k from rfl)]
      · rw [if_pos (lg_0.mpr (hcd.mpr y))]
    · refine ⟨0, .inl rfl, ?_, ?_, fun z => (by cases z), fun z => absurd z.2 y⟩
      · rw [if_neg]
        intro w
        cases e : ixW (txt B a (tkZ B S a - a)) WDS 0 with
        | none =>
          rw [e] at w
          have hm : (-1 : Int32) = nI k := w
          have h0 : (0 : Int32) ≤ nI k := nI_pos' (by omega)
          rw [← hm] at h0
          exact absurd h0 (by decide)
        | some m =>
          rw [e] at w
          have hm : nI m = nI k := w
          have hl := ix_lt WDS 0 m e
          have h24 : WDS.length = 24 := by decide +kernel
          have hmk := (nI_eq (a := m) (b := k) (by omega) (by omega)).mp hm
          rw [hmk] at e
          exact y (hi.mp e)
      · rw [if_neg (fun w => y (hcd.mp (lg_0.mp w)))]
  · rw [if_neg (show ¬ nI (tkK B S a) = 1 from (fun z => q ((nI_eq (b := 1) (by omega) (by decide)).mp z)))]
    have hcl : clK (tkK B S a) ≠ 2 ∧ clK (tkK B S a) ≤ 5 := by
      unfold clK
      split
      · omega
      · split <;> omega
    have hc : ¬ nI (clK (tkK B S a)) = 2 := wne hcl.1 (by omega) (by decide)
    rw [if_neg hc]
    exact ⟨0, .inl rfl, rfl, rfl, fun z => (by cases z), fun z => absurd z.1 q⟩
end TK2
