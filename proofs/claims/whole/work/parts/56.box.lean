/-! ===== BOXES, pure ===== -/
def df (S T : Nat) : Nat := S &&& (255 ^^^ T)
theorem df_tb {S : Nat} (hS : S < 256) (T k : Nat) : (df S T).testBit k = (S.testBit k && !T.testBit k) := by
  unfold df
  rw [Nat.testBit_and]
  by_cases hk : k < 8
  · rw [xor_tb hk]
  · have : S.testBit k = false := tb_out (n := 8) hS (by omega)
    rw [this, Bool.false_and, Bool.false_and]
theorem df_le (S T : Nat) : df S T ≤ S := Nat.and_le_left
theorem df_lt {S T : Nat} (hS : S < 256) : df S T < 256 := Nat.lt_of_le_of_lt (df_le S T) hS
theorem Sub.le {A B : Nat} (h : Sub A B) : A ≤ B := by
  have : A = A &&& B := by
    apply Nat.eq_of_testBit_eq
    intro k
    rw [Nat.testBit_and]
    cases hk : A.testBit k with
    | false => rfl
    | true => rw [h k hk]; rfl
  rw [this]
  exact Nat.and_le_right
theorem Sub.zero {A : Nat} (h : Sub A 0) : A = 0 := Nat.le_zero.mp h.le
theorem nz_bit {A : Nat} (h : A ≠ 0) : ∃ k, A.testBit k = true := by
  rcases Classical.em (∃ k, A.testBit k = true) with z | z
  · exact z
  · exfalso
    apply h
    apply Nat.eq_of_testBit_eq
    intro k
    rw [Nat.zero_testBit]
    cases hk : A.testBit k with
    | false => rfl
    | true => exact absurd ⟨k, hk⟩ z
theorem df_sub {S : Nat} (hS : S < 256) (T : Nat) : Sub (df S T) S := fun k hk => by
  rw [df_tb hS, Bool.and_eq_true] at hk
  exact hk.1
theorem df_lt' {S T : Nat} (hS : S < 256) {k : Nat} (h1 : S.testBit k = true) (h2 : T.testBit k = true) : df S T < S := by
  rcases Nat.lt_or_ge (df S T) S with z | z
  · exact z
  · have e : df S T = S := Nat.le_antisymm (df_le S T) z
    have := df_tb hS T k
    rw [e, h1, h2] at this
    cases this
theorem df_0 {S T : Nat} (hS : S < 256) : df S T = 0 ↔ Sub S T := by
  constructor
  · intro h k hk
    have h8 := tb_lt hS hk
    have := df_tb hS T k
    rw [h, Nat.zero_testBit, hk] at this
    cases hb : T.testBit k with
    | true => rfl
    | false => rw [hb] at this; cases this
  · intro h
    apply Nat.eq_of_testBit_eq
    intro k
    rw [Nat.zero_testBit, df_tb hS]
    cases hk : S.testBit k with
    | false => rfl
    | true => rw [h k hk]; rfl
/-- the least of a list -/
def fmin (p : Nat → Bool) (v : Nat → Nat) (A : List Nat) (a : Nat) : Nat := A.foldl (fun a b => if p b = true then min a (v b) else a) a
theorem fmin_ok (p : Nat → Bool) (v : Nat → Nat) : ∀ (A : List Nat) (a : Nat), fmin p v A a ≤ a ∧ (∀ b ∈ A, p b = true → fmin p v A a ≤ v b) ∧ (fmin p v A a = a ∨ ∃ b ∈ A, p b = true ∧ fmin p v A a = v b) := by
  intro A
  induction A with
  | nil => intro a; exact ⟨Nat.le_refl _, (fun b hb => by cases hb), Or.inl rfl⟩
  | cons x t ih =>
    intro a
    have e : fmin p v (x :: t) a = fmin p v t (if p x = true then min a (v x) else a) := rfl
    obtain ⟨h1, h2, h3⟩ := ih (if p x = true then min a (v x) else a)
    rw [e]
    by_cases q : p x = true
    · rw [if_pos q] at h1 h2 h3 ⊢
      refine ⟨by omega, fun b hb hp => ?_, ?_⟩
      · rcases List.mem_cons.mp hb with rfl | hb
        · omega
        · exact h2 b hb hp
      · rcases h3 with z | ⟨b, hb, hp, z⟩
        · by_cases y : v x ≤ a
          · exact .inr ⟨x, List.mem_cons_self, q, by omega⟩
          · exact .inl (by omega)
        · exact .inr ⟨b, List.mem_cons_of_mem _ hb, hp, z⟩
    · rw [if_neg q] at h1 h2 h3 ⊢
      refine ⟨h1, fun b hb hp => ?_, ?_⟩
      · rcases List.mem_cons.mp hb with rfl | hb
        · exact absurd hp q
        · exact h2 b hb hp
      · rcases h3 with z | ⟨b, hb, hp, z⟩
        · exact .inl z
        · exact .inr ⟨b, List.mem_cons_of_mem _ hb, hp, z⟩
theorem fmin_congr {p : Nat → Bool} {v w : Nat → Nat} {A : List Nat} (h : ∀ b ∈ A, p b = true → v b = w b) (a : Nat) : fmin p v A a = fmin p w A a := by
  induction A generalizing a with
  | nil => rfl
  | cons x t ih =>
    show fmin p v t (if p x = true then min a (v x) else a) = fmin p w t (if p x = true then min a (w x) else a)
    by_cases q : p x = true
    · rw [if_pos q, if_pos q, h x List.mem_cons_self q]
      exact ih (fun b hb => h b (List.mem_cons_of_mem _ hb)) _
    · rw [if_neg q, if_neg q]
      exact ih (fun b hb => h b (List.mem_cons_of_mem _ hb)) _
/-- one more into the last box, or into a new one -/
def stp (r a m : Nat) : Nat := if a % 128 + m ≤ r then a + m else (a / 128 + 1) * 128 + m
def bxb (n : Nat) (ln : Nat → Nat) (r : Nat) : Nat → Nat → Nat
  | 0, _ => r
  | k + 1, S => if S = 0 then r else fmin (fun l => S.testBit l) (fun l => stp r (bxb n ln r k (df S (2 ^ l))) (ln l)) (List.range n) 1073741824
theorem df_bit {S l : Nat} (hS : S < 256) (hl : S.testBit l = true) : df S (2 ^ l) < S := df_lt' hS hl (Nat.testBit_two_pow_self)
theorem bxb_fuel (n : Nat) (ln : Nat → Nat) (r : Nat) : ∀ k S, S < 256 → S < k → bxb n ln r k S = bxb n ln r (S + 1) S := by
  intro k
  induction k using Nat.strongRecOn with
  | ind k ih =>
    intro S hS h
    obtain ⟨k, rfl⟩ := Nat.exists_eq_succ_of_ne_zero (by omega : k ≠ 0)
    unfold bxb
    split
    · rfl
    · apply fmin_congr
      intro l _ hl
      have hlt := df_bit hS hl
      rw [ih k (by omega) _ (by omega) (by omega), ih S (by omega) _ (by omega) hlt]
def bxF (n : Nat) (ln : Nat → Nat) (r S : Nat) : Nat := bxb n ln r (S + 1) S
theorem bxF_0 (n : Nat) (ln : Nat → Nat) (r : Nat) : bxF n ln r 0 = r := by
  unfold bxF bxb
  rw [if_pos rfl]
theorem bxF_s {n : Nat} {ln : Nat → Nat} {r S : Nat} (hS : S < 256) (h0 : S ≠ 0) : bxF n ln r S = fmin (fun l => S.testBit l) (fun l => stp r (bxF n ln r (df S (2 ^ l))) (ln l)) (List.range n) 1073741824 := by
  have e : bxF n ln r S = fmin (fun l => S.testBit l) (fun l => stp r (bxb n ln r S (df S (2 ^ l))) (ln l)) (List.range n) 1073741824 := by
    unfold bxF
    rw [bxb, if_neg h0]
  rw [e]
  apply fmin_congr
  intro l _ hl
  have hlt := df_bit hS hl
  rw [bxb_fuel n ln r S _ (by omega) hlt]
  rfl
theorem enm_mem {S B : Nat} (hS : S < 256) (h0 : B ≠ 0) (h : Sub B S) : B ∈ enm 256 S S := by
  have h1 := enm_all
  unfold enmOk at h1
  have h2 := List.all_eq_true.mp h1 S (List.mem_range.mpr hS)
  have hB : B < 256 := Nat.lt_of_le_of_lt h.le hS
  have h3 := List.all_eq_true.mp h2 B (List.mem_range.mpr hB)
  have e : B &&& S = B := by
    apply Nat.eq_of_testBit_eq
    intro k
    rw [Nat.testBit_and]
    cases hk : B.testBit k with
    | false => rfl
    | true => rw [h k hk]; rfl
  rw [e] at h3
  simpa [h0] using h3
theorem enm_sub : ∀ k S b, Sub b S → ∀ B ∈ enm k S b, B ≠ 0 ∧ Sub B S := by
  intro k
  induction k with
  | zero => intro S b _ B h; cases h
  | succ k ih =>
    intro S b hb B h
    unfold enm at h
    split at h
    · cases h
    · rename_i h0
      rcases List.mem_cons.mp h with rfl | h
      · exact ⟨h0, hb⟩
      · refine ih S ((b - 1) &&& S) (fun k hk => ?_) B h
        rw [Nat.testBit_and, Bool.and_eq_true] at hk
        exact hk.2
def lng (n : Nat) (ln : Nat → Nat) (T : Nat) : Nat := sumB n (fun l => if T.testBit l = true then ln l else 0)
def bxg (n : Nat) (ln : Nat → Nat) (r : Nat) : Nat → Nat → Nat
  | 0, _ => 0
  | k + 1, S => if S = 0 then 0 else fmin (fun b => decide (lng n ln b ≤ r)) (fun b => 1 + bxg n ln r k (df S b)) (enm 256 S S) 99
theorem df_any {S b : Nat} (hS : S < 256) (h0 : b ≠ 0) (h : Sub b S) : df S b < S := by
  obtain ⟨k, hk⟩ := nz_bit h0
  exact df_lt' hS (h k hk) hk
theorem bxg_fuel (n : Nat) (ln : Nat → Nat) (r : Nat) : ∀ k S, S < 256 → S < k → bxg n ln r k S = bxg n ln r (S + 1) S := by
  intro k
  induction k using Nat.strongRecOn with
  | ind k ih =>
    intro S hS h
    obtain ⟨k, rfl⟩ := Nat.exists_eq_succ_of_ne_zero (by omega : k ≠ 0)
    unfold bxg
    split
    · rfl
    · apply fmin_congr
      intro b hb _
      obtain ⟨h0, hs⟩ := enm_sub _ _ _ (Sub.rf S) b hb
      have hlt := df_any hS h0 hs
      rw [ih k (by omega) _ (by omega) (by omega), ih S (by omega) _ (by omega) hlt]
def bxG (n : Nat) (ln : Nat → Nat) (r S : Nat) : Nat := bxg n ln r (S + 1) S
theorem bxG_0 (n : Nat) (ln : Nat → Nat) (r : Nat) : bxG n ln r 0 = 0 := by
  unfold bxG bxg
  rw [if_pos rfl]
theorem bxG_s {n : Nat} {ln : Nat → Nat} {r S : Nat} (hS : S < 256) (h0 : S ≠ 0) : bxG n ln r S = fmin (fun b => decide (lng n ln b ≤ r)) (fun b => 1 + bxG n ln r (df S b)) (enm 256 S S) 99 := by
  have e : bxG n ln r S = fmin (fun b => decide (lng n ln b ≤ r)) (fun b => 1 + bxg n ln r S (df S b)) (enm 256 S S) 99 := by
    unfold bxG
    rw [bxg, if_neg h0]
  rw [e]
  apply fmin_congr
  intro b hb _
  obtain ⟨h1, hs⟩ := enm_sub _ _ _ (Sub.rf S) b hb
  have hlt := df_any hS h1 hs
  rw [bxg_fuel n ln r S _ (by omega) hlt]
  rfl
theorem lng_add {n : Nat} {ln : Nat → Nat} {T U l : Nat} (hl : l < n) (h1 : T.testBit l = false) (h2 : ∀ k, U.testBit k = true ↔ T.testBit k = true ∨ k = l) : lng n ln U = lng n ln T + ln l := by
  have key : ∀ m, sumB m (fun k => if U.testBit k = true then ln k else 0) = sumB m (fun k => if T.testBit k = true then ln k else 0) + (if l < m then ln l else 0) := fun m => by
    induction m with
    | zero => rfl
    | succ m ih =>
      rw [sumB_s, sumB_s, ih]
      by_cases e : m = l
      · subst e
        rw [if_pos ((h2 m).mpr (.inr rfl)), if_neg (show ¬ T.testBit m = true by rw [h1]; decide), if_neg (by omega), if_pos (by omega)]
      · by_cases q : T.testBit m = true
        · rw [if_pos q, if_pos ((h2 m).mpr (.inl q))]
          by_cases z : l < m
          · rw [if_pos z, if_pos (by omega)]; omega
          · rw [if_neg z, if_neg (by omega)]; omega
        · rw [if_neg q, if_neg (show ¬ U.testBit m = true from fun w => by
            rcases (h2 m).mp w with y | y
            · exact q y
            · exact e y)]
          by_cases z : l < m
          · rw [if_pos z, if_pos (by omega)]; try omega
          · rw [if_neg z, if_neg (by omega)]; try omega
  unfold lng
  rw [key n, if_pos hl]
theorem lng_0 (n : Nat) (ln : Nat → Nat) : lng n ln 0 = 0 := by
  have : ∀ m, sumB m (fun k => if (0 : Nat).testBit k = true then ln k else 0) = 0 := fun m => by
    induction m with
    | zero => rfl
    | succ m ih => rw [sumB_s, ih, Nat.zero_testBit, if_neg (by decide)]
  exact this n
section BX
variable {n r : Nat} {ln : Nat → Nat}
theorem stp_div (r a m : Nat) (hm : m ≤ 99) (hr : r ≤ 99) : stp r a m / 128 ≤ a / 128 + 1 := by
  unfold stp
  split
  · have h1 := Nat.div_add_mod a 128
    have h2 : a + m = (a / 128) * 128 + (a % 128 + m) := by omega
    omega
  · omega
/-- an element of a set, and what is left -/
theorem pick {S l : Nat} (hS : S < 256) (hl : S.testBit l = true) : (df S (2 ^ l)).testBit l = false ∧ ∀ k, S.testBit k = true ↔ (df S (2 ^ l)).testBit k = true ∨ k = l := by
  have h := fun k => df_tb hS (2 ^ l) k
  refine ⟨by rw [h, Nat.testBit_two_pow_self, hl]; rfl, fun k => ?_⟩
  rw [h, Nat.testBit_two_pow]
  by_cases e : k = l
  · subst e
    simp [hl]
  · have : decide (l = k) = false := by simp; omega
    rw [this]
    simp [e]
theorem bxF_le {S l : Nat} (hS : S < 256) (hl : S.testBit l = true) (hln : l < n) : bxF n ln r S ≤ stp r (bxF n ln r (df S (2 ^ l))) (ln l) := by
  have h0 : S ≠ 0 := fun e => by rw [e, Nat.zero_testBit] at hl; cases hl
  rw [bxF_s hS h0]
  exact (fmin_ok _ _ _ _).2.1 l (List.mem_range.mpr hln) hl
theorem bxF_pop (hn : n ≤ 8) (hr : r ≤ 99) (hw : ∀ l, l < n → ln l ≤ 30) : ∀ S, S < 2 ^ n → bxF n ln r S / 128 ≤ popc S := by
  intro S
  induction S using Nat.strongRecOn with
  | ind S ih =>
    intro hSn
    have hS := p256 hn hSn
    by_cases h0 : S = 0
    · subst h0
      rw [bxF_0]
      omega
    · obtain ⟨l, hl⟩ := nz_bit h0
      have hl8 := tb_lt hS hl
      have hln : l < n := by
        rcases Nat.lt_or_ge l n with z | z
        · exact z
        · have := tb_out hSn z
          rw [hl] at this
          cases this
      have hlt := df_bit hS hl
      have h1 := ih _ hlt (by omega)
      have h2 := bxF_le (r := r) (ln := ln) hS hl hln
      have h3 := stp_div r (bxF n ln r (df S (2 ^ l))) (ln l) (by have := hw l hln; omega) hr
      have h4 : popc S = popc (df S (2 ^ l)) + 1 := by
        have := popc_add (df S (2 ^ l)) (df_lt hS) l hl8 (pick hS hl).1
        rw [← this]
        congr 1
        apply Nat.eq_of_testBit_eq
        intro k
        rw [Nat.testBit_or, Nat.testBit_two_pow]
        have := (pick hS hl).2 k
        cases ha : S.testBit k <;> cases hb : (df S (2 ^ l)).testBit k <;> simp [ha, hb] at this ⊢ <;> omega
      have h5 : bxF n ln r S / 128 ≤ stp r (bxF n ln r (df S (2 ^ l))) (ln l) / 128 := Nat.div_le_div_right h2
      omega
theorem bxG_le {S b : Nat} (hS : S < 256) (h0 : b ≠ 0) (hb : Sub b S) (hl : lng n ln b ≤ r) : bxG n ln r S ≤ 1 + bxG n ln r (df S b) := by
  have hS0 : S ≠ 0 := fun e => h0 (by rw [e] at hb; exact hb.zero)
  rw [bxG_s hS hS0]
  exact (fmin_ok _ _ _ _).2.1 b (enm_mem hS h0 hb) (by simpa using hl)
/-- the last box of the class's filling -/
theorem box_ge (hn : n ≤ 8) (hr : r ≤ 99) (hr1 : 1 ≤ r) {full : Nat} (hf : full < 2 ^ n) (hw : ∀ l, l < n → 1 ≤ ln l ∧ ln l ≤ 30) (hfit : ∀ l, l < n → full.testBit l = true → ln l ≤ r) : ∀ S, Sub S full → S ≠ 0 → ∃ T, Sub T S ∧ T ≠ 0 ∧ lng n ln T = bxF n ln r S % 128 ∧ lng n ln T ≤ r ∧ bxG n ln r (df S T) + 1 ≤ bxF n ln r S / 128 := by
  intro S
  induction S using Nat.strongRecOn with
  | ind S ih =>
    intro hsub h0
    have hSn : S < 2 ^ n := Nat.lt_of_le_of_lt hsub.le hf
    have hS := p256 hn hSn
    have hF := bxF_s (n := n) (ln := ln) (r := r) hS h0
    obtain ⟨f1, f2, f3⟩ := fmin_ok (fun l => S.testBit l) (fun l => stp r (bxF n ln r (df S (2 ^ l))) (ln l)) (List.range n) 1073741824
    rw [← hF] at f1 f2 f3
    have hpop := bxF_pop (ln := ln) hn hr (fun l hl => (hw l hl).2) S hSn
    have hp8 := popc_le S
    have ex : ∃ l, l < n ∧ S.testBit l = true ∧ bxF n ln r S = stp r (bxF n ln r (df S (2 ^ l))) (ln l) := by
      rcases f3 with z | ⟨l, hl, hb, e⟩
      · omega
      · exact ⟨l, List.mem_range.mp hl, hb, e⟩
    obtain ⟨l, hln, hl, e⟩ := ex
    have hlt := df_bit hS hl
    obtain ⟨p1, p2⟩ := pick hS hl
    have hwl := hw l hln
    have hfl := hfit l hln (hsub l hl)
    have hl1 : lng n ln (2 ^ l) = ln l := by
      have := lng_add (ln := ln) (T := 0) (U := 2 ^ l) hln (Nat.zero_testBit _) (fun k => by
        rw [Nat.testBit_two_pow, Nat.zero_testBit]
        simp
        omega)
      rw [lng_0] at this
      omega
    have hsubl : Sub (2 ^ l) S := fun k hk => by
      rw [Nat.testBit_two_pow] at hk
      have : l = k := by simpa using hk
      rw [← this]
      exact hl
    have h2l : (2 : Nat) ^ l ≠ 0 := Nat.pos_iff_ne_zero.mp (Nat.two_pow_pos l)
    have hsd : Sub (df S (2 ^ l)) full := (df_sub hS _).tr hsub
    unfold stp at e
    by_cases z : df S (2 ^ l) = 0
    · rw [z, bxF_0, if_neg (by omega)] at e
      refine ⟨2 ^ l, hsubl, h2l, by rw [hl1, e]; omega, by rw [hl1]; exact hfl, ?_⟩
      rw [z, bxG_0, e]
      omega
    · obtain ⟨T, t1, t2, t3, t4, t5⟩ := ih _ hlt hsd z
      by_cases q : bxF n ln r (df S (2 ^ l)) % 128 + ln l ≤ r
      · rw [if_pos q] at e
        have hT256 : T < 256 := Nat.lt_of_le_of_lt t1.le (df_lt hS)
        have hTl : T.testBit l = false := by
          cases hb : T.testBit l with
          | false => rfl
          | true => rw [t1 l hb] at p1; cases p1
        have hU : ∀ k, (T ||| 2 ^ l).testBit k = true ↔ T.testBit k = true ∨ k = l := fun k => by
          rw [Nat.testBit_or, Nat.testBit_two_pow, Bool.or_eq_true, decide_eq_true_eq]
          constructor
          · rintro (y | y)
            · exact .inl y
            · exact .inr y.symm
          · rintro (y | y)
            · exact .inl y
            · exact .inr y.symm
        have hlU := lng_add (ln := ln) hln hTl hU
        have hd : df S (T ||| 2 ^ l) = df (df S (2 ^ l)) T := by
          apply Nat.eq_of_testBit_eq
          intro k
          rw [df_tb hS, df_tb (df_lt hS), df_tb hS, Nat.testBit_or]
          cases S.testBit k <;> cases T.testBit k <;> cases (2 ^ l).testBit k <;> rfl
        have hmod := Nat.div_add_mod (bxF n ln r (df S (2 ^ l))) 128
        refine ⟨T ||| 2 ^ l, fun k hk => ?_, fun w => ?_, ?_, ?_, ?_⟩
        · rcases (hU k).mp hk with y | y
          · exact df_sub hS _ k (t1 k y)
          · rw [y]; exact hl
        · have := (hU l).mpr (.inr rfl)
          rw [w, Nat.zero_testBit] at this
          cases this
        · rw [hlU, e]; omega
        · rw [hlU]; omega
        · rw [hd, e]; omega
      · rw [if_neg q] at e
        have hg := bxG_le (n := n) (ln := ln) (r := r) (df_lt hS) t2 t1 t4
        refine ⟨2 ^ l, hsubl, h2l, by rw [hl1, e]; omega, by rw [hl1]; exact hfl, ?_⟩
        rw [e]
        omega
/-- one box more holds a set that is short enough -/
theorem box_le (hn : n ≤ 8) (hr : r ≤ 99) (hw : ∀ l, l < n → 1 ≤ ln l ∧ ln l ≤ 30) {S b : Nat} (hS : S < 2 ^ n) (hb : Sub b S) (hl : lng n ln b ≤ r) : ∀ T, Sub T b → T ≠ 0 → ∀ U, (∀ k, U.testBit k = true ↔ (df S b).testBit k = true ∨ T.testBit k = true) → bxF n ln r U ≤ (bxF n ln r (df S b) / 128 + 1) * 128 + lng n ln T := by
  have hS8 := p256 hn hS
  intro T
  induction T using Nat.strongRecOn with
  | ind T ih =>
    intro hT h0 U hU
    obtain ⟨l, hlT⟩ := nz_bit h0
    have hT256 : T < 256 := Nat.lt_of_le_of_lt (hT.tr hb).le hS8
    have hUsub : Sub U S := fun k hk => by
      rcases (hU k).mp hk with y | y
      · exact df_sub hS8 _ k y
      · exact hb k (hT k y)
    have hU256 : U < 256 := Nat.lt_of_le_of_lt hUsub.le hS8
    have hlU : U.testBit l = true := (hU l).mpr (.inr hlT)
    have hln : l < n := by
      rcases Nat.lt_or_ge l n with z | z
      · exact z
      · have := tb_out hS z
        rw [hUsub l hlU] at this
        cases this
    obtain ⟨p1, p2⟩ := pick hT256 hlT
    have hlng := lng_add (ln := ln) hln p1 p2
    have hle := bxF_le (r := r) (ln := ln) hU256 hlU hln
    have hwl := hw l hln
    have hld : (df S b).testBit l = false := by
      rw [df_tb hS8, hT l hlT]
      simp
    have hUl : ∀ k, (df U (2 ^ l)).testBit k = true ↔ (df S b).testBit k = true ∨ (df T (2 ^ l)).testBit k = true := fun k => by
      rw [df_tb hU256, df_tb hT256, Bool.and_eq_true, hU k, Nat.testBit_two_pow]
      by_cases e : l = k
      · subst e
        simp [hld]
      · simp [e]
    have hlngb : lng n ln T ≤ r := by
      have key : ∀ m, sumB m (fun k => if T.testBit k = true then ln k else 0) ≤ sumB m (fun k => if b.testBit k = true then ln k else 0) := fun m => by
        induction m with
        | zero => exact Nat.le_refl _
        | succ m ih =>
          rw [sumB_s, sumB_s]
          by_cases q : T.testBit m = true
          · rw [if_pos q, if_pos (hT m q)]; omega
          · rw [if_neg q]; omega
      exact Nat.le_trans (key n) hl
    have hmod := Nat.div_add_mod (bxF n ln r (df S b)) 128
    have hmlt := Nat.mod_lt (bxF n ln r (df S b)) (show 0 < 128 by decide)
    by_cases z : df T (2 ^ l) = 0
    · have hUe : df U (2 ^ l) = df S b := by
        apply Nat.eq_of_testBit_eq
        intro k
        have := hUl k
        rw [z, Nat.zero_testBit] at this
        cases ha : (df U (2 ^ l)).testBit k <;> cases hb : (df S b).testBit k <;> simp [ha, hb] at this ⊢
      rw [z, lng_0] at hlng
      rw [hUe] at hle
      unfold stp at hle
      split at hle <;> omega
    · have hIH := ih _ (df_bit hT256 hlT) ((df_sub hT256 _).tr hT) z _ hUl
      generalize bxF n ln r (df U (2 ^ l)) = a at *
      have hm2 := Nat.div_add_mod a 128
      have hm3 := Nat.mod_lt a (show 0 < 128 by decide)
      unfold stp at hle
      split at hle
      · omega
      · rename_i q
        have : a / 128 ≤ bxF n ln r (df S b) / 128 := by omega
        omega
theorem boxes_eq (hn : n ≤ 8) (hr : r ≤ 99) (hr1 : 1 ≤ r) {full : Nat} (hf : full < 2 ^ n) (hw : ∀ l, l < n → 1 ≤ ln l ∧ ln l ≤ 30) (hfit : ∀ l, l < n → full.testBit l = true → ln l ≤ r) : ∀ S, Sub S full → bxF n ln r S / 128 = bxG n ln r S := by
  intro S
  induction S using Nat.strongRecOn with
  | ind S ih =>
    intro hsub
    have hSn : S < 2 ^ n := Nat.lt_of_le_of_lt hsub.le hf
    have hS := p256 hn hSn
    by_cases h0 : S = 0
    · subst h0
      rw [bxF_0, bxG_0]
      omega
    · obtain ⟨T, t1, t2, t3, t4, t5⟩ := box_ge hn hr hr1 hf hw hfit S hsub h0
      have hg := bxG_le (n := n) (ln := ln) (r := r) hS t2 t1 t4
      obtain ⟨f1, f2, f3⟩ := fmin_ok (fun b => decide (lng n ln b ≤ r)) (fun b => 1 + bxG n ln r (df S b)) (enm 256 S S) 99
      rw [← bxG_s hS h0] at f1 f2 f3
      have hpop := bxF_pop (ln := ln) hn hr (fun l hl => (hw l hl).2) S hSn
      have hp8 := popc_le S
      have hle : bxF n ln r S / 128 ≤ bxG n ln r S := by
        rcases f3 with z | ⟨b, hb, hlb, e⟩
        · omega
        · obtain ⟨b1, b2⟩ := enm_sub _ _ _ (Sub.rf S) b hb
          have hlb' : lng n ln b ≤ r := by simpa using hlb
          have hlt := df_any hS b1 b2
          have hI := ih _ hlt ((df_sub hS _).tr hsub)
          have := box_le hn hr hw hSn b2 hlb' b (Sub.rf b) b1 S (fun k => by
            rw [df_tb hS]
            have := b2 k
            cases ha : S.testBit k <;> cases hb : b.testBit k <;> simp [ha, hb] at this ⊢)
          omega
      omega
end BX
