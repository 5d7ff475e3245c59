/-! ===== ALL: the class ===== -/
def oun (n i : Nat) : Nat := df (2 ^ n - 1) i
theorem p2le {n : Nat} (hn : n ≤ 8) : 2 ^ n ≤ 256 := by
  have : (256 : Nat) = 2 ^ 8 := rfl
  rw [this]
  exact Nat.pow_le_pow_right (by decide) hn
section SO
variable {n i : Nat}
theorem out_tb (hn : n ≤ 8) (k : Nat) : (oun n i).testBit k = (decide (k < n) && !i.testBit k) := by
  have h1 := p2le hn
  have h2 := Nat.two_pow_pos n
  unfold oun
  rw [df_tb (by omega), Nat.testBit_two_pow_sub_one]
theorem out_lt (hn : n ≤ 8) : oun n i < 2 ^ n := by
  have h1 := df_le (2 ^ n - 1) i
  have h2 := Nat.two_pow_pos n
  unfold oun
  omega
theorem so_lt (hn : n ≤ 8) (hi : i < 2 ^ n) {S : Nat} (hS : Sub S i) : S ||| oun n i < 2 ^ n := Nat.or_lt_two_pow (Nat.lt_of_le_of_lt hS.le hi) (out_lt hn)
theorem so_and (hn : n ≤ 8) {S : Nat} (hS : Sub S i) : (S ||| oun n i) &&& i = S := by
  apply Nat.eq_of_testBit_eq
  intro k
  rw [Nat.testBit_and, Nat.testBit_or, out_tb hn]
  cases h1 : S.testBit k with
  | true => rw [hS k h1]; rfl
  | false => cases i.testBit k <;> simp
theorem so_or (S l : Nat) : (S ||| oun n i) ||| 2 ^ l = (S ||| 2 ^ l) ||| oun n i := by
  rw [Nat.or_assoc, Nat.or_comm (oun n i), ← Nat.or_assoc]
theorem so_bit (hn : n ≤ 8) {S l : Nat} (hS : Sub S i) (hl : l < n) : (S ||| oun n i).testBit l = false ↔ alp i S l = true := by
  rw [Nat.testBit_or, out_tb hn, alp_iff]
  have := hS l
  cases h1 : S.testBit l <;> cases h2 : i.testBit l <;> simp [h1, h2, hl] at this ⊢
theorem so_of (hn : n ≤ 8) {D : Nat} (hD : D < 2 ^ n) (h : Sub (oun n i) D) : D = (D &&& i) ||| oun n i ∧ Sub (D &&& i) i := by
  refine ⟨?_, fun k hk => ?_⟩
  · apply Nat.eq_of_testBit_eq
    intro k
    rw [Nat.testBit_or, Nat.testBit_and]
    have h1 := h k
    rw [out_tb hn] at h1 ⊢
    by_cases hk : k < n
    · cases h2 : D.testBit k <;> cases h3 : i.testBit k <;> simp [h2, h3, hk] at h1 ⊢
    · rw [tb_out hD (by omega)]
      simp [hk]
  · rw [Nat.testBit_and, Bool.and_eq_true] at hk
    exact hk.2
theorem so_full (hn : n ≤ 8) (hi : i < 2 ^ n) {S : Nat} (hS : Sub S i) : S ||| oun n i = 2 ^ n - 1 ↔ S = i := by
  have h1 : i ||| oun n i = 2 ^ n - 1 := by
    apply Nat.eq_of_testBit_eq
    intro k
    rw [Nat.testBit_or, out_tb hn, Nat.testBit_two_pow_sub_one]
    by_cases hk : k < n
    · cases i.testBit k <;> simp [hk]
    · rw [tb_out hi (by omega)]
      simp [hk]
  constructor
  · intro h
    rw [← so_and hn hS, h, ← h1, so_and hn (Sub.rf i)]
  · intro h
    rw [h, h1]
theorem so_0 (hn : n ≤ 8) : (0 : Nat) ||| oun n i = oun n i := Nat.zero_or _
end SO
theorem rest_at (σ : SS) {k : Nat} (hk : k < 256) : X4_at σ 25 0 (nI k) = some (σ.1 13 25 k) := by
  have := at_ok σ (t := 25) (r := 0) (c := k) (by decide) (by decide) (by rw [T_22.2.2.2.2.2.2.2.1]; exact hk)
  rw [Nat.zero_mul, Nat.zero_add] at this
  exact this
theorem rest_put (σ : SS) {k : Nat} (hk : k < 256) (x : Int32) : X4_put σ 25 0 (nI k) x = some (wI σ 13 25 k x) := by
  have := put_ok σ (t := 25) (r := 0) (c := k) x (by decide) (by decide) (by rw [T_22.2.2.2.2.2.2.2.1]; exact hk)
  rw [Nat.zero_mul, Nat.zero_add] at this
  exact this
theorem ord_put (σ : SS) {k : Nat} (hk : k < 8) (x : Int32) : X4_put σ 26 0 (nI k) x = some (wI σ 13 26 k x) := by
  have := put_ok σ (t := 26) (r := 0) (c := k) x (by decide) (by decide) (by rw [T_22.2.2.2.2.2.2.2.2.2]; exact hk)
  rw [Nat.zero_mul, Nat.zero_add] at this
  exact this
theorem ord_at (σ : SS) {k : Nat} (hk : k < 8) : X4_at σ 26 0 (nI k) = some (σ.1 13 26 k) := by
  have := at_ok σ (t := 26) (r := 0) (c := k) (by decide) (by decide) (by rw [T_22.2.2.2.2.2.2.2.2.2]; exact hk)
  rw [Nat.zero_mul, Nat.zero_add] at this
  exact this
def WA : Nat → Nat → Nat → Prop := fun k n j => WR k n j ∨ (k = 13 ∧ n = 25)
def cfC (nu : Nat → Nat → Nat) (k : Nat) (L : List X3) : Nat → Nat → Nat := fun l S => (few (rowL nu l S k L)).1
/-- the rest is laid from a set on -/
def RC (σ : SS) (n i : Nat) (cf : Nat → Nat → Nat) (m : Nat) : Prop := ∀ S, Sub S i → m ≤ S ||| oun n i → σ.1 13 25 (S ||| oun n i) = nI (Hf n i cf S)
section AC
variable {σ : SS} {d n nk i c : Nat} {s p o : Int32} {nu : Nat → Nat → Nat} {lo : Nat → Nat} {L : List X3}
theorem everyone_ok (hs : RS σ d n nk nu lo) : X7_everyone σ d = some (nI (2 ^ n - 1)) := by
  have h8 := hs.n8
  have key : ∀ n, n ≤ 8 → ((1 : Int32) <<< (nI n &&& 31)) - 1 = nI (2 ^ n - 1) := by decide +kernel
  unfold X7_everyone X7_everyone_j0 X0_leadCount X0_leadCount_j0
  rw [hs.ln, Option.bind_some, key n h8]
theorem outset_ok (hn : n ≤ 8) : nI (2 ^ n - 1) &&& (nI i ^^^ (-1)) = nI (oun n i) := by
  have h1 := p2le hn
  have h2 := Nat.two_pow_pos n
  rw [show (-1 : Int32) = -nI 1 from rfl, nI_andn (by omega)]
  rfl
theorem rowL_so (hn : n ≤ 8) (hL : wfL n L) (hin : inL i L) {S : Nat} (hS : Sub S i) (l k : Nat) : rowL nu l (S ||| oun n i) k L = rowL nu l S k L := by
  apply rowL_congr
  intro x hx hq
  have h1 := hin x hx
  have h2 : i.testBit (oth l x) = true := by
    unfold oth
    split
    · exact h1.2
    · exact h1.1
  rw [Nat.testBit_or, out_tb hn, h2]
  simp
theorem withNext_ok (hd : d < 5) (hs : RS σ d n nk nu lo) (h : RV σ d n i c s p o L) (hin : inL i L) {S l k : Nat} (hS : Sub S i) (hl : l < n) (hk : k ≤ 3) : ∃ τ, X7_secondsWithNext σ d (nI l) (nI (S ||| oun n i)) (nI k) = some (nI (cfC nu k L l S) + σ.1 13 25 ((S ||| 2 ^ l) ||| oun n i), τ) ∧ Eqo WR σ τ := by
  have h8 := hs.n8
  have hlt := so_lt h8 h.ilt hS
  have h256 := p2le h8
  obtain ⟨w1, e1, hE1, hR1⟩ := layRow_ok hd hs h hl (dn := S ||| oun n i) (m := k) (by omega) hk
  rw [rowL_so h8 h.wl hin hS] at hR1
  have hb := rowL_b hs.wf (l := l) (dn := S) (k := k) h.wl
  obtain ⟨w2, e2, -, -, hE2, -⟩ := fewestSeconds_ok hR1 hb.1 hb.2
  have hor : nI (S ||| oun n i) ||| (1 <<< (nI l &&& 31)) = nI ((S ||| 2 ^ l) ||| oun n i) := by
    rw [show (1 : Int32) <<< (nI l &&& 31) = nI (2 ^ l) from hsh (by omega), nI_or, so_or]
  have hlt2 : (S ||| 2 ^ l) ||| oun n i < 256 := by
    rw [← so_or]
    exact Nat.lt_of_lt_of_le (Nat.or_lt_two_pow hlt (Nat.pow_lt_pow_right (by decide) hl)) h256
  refine ⟨w2, ?_, hE1.tr (hE2.mono (fun k n j q => by unfold WR2 at q; unfold WR; omega))⟩
  unfold X7_secondsWithNext X7_secondsWithNext_j0
  rw [e1, Option.bind_some, e2, Option.bind_some]
  simp only
  rw [hor, rest_at w2 hlt2, Option.bind_some, hE2.at1 (by unfold WR2; omega), hE1.at1 (by unfold WR; omega)]
  rfl
theorem cfC_b (hs : RS σ d n nk nu lo) (h : RV σ d n i c s p o L) (k : Nat) : ∀ l S, cfC nu k L l S ≤ 1442 := fun l S => few_b hs.wf h.wl k l S
theorem forRest_ok (hd : d < 5) (hs : RS σ d n nk nu lo) (h : RV σ d n i c s p o L) (hin : inL i L) {S k : Nat} (hS : Sub S i) (h0 : S ≠ i) (hk : k ≤ 3) (hc : RC σ n i (cfC nu k L) ((S ||| oun n i) + 1)) : ∃ τ, X7_fewestForRest σ d (nI (S ||| oun n i)) (nI k) = some (nI (Hf n i (cfC nu k L) S), τ) ∧ Eqo WR σ τ := by
  have h8 := hs.n8
  have hi8 := p256 h8 h.ilt
  have hcf := cfC_b hs h k
  have hlt := so_lt h8 h.ilt hS
  have h256 := p2le h8
  rw [Hf_s hi8 hS h0]
  obtain ⟨b, w, e, h1, -, hE⟩ := loopI (f := X7_fewestForRest_l7b d (nI (S ||| oun n i)) (nI k)) (s := (1073741824, 0, σ)) n (fun m (b : Nat) (w : SS) => ((nI b, nI m, w) : Int32 × Int32 × SS)) (fun b w => ((nI b, w) : Int32 × SS)) (fun m b w => b = fmin (alp i S) (fun l => cfC nu k L l S + Hf n i (cfC nu k L) (S ||| 2 ^ l)) (List.range m) 1073741824 ∧ b ≤ 1073741824 ∧ Eqo WR σ w) 1073741824 σ rfl ⟨rfl, Nat.le_refl _, Eqo.rf _ _⟩ (by omega) (fun m a w hm hI => by
    obtain ⟨hI, hle, hE⟩ := hI
    have hs' : RS w d n nk nu lo := hs.keep hE (fun k m j q => by unfold WR at q; omega)
    have h' : RV w d n i c s p o L := h.keep hE (fun k m j q => by unfold WR at q; omega)
    have hnext : fmin (alp i S) (fun l => cfC nu k L l S + Hf n i (cfC nu k L) (S ||| 2 ^ l)) (List.range (m + 1)) 1073741824 = if alp i S m = true then min a (cfC nu k L m S + Hf n i (cfC nu k L) (S ||| 2 ^ m)) else a := by
      unfold fmin at hI ⊢
      rw [fold_succ, ← hI]
    have hbt := so_bit h8 hS hm
    show ∃ b' w', X7_fewestForRest_l7c w d (nI (S ||| oun n i)) (nI k) (nI a) (nI m) = _ ∧ _
    unfold X7_fewestForRest_l7c X7_fewestForRest_j41 X0_leadCount X0_leadCount_j0
    rw [hs'.ln, Option.bind_some, if_neg (nI_ge hm (by omega)), show ((nI (S ||| oun n i) >>> (nI m &&& 31)) &&& 1) = nI (if (S ||| oun n i).testBit m = true then 1 else 0) from hbit (by omega) (by omega), hnext]
    by_cases q : alp i S m = true
    · have qb := hbt.mpr q
      obtain ⟨a1, a2⟩ := alp_iff.mp q
      have hsub := or_sub hS a1
      have hH := Hf_b h8 h.ilt hcf hsub
      have hcm := hcf m S
      rw [qb, if_neg (show ¬ (false = true) by decide), if_pos (show nI 0 = 0 from rfl), if_pos q]
      obtain ⟨w', e', hE'⟩ := withNext_ok hd hs' h' hin hS hm hk
      have hgt : (S ||| oun n i) + 1 ≤ (S ||| 2 ^ m) ||| oun n i := by
        rw [← so_or]
        exact or_gt qb
      rw [e', Option.bind_some, hE.at1 (by unfold WR; omega), hc _ hsub hgt, nI_add, imin_nI (by omega) (by omega), Option.bind_some, nI_1, Option.bind_some]
      exact ⟨_, w', rfl, rfl, by omega, hE.tr hE'⟩
    · have qb : (S ||| oun n i).testBit m = true := by
        cases hb : (S ||| oun n i).testBit m with
        | true => rfl
        | false => exact absurd (hbt.mp hb) q
      rw [qb, if_pos rfl, if_neg (by decide), if_neg q, nI_1, Option.bind_some]
      exact ⟨a, w, rfl, rfl, hle, hE⟩) (fun a w hI => by
    have hs' : RS w d n nk nu lo := hs.keep hI.2.2 (fun k m j q => by unfold WR at q; omega)
    show X7_fewestForRest_l7c w d (nI (S ||| oun n i)) (nI k) (nI a) (nI n) = _
    unfold X7_fewestForRest_l7c X0_leadCount X0_leadCount_j0
    rw [hs'.ln, Option.bind_some, if_pos (nI_le (Nat.le_refl _) (by omega))])
  subst h1
  refine ⟨w, ?_, hE⟩
  unfold X7_fewestForRest X7_fewestForRest_j0 X7_fewestForRest_l7
  rw [e, Option.bind_some]
theorem pI_lt {j : Nat} (hj : j < 1000) : pI j < nI j := by
  cases j with
  | zero => exact pI_0
  | succ j =>
    rw [pI_s]
    exact nI_lt (by omega) (by omega)
theorem layRest_ok (hd : d < 5) (hs : RS σ d n nk nu lo) (h : RV σ d n i c s p o L) (hin : inL i L) {k : Nat} (hk : k ≤ 3) : ∃ τ, X7_layRest σ d (nI k) = some (nI (Hf n i (cfC nu k L) 0), τ) ∧ RC τ n i (cfC nu k L) 0 ∧ Eqo WA σ τ := by
  have h8 := hs.n8
  have hi8 := p256 h8 h.ilt
  have hcf := cfC_b hs h k
  have h256 := p2le h8
  have hpos := Nat.two_pow_pos n
  have ho := out_lt (i := i) h8
  obtain ⟨b, w, e, hE, hC⟩ := loopI (f := X7_layRest_l18b d (nI k) (nI (2 ^ n - 1)) (nI (oun n i))) (s := (nI (2 ^ n - 1), σ)) (2 ^ n - oun n i) (fun m (_ : Unit) (w : SS) => ((pI (2 ^ n - m), w) : Int32 × SS)) (fun _ w => w) (fun m _ w => Eqo WA σ w ∧ RC w n i (cfC nu k L) (2 ^ n - m)) () σ (by
      have : (2 : Nat) ^ n - 0 = (2 ^ n - 1) + 1 := by omega
      rw [this, pI_s]) ⟨Eqo.rf _ _, fun S hS hm => by
      have := so_lt h8 h.ilt hS
      omega⟩ (by omega) (fun m b w hm hI => by
      obtain ⟨hE, hC⟩ := hI
      have hs' : RS w d n nk nu lo := hs.keep hE (fun k m j q => by unfold WA WR at q; omega)
      have h' : RV w d n i c s p o L := h.keep hE (fun k m j q => by unfold WA WR at q; omega)
      obtain ⟨D, hD⟩ : ∃ D, 2 ^ n - m = D + 1 := ⟨2 ^ n - m - 1, by omega⟩
      have hD2 : 2 ^ n - (m + 1) = D := by omega
      rw [hD] at hC ⊢
      rw [hD2, pI_s]
      have hsubiff : (nI D &&& nI (oun n i) = nI (oun n i)) ↔ Sub (oun n i) D := by
        rw [nI_and, nI_eq (by have : D &&& oun n i ≤ oun n i := Nat.and_le_right; omega) (by omega)]
        constructor
        · intro e k hk
          rw [← e, Nat.testBit_and, Bool.and_eq_true] at hk
          exact hk.1
        · intro hsub
          apply Nat.eq_of_testBit_eq
          intro k
          rw [Nat.testBit_and]
          cases hk : (oun n i).testBit k with
          | false => simp
          | true => rw [hsub k hk]; rfl
      have tail : ∀ (w' : SS) (x : Int32), Eqo WA σ w' → RC w' n i (cfC nu k L) D → ∃ (b' : Unit) (w'' : SS), X7_layRest_j63 w' d (nI k) (nI (2 ^ n - 1)) (nI (oun n i)) (nI D) = some (Sum.inl ((pI D, w'') : Int32 × SS)) ∧ Eqo WA σ w'' ∧ RC w'' n i (cfC nu k L) D := fun w' x g1 g2 => by
        unfold X7_layRest_j63
        exact ⟨(), w', rfl, g1, g2⟩
      show ∃ b' w', X7_layRest_l18c w d (nI k) (nI (2 ^ n - 1)) (nI (oun n i)) (nI D) = _ ∧ _
      unfold X7_layRest_l18c
      rw [if_neg (nI_nlt (by omega) (by omega))]
      by_cases q : Sub (oun n i) D
      · obtain ⟨hDe, hSs⟩ := so_of h8 (show D < 2 ^ n by omega) q
        rw [if_pos (hsubiff.mpr q)]
        generalize hSg : D &&& i = S at *
        have hnew : ∀ (w' : SS) (x : Int32), Eqo WR w w' → x = nI (Hf n i (cfC nu k L) S) → Eqo WA σ (wI w' 13 25 D x) ∧ RC (wI w' 13 25 D x) n i (cfC nu k L) D := fun w' x g1 g2 => by
          refine ⟨(hE.tr (g1.mono (fun _ _ _ q => .inl q))).tr (Eqo.wI (.inr ⟨rfl, rfl⟩)), fun T hT hm => ?_⟩
          by_cases z : T ||| oun n i = D
          · have hTS : T = S := by
              rw [← so_and h8 hT, z]
              exact hSg
            rw [z, wI_eq, g2, hTS]
          · rw [wI_ne _ _ (by omega), g1.at1 (by unfold WR; omega)]
            exact hC T hT (by omega)
        by_cases z : D = 2 ^ n - 1
        · have hSi : S = i := (so_full h8 h.ilt hSs).mp (by rw [← hDe, z])
          rw [if_pos (by rw [z])]
          unfold X7_layRest_j60
          rw [rest_put w (by omega), Option.bind_some]
          obtain ⟨g1, g2⟩ := hnew w 0 (Eqo.rf _ _) (by rw [hSi, Hf_full hi8]; rfl)
          exact tail _ 0 g1 g2
        · have hSi : S ≠ i := fun y => z (by rw [hDe]; exact (so_full h8 h.ilt hSs).mpr y)
          rw [if_neg (fun y => z ((nI_eq (by omega) (by omega)).mp y))]
          obtain ⟨w1, e1, hE1⟩ := forRest_ok hd hs' h' hin hSs hSi hk (by rw [← hDe]; exact hC)
          rw [← hDe] at e1
          unfold X7_layRest_j60
          rw [e1, Option.bind_some]
          simp only
          rw [rest_put w1 (by omega), Option.bind_some]
          obtain ⟨g1, g2⟩ := hnew w1 (nI (Hf n i (cfC nu k L) S)) hE1 rfl
          exact tail _ 0 g1 g2
      · rw [if_neg (fun y => q (hsubiff.mp y))]
        refine tail w 0 hE (fun T hT hm => ?_)
        by_cases z : T ||| oun n i = D
        · exfalso
          apply q
          rw [← z]
          intro k hk
          rw [Nat.testBit_or, hk, Bool.or_true]
        · exact hC T hT (by omega)) (fun b w hI => by
      show X7_layRest_l18c w d (nI k) (nI (2 ^ n - 1)) (nI (oun n i)) (pI (2 ^ n - (2 ^ n - oun n i))) = _
      unfold X7_layRest_l18c
      rw [show 2 ^ n - (2 ^ n - oun n i) = oun n i by omega, if_pos (pI_lt (by omega))])
  have hC' : RC w n i (cfC nu k L) 0 := fun S hS _ => hC S hS (by
    have : oun n i ≤ S ||| oun n i := Nat.right_le_or
    omega)
  refine ⟨w, ?_, hC', hE⟩
  have hw0 := hC' 0 (fun k hk => by rw [Nat.zero_testBit] at hk; cases hk) (Nat.zero_le _)
  rw [so_0 h8] at hw0
  unfold X7_layRest X7_layRest_j0 X7_layRest_l18
  rw [everyone_ok hs, Option.bind_some, inside_ok h, Option.bind_some, outset_ok h8, Option.bind_some, e, Option.bind_some, rest_at w (by omega), hw0, Option.bind_some]
end AC
