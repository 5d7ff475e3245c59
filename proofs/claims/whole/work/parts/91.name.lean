/-! ===== TEXTS: names ===== -/
section NM
variable {σ υ : SS} {B : Nat → Nat} {S a : Nat}
/-- a name stands there -/
def nmS (B : Nat → Nat) (S a : Nat) : Prop := tkK B S a = 1 ∧ wid B S a = none ∧ tkZ B S a - a ≤ 8
theorem wn_no {B : Nat → Nat} {S a : Nat} (h : tkK B S a = 1) : (wnI (ixW (txt B a (tkZ B S a - a)) WDS 0) = -1 ↔ wid B S a = none) := by
  have e : wid B S a = ixW (txt B a (tkZ B S a - a)) WDS 0 := by
    unfold wid
    rw [if_pos h]
  rw [← e]
  cases hw : wid B S a with
  | none => exact ⟨fun _ => rfl, fun _ => rfl⟩
  | some m =>
    have hm := (wid_lt hw).1
    constructor
    · intro z
      have h0 : (0 : Int32) ≤ nI m := nI_pos' (by omega)
      have z' : nI m = -1 := z
      rw [z'] at h0
      exact absurd h0 (by decide)
    · intro z
      cases z
theorem names_ok (h : TK B S a σ υ) : (nmS B S a ∧ X5_nameStands σ = some 1 ∧ X12_isName υ = some 1 ∧ X5_name σ = some (cdF B a (tkZ B S a - a)) ∧ υ.2 11 0 19 = cdF B a (tkZ B S a - a)) ∨ (¬ nmS B S a ∧ X5_nameStands σ = some 0 ∧ X12_isName υ = some 0) := by
  have hk := xisKept h
  obtain ⟨h1, h2, h3, h4, h5, h6, h7, h8, h9, h10, h11, h12, h13, h14⟩ := h
  have hS := h1.1
  obtain ⟨z1, z2⟩ := tkZ_le B S h3
  have hc := clK_bad _ (tkK_le B S a)
  have hkl := tkK_le B S a
  unfold X5_nameStands X5_nameStands_j0 X12_isName X12_isName_j0
  rw [h6, h11]
  by_cases q : tkK B S a = 1
  · obtain ⟨g1, g2⟩ := h12 q
    rw [q, if_pos (show nI (clK 1) = 2 by decide), if_pos (show nI 1 = 1 from rfl), h7 q, h5, h4, nI_subN z1, g1, hk, Option.bind_some]
    by_cases y : wid B S a = none
    · rw [if_pos ((wn_no q).mpr y), if_pos y, if_pos rfl]
      by_cases x : tkZ B S a - a ≤ 8
      · rw [if_neg (show ¬ (8 : Int32) < nI (tkZ B S a - a) from nI_nlt (a := 8) x (by decide))]
        refine .inl ⟨⟨q, y, x⟩, rfl, rfl, ?_, g2⟩
        obtain ⟨-, -, e, -⟩ := loopI (f := X5_name_l7b σ) (s := (0, nI a)) (tkZ B S a - a) (fun k (_ : Unit) (_ : SS) => ((cdF B a k, nI (a + k)) : Int64 × Int32)) (fun _ _ => cdF B a (tkZ B S a - a)) (fun _ _ _ => True) () σ rfl trivial (by omega) (fun k u w hkk _ => by
          refine ⟨(), w, ?_, trivial⟩
          show X5_name_l7c σ (cdF B a k) (nI (a + k)) = _
          unfold X5_name_l7c
          rw [h5, if_neg (nI_ge (by omega) (by omega)), h1.at (by omega), Option.bind_some, nI_1]
          have ev : ((((cdF B a k * 32) + Int32.toInt64 (nI (B (a + k)))) - 97) + 1 : Int64) = cdF B a (k + 1) := by
            rw [show cdF B a (k + 1) = if 8 ≤ k then -1 else ((cdF B a k * 32) + Int32.toInt64 (nI (B (a + k)))) - 96 from rfl, if_neg (by omega), Int64.sub_eq_add_neg, Int64.sub_eq_add_neg, Int64.add_assoc]
            rfl
          rw [ev, Option.bind_some, Option.bind_some, Nat.add_assoc]) (fun u w _ => by
          show X5_name_l7c σ (cdF B a (tkZ B S a - a)) (nI (a + (tkZ B S a - a))) = _
          unfold X5_name_l7c
          rw [h5, if_pos (nI_le (by omega) (by omega))])
        unfold X5_name X5_name_j0 X5_name_l7
        rw [h4, Option.bind_some, e, Option.bind_some]
      · rw [if_pos (show (8 : Int32) < nI (tkZ B S a - a) from nI_lt (a := 8) (by omega) (by omega))]
        exact .inr ⟨fun z => x z.2.2, rfl, rfl⟩
    · rw [if_neg (fun z => y ((wn_no q).mp z)), if_neg y, if_neg neg1_0]
      refine .inr ⟨fun z => y z.2.1, rfl, ?_⟩
      split <;> rfl
  · rw [if_neg (show ¬ nI (clK (tkK B S a)) = 2 from wne (fun z => q (hc.2.2.1.mp z)) (by omega) (by decide)), if_neg (show ¬ nI (tkK B S a) = 1 from wne q (by omega) (by decide))]
    exact .inr ⟨fun z => q z.1, rfl, rfl⟩
end NM
