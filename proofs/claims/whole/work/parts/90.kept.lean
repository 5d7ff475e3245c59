/-! ===== TEXTS: which word, by number ===== -/
/-- the word that stands there, if it is one of the 24 -/
def wid (B : Nat → Nat) (S a : Nat) : Option Nat := if tkK B S a = 1 then ixW (txt B a (tkZ B S a - a)) WDS 0 else none
theorem wid_lt {B : Nat → Nat} {S a k : Nat} (h : wid B S a = some k) : k < 24 ∧ tkK B S a = 1 := by
  unfold wid at h
  split at h
  · rename_i q
    have := ix_lt WDS 0 k h
    have h24 : WDS.length = 24 := by decide +kernel
    exact ⟨by omega, q⟩
  · cases h
section KP
variable {σ υ : SS} {B : Nat → Nat} {S a : Nat}
theorem TK.isw (h : TK B S a σ υ) {k : Nat} {W : List Nat} (hk : WDS[k]? = some W) : X5_wordIs σ (nI k) = some (if wid B S a = some k then 1 else 0) ∧ X12_isWord υ (lN (cdL W)) = some (if wid B S a = some k then 1 else 0) := by
  obtain ⟨v, hv, e1, e2, e3⟩ := h.word hk
  have hi := ix_iff (T := txt B a (tkZ B S a - a)) WDS WDS_nodup 0 k W hk
  rw [Nat.zero_add] at hi
  have key : v = (if wid B S a = some k then 1 else 0) := by
    by_cases q : wid B S a = some k
    · rw [if_pos q]
      have h1 := (wid_lt q).2
      unfold wid at q
      rw [if_pos h1] at q
      exact e3.mpr ⟨h1, hi.mp q⟩
    · rw [if_neg q]
      rcases hv with z | z
      · exact z
      · have h1 := e3.mp z
        exact absurd (by unfold wid; rw [if_pos h1.1]; exact hi.mpr h1.2) q
  rw [e1, e2, key]
  exact ⟨rfl, rfl⟩
theorem zb_c (o : Option Nat) (k : Nat) : zb (if o = some k then 1 else 0) = some (if o = some k then 1 else 0) := zb_i
theorem xisLead (h : TK B S a σ υ) : X12_isLead υ = some (if wid B S a = some 0 then 1 else 0) := by
  unfold X12_isLead X12_isLead_j0
  rw [sp_lead, Option.bind_some, (h.isw (k := 0) rfl).2, Option.bind_some, zb_c, Option.bind_some]
theorem xisLong (h : TK B S a σ υ) : X12_isLong υ = some (if wid B S a = some 1 then 1 else 0) := by
  unfold X12_isLong X12_isLong_j0
  rw [sp_long, Option.bind_some, (h.isw (k := 1) rfl).2, Option.bind_some, zb_c, Option.bind_some]
theorem xisStiff (h : TK B S a σ υ) : X12_isStiff υ = some (if wid B S a = some 2 then 1 else 0) := by
  unfold X12_isStiff X12_isStiff_j0
  rw [sp_stiff, Option.bind_some, (h.isw (k := 2) rfl).2, Option.bind_some, zb_c, Option.bind_some]
theorem xisEnds (h : TK B S a σ υ) : X12_isEnds υ = some (if wid B S a = some 3 then 1 else 0) := by
  unfold X12_isEnds X12_isEnds_j0
  rw [sp_ends, Option.bind_some, (h.isw (k := 3) rfl).2, Option.bind_some, zb_c, Option.bind_some]
theorem xisCosts (h : TK B S a σ υ) : X12_isCosts υ = some (if wid B S a = some 4 then 1 else 0) := by
  unfold X12_isCosts X12_isCosts_j0
  rw [sp_costs, Option.bind_some, (h.isw (k := 4) rfl).2, Option.bind_some, zb_c, Option.bind_some]
theorem xisUsed (h : TK B S a σ υ) : X12_isUsed υ = some (if wid B S a = some 5 then 1 else 0) := by
  unfold X12_isUsed X12_isUsed_j0
  rw [sp_used, Option.bind_some, (h.isw (k := 5) rfl).2, Option.bind_some, zb_c, Option.bind_some]
theorem xisClip (h : TK B S a σ υ) : X12_isClip υ = some (if wid B S a = some 6 then 1 else 0) := by
  unfold X12_isClip X12_isClip_j0
  rw [sp_clip, Option.bind_some, (h.isw (k := 6) rfl).2, Option.bind_some, zb_c, Option.bind_some]
theorem xisCross (h : TK B S a σ υ) : X12_isCross υ = some (if wid B S a = some 7 then 1 else 0) := by
  unfold X12_isCross X12_isCross_j0
  rw [sp_cross, Option.bind_some, (h.isw (k := 7) rfl).2, Option.bind_some, zb_c, Option.bind_some]
theorem xisLook (h : TK B S a σ υ) : X12_isLook υ = some (if wid B S a = some 11 then 1 else 0) := by
  unfold X12_isLook X12_isLook_j0
  rw [sp_look, Option.bind_some, (h.isw (k := 11) rfl).2, Option.bind_some, zb_c, Option.bind_some]
theorem xisFrom (h : TK B S a σ υ) : X12_isFrom υ = some (if wid B S a = some 16 then 1 else 0) := by
  unfold X12_isFrom X12_isFrom_j0
  rw [sp_from, Option.bind_some, (h.isw (k := 16) rfl).2, Option.bind_some, zb_c, Option.bind_some]
theorem xisEnd (h : TK B S a σ υ) : X12_isEnd υ = some (if wid B S a = some 22 then 1 else 0) := by
  unfold X12_isEnd X12_isEnd_j0
  rw [sp_end, Option.bind_some, (h.isw (k := 22) rfl).2, Option.bind_some, zb_c, Option.bind_some]
theorem sp_threaded (σ : SS) : ((lN (cdL [116, 104, 114, 101, 97, 100]) * 32 + 5) * 32 + 4 : Int64) = lN (cdL [116, 104, 114, 101, 97, 100, 101, 100]) := by
  decide +kernel
/-- the state that a word names -/
def stF (o : Option Nat) : Nat := if o = some 8 then 1 else if o = some 9 then 2 else if o = some 10 then 3 else 0
def spF (o : Option Nat) : Int32 := if o = some 12 then 0 else if o = some 13 then 1 else if o = some 14 then 2 else if o = some 15 then 3 else if o = some 17 then 4 else if o = some 6 then 5 else if o = some 18 then 6 else if o = some 21 then 7 else if o = some 23 then 8 else -1
def teF (o : Option Nat) : Int32 := if o = some 19 then 0 else if o = some 7 then 1 else if o = some 20 then 2 else -1
theorem if01 {α : Type} {c : Prop} [Decidable c] {x y : α} : (if (if c then (1 : Int32) else 0) = 0 then x else y) = if c then y else x := by
  by_cases q : c
  · rw [if_pos q, if_pos q, if_neg neg1_0]
  · rw [if_neg q, if_neg q, if_pos rfl]
theorem xstateWord (h : TK B S a σ υ) : X12_stateWord υ = some (nI (stF (wid B S a))) := by
  unfold X12_stateWord X12_stateWord_j0
  rw [sp_thread, Option.bind_some, sp_threaded υ, (h.isw (k := 8) rfl).2, Option.bind_some, sp_tight, Option.bind_some, (h.isw (k := 9) rfl).2, Option.bind_some, sp_knot, Option.bind_some, (h.isw (k := 10) rfl).2, Option.bind_some, if01, if01, if01]
  unfold stF
  split
  · rfl
  · split
    · rfl
    · split <;> rfl
theorem xtestWord (h : TK B S a σ υ) : X12_testWord υ = some (teF (wid B S a)) := by
  unfold X12_testWord X12_testWord_j0
  rw [sp_lump, Option.bind_some, (h.isw (k := 19) rfl).2, Option.bind_some, xisCross h, Option.bind_some, sp_free, Option.bind_some, (h.isw (k := 20) rfl).2, Option.bind_some, if01, if01, if01]
  unfold teF
  split
  · rfl
  · split
    · rfl
    · split <;> rfl
theorem xstepWord (h : TK B S a σ υ) : X12_stepWord υ = some (spF (wid B S a)) := by
  unfold X12_stepWord X12_stepWord_j0
  rw [sp_open, Option.bind_some, (h.isw (k := 12) rfl).2, Option.bind_some, sp_take, Option.bind_some, (h.isw (k := 13) rfl).2, Option.bind_some, sp_loosen, Option.bind_some, (h.isw (k := 14) rfl).2, Option.bind_some, sp_pull, Option.bind_some, (h.isw (k := 15) rfl).2, Option.bind_some, sp_cut, Option.bind_some, (h.isw (k := 17) rfl).2, Option.bind_some, xisClip h, Option.bind_some, sp_when, Option.bind_some, (h.isw (k := 18) rfl).2, Option.bind_some, sp_loop, Option.bind_some, (h.isw (k := 21) rfl).2, Option.bind_some, sp_stop, Option.bind_some, (h.isw (k := 23) rfl).2, Option.bind_some]
  simp only [if01]
  unfold spF
  repeat' split
  all_goals first | rfl | contradiction
/-- all 24 are kept words -/
theorem xisKept (h : TK B S a σ υ) : X12_isKept υ = some (if wid B S a = none then 0 else 1) := by
  unfold X12_isKept X12_isKept_j0 X12_isKept_j100
  rw [xisLead h, Option.bind_some, xisLong h, Option.bind_some, xisStiff h, Option.bind_some, xisEnds h, Option.bind_some, xisCosts h, Option.bind_some, xisUsed h, Option.bind_some, xisClip h, Option.bind_some, xisCross h, Option.bind_some, xisLook h, Option.bind_some, xisFrom h, Option.bind_some, xstateWord h, Option.bind_some, xstepWord h, Option.bind_some, xtestWord h, Option.bind_some, xisEnd h, Option.bind_some]
  simp only [if01]
  cases hw : wid B S a with
  | none => rfl
  | some k =>
    have hk := (wid_lt hw).1
    have : ∀ k, k < 24 → (if (some k : Option Nat) = some 0 then some (1 : Int32) else if (some k : Option Nat) = some 1 then some 1 else if (some k : Option Nat) = some 2 then some 1 else if (some k : Option Nat) = some 3 then some 1 else if (some k : Option Nat) = some 4 then some 1 else if (some k : Option Nat) = some 5 then some 1 else if (some k : Option Nat) = some 6 then some 1 else if (some k : Option Nat) = some 7 then some 1 else if (some k : Option Nat) = some 11 then some 1 else if (some k : Option Nat) = some 16 then some 1 else if 0 < nI (stF (some k)) then some 1 else if 0 ≤ spF (some k) then some 1 else if 0 ≤ teF (some k) then some 1 else if (some k : Option Nat) = some 22 then some 1 else some 0) = some 1 := by decide +kernel
    rw [if_neg (show ¬ (some k : Option Nat) = none from fun z => by cases z)]
    exact this k hk
end KP
