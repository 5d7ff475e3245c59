/-! ===== LIFE: what each STEP does, both sides ===== -/
def JJ (d : Nat) (σ υ : SS) (n nk : Nat) (nu : Nat → Nat → Nat) (lo : Nat → Nat) (i c : Nat) (s p o : Int32) (L : List X3) (q : Nat) : Prop := RS σ d n nk nu lo ∧ RV σ d n i c s p o L ∧ Dr σ d q ∧ RXS υ n nk nu lo ∧ RXV υ n i c s p o L ∧ DrX υ q ∧ (∀ k, k < 4 → σ.1 13 28 k = υ.1 11 0 (45 + k))
def LC (d : Nat) : Nat → Nat → Nat → Prop := fun k n j => VO d k n j ∨ WF k n j ∨ (k = 13 ∧ n = 28 ∧ j < 4)
def LX : Nat → Nat → Nat → Prop := fun k n j => XO k n j ∨ FX k n j ∨ (k = 13 ∧ n = 38) ∨ (k = 11 ∧ n = 0 ∧ 46 ≤ j ∧ j ≤ 48)
/-- some joint state -/
def JE (d n nk : Nat) (nu : Nat → Nat → Nat) (lo : Nat → Nat) (σ υ : SS) : Prop := ∃ i c s p o L q, JJ d σ υ n nk nu lo i c s p o L q
theorem VO_LC {d : Nat} {σ τ : SS} (h : Eqo (VO d) σ τ) : Eqo (LC d) σ τ := h.mono (fun _ _ _ q => .inl q)
theorem VC_LC {d : Nat} {σ τ : SS} (h : Eqo (VC d) σ τ) : Eqo (LC d) σ τ := h.mono (fun _ _ _ q => .inl (.inl q))
theorem WF_LC {d : Nat} {σ τ : SS} (h : Eqo WF σ τ) : Eqo (LC d) σ τ := h.mono (fun _ _ _ q => .inr (.inl q))
theorem XO_LX {σ τ : SS} (h : Eqo XO σ τ) : Eqo LX σ τ := h.mono (fun _ _ _ q => .inl q)
theorem XC_LX {σ τ : SS} (h : Eqo XC σ τ) : Eqo LX σ τ := XO_LX (XC_XO h)
theorem AX_LX {σ τ : SS} (h : Eqo AX σ τ) : Eqo LX σ τ := h.mono (fun k n j q => by
  rcases q with q | q | q
  · exact .inl (.inl q)
  · exact .inr (.inl q)
  · rcases q with ⟨q1, q2 | q2⟩
    · exact .inl (.inr (.inr ⟨q1, q2⟩))
    · exact .inr (.inr (.inl ⟨q1, q2⟩)))
theorem cnt_at (σ : SS) {k : Nat} (hk : k < 5) : X4_at σ 28 0 (nI k) = some (σ.1 13 28 k) := by
  have h1 : TR 28 = 1 ∧ TW 28 = 5 := by decide
  have := at_ok σ (t := 28) (r := 0) (c := k) (by decide) (by decide) (by rw [h1.2]; exact hk)
  rw [Nat.zero_mul, Nat.zero_add] at this
  exact this
theorem cnt_put (σ : SS) {k : Nat} (hk : k < 5) (x : Int32) : X4_put σ 28 0 (nI k) x = some (wI σ 13 28 k x) := by
  have h1 : TR 28 = 1 ∧ TW 28 = 5 := by decide
  have := put_ok σ (t := 28) (r := 0) (c := k) x (by decide) (by decide) (by rw [h1.2]; exact hk)
  rw [Nat.zero_mul, Nat.zero_add] at this
  exact this
theorem add_ok (σ : SS) {k : Nat} (hk : k < 5) (v : Int32) : X2_add σ (nI k) v = some (wI σ 13 28 k (σ.1 13 28 k + v)) := by
  unfold X2_add X2_add_j0
  rw [cnt_at σ hk, Option.bind_some, cnt_put σ hk, Option.bind_some]
/-- two loops of the same length -/
theorem jloop {A B : Type} {f : Int32 × SS → Option ((Int32 × SS) ⊕ A)} {g : Int32 × SS → Option ((Int32 × SS) ⊕ B)} (m : Nat) (I : Nat → SS → SS → Prop) (fa : SS → A) (fb : SS → B) {σ υ : SS} (h0 : I 0 σ υ) (hm : m < 1999999) (hs : ∀ k w v, k < m → I k w v → ∃ w' v', f (nI k, w) = some (Sum.inl (nI (k + 1), w')) ∧ g (nI k, v) = some (Sum.inl (nI (k + 1), v')) ∧ I (k + 1) w' v') (he : ∀ w v, I m w v → f (nI m, w) = some (Sum.inr (fa w)) ∧ g (nI m, v) = some (Sum.inr (fb v))) : ∃ w v, iter f NF (0, σ) = some (fa w) ∧ iter g NF (0, υ) = some (fb v) ∧ I m w v := by
  have main : ∀ r k (w v : SS), r + k = m → I k w v → ∃ w' v', (∀ F, r < F → iter f F (nI k, w) = some (fa w')) ∧ (∀ F, r < F → iter g F (nI k, v) = some (fb v')) ∧ I m w' v' := by
    intro r
    induction r with
    | zero =>
      intro k w v hk hI
      have hk : k = m := by omega
      subst hk
      obtain ⟨e1, e2⟩ := he w v hI
      refine ⟨w, v, fun F hF => ?_, fun F hF => ?_, hI⟩
      · obtain ⟨F, rfl⟩ := Nat.exists_eq_succ_of_ne_zero (by omega : F ≠ 0)
        simp only [iter]
        rw [e1]
        rfl
      · obtain ⟨F, rfl⟩ := Nat.exists_eq_succ_of_ne_zero (by omega : F ≠ 0)
        simp only [iter]
        rw [e2]
        rfl
    | succ r ih =>
      intro k w v hk hI
      obtain ⟨w', v', e1, e2, hI'⟩ := hs k w v (by omega) hI
      obtain ⟨w2, v2, c1, c2, c3⟩ := ih (k + 1) w' v' (by omega) hI'
      refine ⟨w2, v2, fun F hF => ?_, fun F hF => ?_, c3⟩
      · obtain ⟨F, rfl⟩ := Nat.exists_eq_succ_of_ne_zero (by omega : F ≠ 0)
        simp only [iter]
        rw [e1]
        exact c1 F (by omega)
      · obtain ⟨F, rfl⟩ := Nat.exists_eq_succ_of_ne_zero (by omega : F ≠ 0)
        simp only [iter]
        rw [e2]
        exact c2 F (by omega)
  obtain ⟨w', v', c1, c2, c3⟩ := main m 0 σ υ (by omega) h0
  exact ⟨w', v', c1 NF (by unfold NF; omega), c2 NF (by unfold NF; omega), c3⟩
section EF
variable {σ υ : SS} {d n nk i c q : Nat} {s p o : Int32} {nu : Nat → Nat → Nat} {lo : Nat → Nat} {L : List X3}
theorem JJ.rs (h : JJ d σ υ n nk nu lo i c s p o L q) : RS σ d n nk nu lo := h.1
theorem JJ.rv (h : JJ d σ υ n nk nu lo i c s p o L q) : RV σ d n i c s p o L := h.2.1
theorem JJ.dr (h : JJ d σ υ n nk nu lo i c s p o L q) : Dr σ d q := h.2.2.1
theorem JJ.xs (h : JJ d σ υ n nk nu lo i c s p o L q) : RXS υ n nk nu lo := h.2.2.2.1
theorem JJ.xv (h : JJ d σ υ n nk nu lo i c s p o L q) : RXV υ n i c s p o L := h.2.2.2.2.1
theorem JJ.dx (h : JJ d σ υ n nk nu lo i c s p o L q) : DrX υ q := h.2.2.2.2.2.1
theorem JJ.je (h : JJ d σ υ n nk nu lo i c s p o L q) : JE d n nk nu lo σ υ := ⟨i, c, s, p, o, L, q, h⟩
/-- drawers have changed, counts not -/
theorem JJ.next {σ' υ' : SS} {i' c' q' : Nat} {s' p' o' : Int32} {L' : List X3} (h : JJ d σ υ n nk nu lo i c s p o L q) (hd : d < 5) (hE : Eqo (VO d) σ σ') (hE2 : Eqo XO υ υ') (hR : RV σ' d n i' c' s' p' o' L') (hX : RXV υ' n i' c' s' p' o' L') (hD : Dr σ' d q') (hDx : DrX υ' q') : JJ d σ' υ' n nk nu lo i' c' s' p' o' L' q' :=
  ⟨h.1.keepVO hE, hR, hD, h.xs.keepO hE2, hX, hDx, fun k hk => by
    rw [hE.at1 (by unfold VO VC; omega), hE2.at1 (by unfold XO XC; omega)]
    exact h.2.2.2.2.2.2 k hk⟩
theorem JJ.nextV {σ' υ' : SS} {i' c' : Nat} {s' p' o' : Int32} {L' : List X3} (h : JJ d σ υ n nk nu lo i c s p o L q) (hd : d < 5) (hE : Eqo (VC d) σ σ') (hE2 : Eqo XC υ υ') (hR : RV σ' d n i' c' s' p' o' L') (hX : RXV υ' n i' c' s' p' o' L') : JJ d σ' υ' n nk nu lo i' c' s' p' o' L' q :=
  h.next hd (hE.mono (fun _ _ _ q => .inl q)) (XC_XO hE2) hR hX (h.dr.keep hE (by unfold VC; omega)) (h.dx.keep hE2 (by unfold XC; omega))
/-- a count has grown on both sides -/
theorem JJ.add (h : JJ d σ υ n nk nu lo i c s p o L q) (hd : d < 5) {k : Nat} (hk : 0 < k ∧ k < 4) (v : Int32) : JJ d (wI σ 13 28 k (σ.1 13 28 k + v)) (wI υ 11 0 (45 + k) (υ.1 11 0 (45 + k) + v)) n nk nu lo i c s p o L q ∧ Eqo (LC d) σ (wI σ 13 28 k (σ.1 13 28 k + v)) ∧ Eqo LX υ (wI υ 11 0 (45 + k) (υ.1 11 0 (45 + k) + v)) := by
  have e1 : Eqo (fun a b _ => a = 13 ∧ b = 28) σ (wI σ 13 28 k (σ.1 13 28 k + v)) := Eqo.wI ⟨rfl, rfl⟩
  have e2 : Eqo (fun a b j => a = 11 ∧ b = 0 ∧ j = 45 + k) υ (wI υ 11 0 (45 + k) (υ.1 11 0 (45 + k) + v)) := Eqo.wI ⟨rfl, rfl, rfl⟩
  have hk4 := hk.2
  have hk0 := hk.1
  refine ⟨⟨h.rs.keep e1 (fun k m j q => by omega), h.rv.keep e1 (fun k m j q => by omega), h.dr.keep e1 (by omega), h.xs.keep e2 (fun j q => by omega), h.xv.keep e2 (fun j q => by omega), h.dx.keep e2 (by omega), fun m hm => ?_⟩, Eqo.wI (by unfold LC; omega), Eqo.wI (by unfold LX; omega)⟩
  by_cases z : m = k
  · subst z
    rw [wI_eq, wI_eq, h.2.2.2.2.2.2 m hm]
  · rw [wI_ne _ _ (by omega), wI_ne _ _ (by omega)]
    exact h.2.2.2.2.2.2 m hm
theorem eff_loosen (hd : d < 5) (h : JJ d σ υ n nk nu lo i c s p o L q) : ∃ r σ' υ', X0_loosenOnce σ d = some (r, σ') ∧ X12_loosensOnce υ = some (r, υ') ∧ JE d n nk nu lo σ' υ' ∧ Eqo (LC d) σ σ' ∧ Eqo LX υ υ' := by
  obtain ⟨σ', e1, E1, R1⟩ := loosenOnce_ok hd h.rv
  obtain ⟨υ', e2, E2, R2⟩ := xloosensOnce h.xv
  exact ⟨_, σ', υ', e1, e2, (h.nextV hd E1 E2 R1 R2).je, VC_LC E1, XC_LX E2⟩
theorem eff_cut (hd : d < 5) (h : JJ d σ υ n nk nu lo i c s p o L q) {l : Nat} (hl : l < n) : ∃ r σ' υ', X0_cutOff σ d (nI l) = some (r, σ') ∧ X12_cuts υ (nI l) = some (r, υ') ∧ JE d n nk nu lo σ' υ' ∧ Eqo (LC d) σ σ' ∧ Eqo LX υ υ' := by
  obtain ⟨σ', e1, E1, R1⟩ := cutOff_ok hd h.rs h.rv hl
  obtain ⟨υ', e2, E2, R2⟩ := xcuts h.xs h.xv hl
  exact ⟨_, σ', υ', e1, e2, (h.nextV hd E1 E2 R1 R2).je, VC_LC E1, XC_LX E2⟩
theorem eff_pull (hd : d < 5) (h : JJ d σ υ n nk nu lo i c s p o L q) {l : Nat} (hl : l < n) (hil : i.testBit l = true) : ∃ v σ' υ', X3_isLone σ d (nI l) = some v ∧ X0_pullAt σ d (nI l) v = some σ' ∧ X12_pulls υ (nI l) = some υ' ∧ JE d n nk nu lo σ' υ' ∧ Eqo (LC d) σ σ' ∧ Eqo LX υ υ' := by
  have h8 := h.rs.n8
  have e0 := isLone_ok hd h.rs h.rv hl
  obtain ⟨σ', e1, E1, R1⟩ := pullAt_ok hd h8 h.rv (l := l) (by omega) (popc (lumpF i L l) == 1)
  obtain ⟨υ', e2, E2, R2⟩ := xpulls h.xs h.xv hl hil
  refine ⟨_, σ', υ', e0, ?_, e2, (h.nextV hd E1 E2 R1 R2).je, VC_LC E1, XC_LX E2⟩
  rw [← e1]
  by_cases z : popc (lumpF i L l) = 1
  · rw [if_pos z, if_pos (by rw [z]; rfl)]
  · rw [if_neg z, if_neg (by simp [z])]
theorem clips2_ok (hs : RXS υ n nk nu lo) (h : RXV υ n i c s p o L) {l : Nat} (hl : l < n) : X12_clips2 υ (nI l) = if (i.testBit l = true ∧ cnt L l = 0) ∧ c.testBit l = false then some (1, wI (wI υ 13 34 4 (nI (c ||| 2 ^ l))) 13 34 5 (s + 12)) else some (0, υ) := by
  have h8 := hs.n8
  have h24 := h.l24
  have hcl : cnt L l ≤ L.length := List.countP_le_length
  have hc8 := clt h8 h
  have hsh : nI 1 <<< (nI l &&& nI 31) = nI (2 ^ l) := hsh (by omega)
  have hor : nI c ||| (1 <<< (nI l &&& 31)) = nI (c ||| 2 ^ l) := by
    rw [← nI_or, ← hsh]
    rfl
  unfold X12_clips2 X12_clips2_j0
  rw [xisInside hs h hl, Option.bind_some, v01, ck4, Option.bind_some, h.clp, xhas hc8 (by omega), Option.bind_some, v01, xcrossings h8 h (by omega), Option.bind_some, Option.bind_some, Option.bind_some, h.clp, hor, Option.bind_some, ck5, Option.bind_some, Option.bind_some, wI_ne _ _ (by omega), h.sec, Option.bind_some]
  by_cases q : i.testBit l = true
  · rw [if_pos q]
    by_cases y : c.testBit l = true
    · rw [if_pos y, if_neg (fun z => by rw [y] at z; cases z.2)]
    · rw [if_neg y]
      by_cases z : cnt L l = 0
      · rw [if_pos (by rw [z]; decide), if_pos ⟨⟨q, z⟩, Bool.eq_false_iff.mpr y⟩]
      · rw [if_neg (nI_nle (Nat.pos_of_ne_zero z) (by omega)), if_neg (fun w => z w.1.2)]
  · rw [if_neg q, if_neg (fun w => q w.1.1)]
/-- clipping: either both may not, or both do -/
theorem eff_clip (hd : d < 5) (h : JJ d σ υ n nk nu lo i c s p o L q) {l : Nat} (hl : l < n) : (X0_canGetClip σ d (nI l) = some 0 ∧ X12_clips2 υ (nI l) = some (0, υ)) ∨ (X0_canGetClip σ d (nI l) = some 1 ∧ ∃ σ' υ', X0_putClip σ d (nI l) = some (1, σ') ∧ X12_clips2 υ (nI l) = some (1, υ') ∧ JE d n nk nu lo σ' υ' ∧ Eqo (LC d) σ σ' ∧ Eqo LX υ υ') := by
  have e0 := canGetClip_in hd h.rs h.rv hl
  have e2 := clips2_ok h.xs h.xv hl
  by_cases z : (i.testBit l = true ∧ cnt L l = 0) ∧ c.testBit l = false
  · rw [if_pos z] at e0 e2
    right
    obtain ⟨σ', e1, E1, R1⟩ := putClip_ok h.rs h.rv hl z.1.1
    have hsub : Sub (c ||| 2 ^ l) i := fun k hk => by
      rw [Nat.testBit_or, Bool.or_eq_true] at hk
      rcases hk with z' | z'
      · exact h.xv.sub k z'
      · rw [Nat.testBit_two_pow, decide_eq_true_eq] at z'
        rw [← z']; exact z.1.1
    have E2 : Eqo XC υ (wI (wI υ 13 34 4 (nI (c ||| 2 ^ l))) 13 34 5 (s + 12)) := Eqo.tr (Eqo.wI (by unfold XC; omega)) (Eqo.wI (by unfold XC; omega))
    exact ⟨e0, σ', _, e1, e2, (h.nextV hd E1 E2 R1 ((h.xv.setC hsub).setS (s + 12))).je, VC_LC E1, XC_LX E2⟩
  · rw [if_neg z] at e0 e2
    exact .inl ⟨e0, e2⟩
/-- opening some times -/
theorem eff_open (hd : d < 5) (h : JJ d σ υ n nk nu lo i c s p o L q) {m : Nat} (hm : m < 100000) : ∃ σ' υ', X2_openOften σ d (nI m) = some σ' ∧ X12_does_l23 υ (nI m) 0 = some (1, υ') ∧ JE d n nk nu lo σ' υ' ∧ Eqo (LC d) σ σ' ∧ Eqo LX υ υ' := by
  obtain ⟨w, v, e1, e2, ⟨i', c', s', p', o', L', q', hJ⟩, hE1, hE2⟩ := jloop (f := X2_openOften_l2b d (nI m)) (g := X12_does_l23b (nI m)) m (fun _ w v => JE d n nk nu lo w v ∧ Eqo (LC d) σ w ∧ Eqo LX υ v) id id (σ := σ) (υ := υ) ⟨h.je, Eqo.rf _ _, Eqo.rf _ _⟩ (by omega) (fun k w v hk hI => by
    obtain ⟨⟨i', c', s', p', o', L', q', hJ⟩, hE1, hE2⟩ := hI
    obtain ⟨w', e1, E1, R1, D1⟩ := openOnce_ok hd hJ.rs hJ.rv hJ.dr
    obtain ⟨v', e2, E2, R2, D2⟩ := xopens hJ.xs hJ.xv hJ.dx
    have hN := hJ.next hd E1 E2 R1 R2 D1 D2
    obtain ⟨hA, A1, A2⟩ := hN.add hd (k := 2) (by decide) (nI (opens n nu (i' &&& (255 ^^^ c')) q' L').2.2)
    refine ⟨_, _, ?_, ?_, hA.je, (hE1.tr (VO_LC E1)).tr A1, (hE2.tr (XO_LX E2)).tr A2⟩
    · show X2_openOften_l2c w d (nI m) (nI k) = _
      unfold X2_openOften_l2c
      rw [if_neg (nI_ge hk (by omega)), e1, Option.bind_some]
      have := add_ok w' (k := 2) (by decide) (nI (opens n nu (i' &&& (255 ^^^ c')) q' L').2.2)
      have e3 : X2_add w' 2 (nI (opens n nu (i' &&& (255 ^^^ c')) q' L').2.2) = some (wI w' 13 28 2 (w'.1 13 28 2 + nI (opens n nu (i' &&& (255 ^^^ c')) q' L').2.2)) := this
      rw [e3, Option.bind_some, nI_1]
      rfl
    · show X12_does_l23c v (nI m) (nI k) = _
      unfold X12_does_l23c
      rw [if_neg (nI_ge hk (by omega)), e2, Option.bind_some, Option.bind_some, nI_1, Option.bind_some]
      have e4 : v'.1 11 0 47 = v.1 11 0 47 := E2.at1 (by unfold XO XC; omega)
      rw [← e4]) (fun w v hI => by
    constructor
    · show X2_openOften_l2c w d (nI m) (nI m) = _
      unfold X2_openOften_l2c
      rw [if_pos (nI_le (Nat.le_refl _) (by omega))]
      rfl
    · show X12_does_l23c v (nI m) (nI m) = _
      unfold X12_does_l23c
      rw [if_pos (nI_le (Nat.le_refl _) (by omega))]
      rfl)
  obtain ⟨hA, A1, A2⟩ := hJ.add hd (k := 1) (by decide) (nI m)
  refine ⟨_, _, ?_, ?_, hA.je, hE1.tr A1, hE2.tr A2⟩
  · unfold X2_openOften X2_openOften_j0 X2_openOften_l2
    have e3 : X2_add (id w) 1 (nI m) = some (wI w 13 28 1 (w.1 13 28 1 + nI m)) := add_ok w (k := 1) (by decide) (nI m)
    rw [e1, Option.bind_some, e3, Option.bind_some]
  · unfold X12_does_l23
    rw [e2, Option.bind_some, Option.bind_some]
    rfl
end EF
