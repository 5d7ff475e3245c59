/-! ===== the reference: openings ===== -/
def DrX (σ : SS) (q : Nat) : Prop := σ.1 11 0 25 = nI q ∧ q < 65536
def XO : Nat → Nat → Nat → Prop := fun k n j => XC k n j ∨ (k = 11 ∧ n = 0 ∧ j = 25) ∨ (k = 13 ∧ n = 35)
theorem XD_XO {σ τ : SS} (h : Eqo XD σ τ) : Eqo XO σ τ := (XD_XC h).mono (fun _ _ _ q => .inl q)
theorem memN_scan2 {T : Type} (s : Nat) (R : Nat → Int32 ) : ∀ (M : List Nat) (b : Nat), (∀ j x, M[j]? = some x → x = b + j) → ∀ m, m < M.countP (fun k => s.testBit k) → scan (fun (a : Nat) k (_ : Nat) => if s.testBit k = true then (if a = 0 then Sum.inr (nI k) else Sum.inl (a - 1)) else Sum.inl a) R M m b = nI ((memN s M m).getD 0) := by
  intro M
  induction M with
  | nil => intro b _ m h; exact absurd h (Nat.not_lt_zero _)
  | cons x t ih =>
    intro b hM m h
    have e : x = b := hM 0 x rfl
    subst e
    rw [List.countP_cons] at h
    have hM' : ∀ j y, t[j]? = some y → y = x + 1 + j := fun j y hy => by
      have := hM (j + 1) y hy
      omega
    unfold scan memN
    by_cases q : s.testBit x = true
    · rw [if_pos q] at h
      rw [if_pos q, if_pos q]
      cases m with
      | zero => rfl
      | succ m => exact ih (x + 1) hM' m (by omega)
    · rw [if_neg q] at h
      rw [if_neg q, if_neg q]
      exact ih (x + 1) hM' m h
section D6
variable {σ : SS} {n nk i c : Nat} {s p o : Int32} {nu : Nat → Nat → Nat} {lo : Nat → Nat} {L : List X3}
theorem xmember (σ : SS) (x1 x2 : Int32) {u m : Nat} (hu : u < 256) (hm : m < popc u) : iter (X12_opens_l84b σ x1 x2 (nI u)) NF (nI m, 0) = some (nI (memF u m)) := by
  have hm8 := popc_le u
  have hcnt : popc u = (List.range 8).countP (fun k => u.testBit k) := by
    unfold popc
    rw [List.countP_eq_length_filter]
  have hsc := memN_scan2 (T := Unit) u (fun _ => 0) (List.range 8) 0 (fun j x hj => by
      have := (range_get hj).1
      omega) m (by omega)
  unfold memF
  rw [← hsc]
  refine iter_scanI (s := (nI m, 0)) (List.range 8) (fun j a => a < ((List.range 8).drop j).countP (fun k => u.testBit k)) _ _ (fun a k => (nI a, nI k)) m rfl (by rw [List.drop_zero]; omega) (by decide) (fun k x acc hk hI => ?_) (fun k x acc a hk hI hg => ?_) (fun acc hI => ?_)
  · obtain ⟨-, hk8⟩ := range_get hk
    have hacc : acc < 9 := by
      have h2 : ((List.range 8).drop k).countP (fun k => u.testBit k) ≤ ((List.range 8).drop k).length := List.countP_le_length
      rw [List.length_drop, List.length_range] at h2
      omega
    show X12_opens_l84c σ x1 x2 (nI u) (nI acc) (nI k) = _
    unfold X12_opens_l84c X12_opens_j98 X12_opens_j114
    rw [xhas hu hk8, Option.bind_some, v01, Option.bind_some, v01]
    by_cases q : u.testBit k = true
    · rw [if_pos q, if_pos q, if_pos q]
      by_cases z : acc = 0
      · rw [if_pos (by rw [z]; decide), if_pos z]
      · rw [if_neg (nI_nle (Nat.pos_of_ne_zero z) (by omega)), if_neg z, Option.bind_some, Option.bind_some, nI_1]
        show some (Sum.inl (nI acc - 1, nI (k + 1))) = _
        rw [nI_sub1 (Nat.pos_of_ne_zero z)]
    · rw [if_neg q, if_neg q, if_neg q, Option.bind_some, Option.bind_some, nI_1]
      have h0 : nI acc - 0 = nI acc := nI_subN (b := 0) (Nat.zero_le _)
      rw [h0]
  · obtain ⟨rfl, hk8⟩ := range_get hk
    have hd : (List.range 8).drop x = x :: (List.range 8).drop (x + 1) := by
      have hl : x < (List.range 8).length := by rw [List.length_range]; exact hk8
      rw [List.drop_eq_getElem_cons hl, List.getElem_range]
    have hI' : acc < ((List.range 8).drop x).countP (fun k => u.testBit k) := hI
    rw [hd, List.countP_cons] at hI'
    show a < ((List.range 8).drop (x + 1)).countP (fun k => u.testBit k)
    by_cases q : u.testBit x = true
    · rw [if_pos q] at hg hI'
      by_cases z : acc = 0
      · rw [if_pos z] at hg
        cases hg
      · rw [if_neg z] at hg
        injection hg with hg
        omega
    · rw [if_neg q] at hg hI'
      injection hg with hg
      omega
  · have hI' : acc < ((List.range 8).drop (List.range 8).length).countP (fun k => u.testBit k) := hI
    rw [List.drop_length] at hI'
    exact absurd hI' (Nat.not_lt_zero _)
theorem xdraw {q m : Nat} (h : DrX σ q) (h0 : 0 < m) (hm : m < 1000) : X12_draw σ (nI m) = some (nI (nxt q / 8 % m), wI σ 11 0 25 (nI (nxt q))) := by
  have hq := h.2
  have hn := nxt_lt q
  have e1 : (((σ.1 11 0 25) * 2897) + 10529) - (((σ.1 11 0 25) * 2897) + 10529) / 65536 * 65536 = nI (nxt q) := by
    rw [h.1]
    show (nI q * nI 2897 + nI 10529) - (nI q * nI 2897 + nI 10529) / nI 65536 * nI 65536 = _
    rw [pk_mul, nI_add, pk_rem (by omega) (by decide) (by decide)]
    rfl
  have e2 : nI (nxt q) / 8 = nI (nxt q / 8) := pk_div (d := 8) (by omega) (by decide) (by decide)
  have e5 : nz (nI m) = some () := by
    unfold nz
    rw [if_neg (nI_ne0 h0 (by omega))]
  unfold X12_draw X12_draw_j0
  rw [e1, Option.bind_some, e5, Option.bind_some, wI_eq, e2, pk_rem (by omega) h0 (by omega)]
theorem RXV.draw (h : RXV σ n i c s p o L) (x : Int32) : RXV (wI σ 11 0 25 x) n i c s p o L := h.keep (P := fun k m j => k = 11 ∧ m = 0 ∧ j = 25) (Eqo.wI ⟨rfl, rfl, rfl⟩) (fun j q => by omega)
theorem RXS.draw (h : RXS σ n nk nu lo) (x : Int32) : RXS (wI σ 11 0 25 x) n nk nu lo := h.keep (P := fun k m j => k = 11 ∧ m = 0 ∧ j = 25) (Eqo.wI ⟨rfl, rfl, rfl⟩) (fun j q => by omega)
theorem RXS.keepO {τ : SS} (h : RXS σ n nk nu lo) (hE : Eqo XO σ τ) : RXS τ n nk nu lo := h.keep hE (fun j q => by unfold XO XC at q; omega)
theorem DrX.keep {τ : SS} {q : Nat} {P : Nat → Nat → Nat → Prop} (h : DrX σ q) (hE : Eqo P σ τ) (hP : ¬ P 11 0 25) : DrX τ q := ⟨by rw [hE.at1 hP]; exact h.1, h.2⟩
theorem xopens (hs : RXS σ n nk nu lo) (h : RXV σ n i c s p o L) {q : Nat} (hq : DrX σ q) : ∃ υ, X12_opens σ = some (nI (opens n nu (i &&& (255 ^^^ c)) q L).2.2, υ) ∧ Eqo XO σ υ ∧ RXV υ n i c s p (o + 1) (opens n nu (i &&& (255 ^^^ c)) q L).2.1 ∧ DrX υ (opens n nu (i &&& (255 ^^^ c)) q L).1 := by
  have h8 := hs.n8
  have hi := p256 h8 h.ilt
  have h1 := h.setO (o + 1)
  have hs1 : RXS (wI σ 13 34 7 (o + 1)) n nk nu lo := hs.keepV (Eqo.wI (by unfold XC; omega))
  have hq1 : DrX (wI σ 13 34 7 (o + 1)) q := hq.keep (P := XC) (Eqo.wI (by unfold XC; omega)) (by unfold XC; omega)
  have hE1 : Eqo XO σ (wI σ 13 34 7 (o + 1)) := Eqo.wI (.inl (by unfold XC; omega))
  have e0 : X12_opens σ = X12_opens_l15 (wI σ 13 34 7 (o + 1)) 0 0 := by
    unfold X12_opens X12_opens_j0
    rw [ck7, Option.bind_some, Option.bind_some, h.opn, Option.bind_some]
  rw [e0]
  unfold X12_opens_l15
  generalize wI σ 13 34 7 (o + 1) = σ1 at *
  have hun : i &&& (255 ^^^ c) < 2 ^ n := Nat.lt_of_le_of_lt Nat.and_le_left h.ilt
  have hui : Sub (i &&& (255 ^^^ c)) i := fun k hk => by
    rw [Nat.testBit_and, Bool.and_eq_true] at hk
    exact hk.1
  have hcr : ∀ {υ : SS} {L' : List X3}, RXV υ n i c s p (o + 1) L' → X12_crossable υ = some (nI (i &&& (255 ^^^ c))) := fun hh => xcrossable h8 hh
  generalize i &&& (255 ^^^ c) = u at *
  have hu8 := p256 h8 hun
  have key : ∃ t, iter X12_opens_l15b NF (0, 0, σ1) = some t ∧ t.1 = nI (opens n nu u q L).2.2 ∧ Eqo XO σ1 t.2 ∧ RXV t.2 n i c s p (o + 1) (opens n nu u q L).2.1 ∧ DrX t.2 (opens n nu u q L).1 := by
    refine iter_upto (fun k (st : Int32 × Int32 × SS) => k ≤ n ∧ st.2.1 = nI k ∧ st.1 = nI (opens k nu u q L).2.2 ∧ Eqo XO σ1 st.2.2 ∧ RXV st.2.2 n i c s p (o + 1) (opens k nu u q L).2.1 ∧ DrX st.2.2 (opens k nu u q L).1) n (fun (t : Int32 × SS) => t.1 = nI (opens n nu u q L).2.2 ∧ Eqo XO σ1 t.2 ∧ RXV t.2 n i c s p (o + 1) (opens n nu u q L).2.1 ∧ DrX t.2 (opens n nu u q L).1) (fun k st hk hI => ?_) (fun st hI => ?_) ⟨Nat.zero_le _, rfl, rfl, Eqo.rf _ _, h1, hq1⟩ (by omega)
    · left
      obtain ⟨x1, x2, υ⟩ := st
      obtain ⟨hkl, g1, g2, hE, hR, hD⟩ := hI
      simp only at g1 g2 hE hR hD
      subst g1
      subst g2
      have hsr : opens (k + 1) nu u q L = opS nu u (opens k nu u q L) k := by
        unfold opens
        rw [List.range_succ, List.foldl_append]
        rfl
      rw [hsr]
      have hs2 := hs1.keepO hE
      generalize opens k nu u q L = a at *
      obtain ⟨q', L', ct⟩ := a
      simp only at hR hD
      show ∃ s', X12_opens_l15c υ (nI ct) (nI k) = _ ∧ _
      unfold X12_opens_l15c X12_opens_j197 opS cbS
      rw [ck0, Option.bind_some, hs2.ln, if_neg (nI_ge hk (by omega)), hcr hR, Option.bind_some, xhas hu8 (by omega), Option.bind_some, v01]
      by_cases z : u.testBit k = true
      · rw [if_pos z, if_pos z]
        have hdr := xdraw hD (m := 16) (by decide) (by decide)
        have hdr' : X12_draw υ 16 = some (nI (nxt q' / 8 % 16), wI υ 11 0 25 (nI (nxt q'))) := hdr
        rw [hdr', Option.bind_some]
        have h2 := hR.draw (nI (nxt q'))
        have hs3 := hs2.draw (nI (nxt q'))
        have hq3 : DrX (wI υ 11 0 25 (nI (nxt q'))) (nxt q') := ⟨wI_eq _ _ _ _ _, nxt_lt q'⟩
        have hE3 : Eqo XO υ (wI υ 11 0 25 (nI (nxt q'))) := Eqo.wI (.inr (.inl ⟨rfl, rfl, rfl⟩))
        generalize wI υ 11 0 25 (nI (nxt q')) = τ at *
        have hr15 : risk nu k ≤ 15 := Nat.min_le_left _ _
        simp only
        rw [xriskOf hs3 hk, Option.bind_some]
        by_cases y : risk nu k ≤ nxt q' / 8 % 16
        · rw [if_neg (nI_nlt y (by omega)), if_pos y]
          exact ⟨_, by rw [nI_1]; rfl, hk, rfl, rfl, hE.tr hE3, h2, hq3⟩
        · rw [if_pos (nI_lt (by omega) (by omega)), if_neg y, hcr h2, Option.bind_some, xand u hu8 (by omega), Option.bind_some]
          have hv8 : u &&& (255 ^^^ 2 ^ k) < 256 := and_lt hu8
          have hvs : ∀ j, (u &&& (255 ^^^ 2 ^ k)).testBit j = true → u.testBit j = true ∧ j ≠ k := fun j hj => ⟨((and_not_tb (by omega)).mp hj).1, ((and_not_tb (by omega)).mp hj).2.1⟩
          generalize u &&& (255 ^^^ 2 ^ k) = v at *
          have hp8 := popc_le v
          by_cases w : popc v = 0
          · have hv0 : v = 0 := by
              apply Classical.byContradiction
              intro hne
              have := popc_lt hv8 (a := 0) (fun j hj => by rw [Nat.zero_testBit] at hj; cases hj) (fun z => hne z.symm)
              omega
            rw [if_pos (by rw [hv0]; rfl), if_pos w]
            exact ⟨_, by rw [Option.bind_some, nI_1], hk, rfl, rfl, hE.tr hE3, h2, hq3⟩
          · have w' := Nat.pos_of_ne_zero w
            have hv0 : v ≠ 0 := fun z => by rw [z, popc_0] at w'; omega
            rw [if_neg (nI_ne0 (Nat.pos_of_ne_zero hv0) (by omega)), if_neg w, xsizeOf hv8, Option.bind_some, xdraw hq3 w' (by omega), Option.bind_some]
            have h4 := h2.draw (nI (nxt (nxt q')))
            have hs4 := hs3.draw (nI (nxt (nxt q')))
            have hq4 : DrX (wI τ 11 0 25 (nI (nxt (nxt q')))) (nxt (nxt q')) := ⟨wI_eq _ _ _ _ _, nxt_lt _⟩
            have hE4 : Eqo XO τ (wI τ 11 0 25 (nI (nxt (nxt q')))) := Eqo.wI (.inr (.inl ⟨rfl, rfl, rfl⟩))
            generalize wI τ 11 0 25 (nI (nxt (nxt q'))) = τ4 at *
            have hlt := Nat.mod_lt (nxt (nxt q') / 8) w'
            have hmm := xmember τ4 (nI ct) (nI k) hv8 hlt
            obtain ⟨-, hmb, hm8⟩ := memF_ok (s := v) hlt
            generalize memF v (nxt (nxt q') / 8 % popc v) = x at *
            obtain ⟨hxu, hxk⟩ := hvs x hmb
            have hxn : x < n := Classical.byContradiction fun w => by
              rw [tb_out hun (by omega)] at hxu
              cases hxu
            have hL24 := h4.l24
            simp only
            unfold X12_opens_l84
            have hmm' : iter (X12_opens_l84b τ4 (nI ct) (nI k) (nI v)) NF (nI (nxt (nxt q') / 8 % popc v), 0) = some (nI x) := hmm
            rw [hmm', Option.bind_some, ck1, Option.bind_some, h4.len]
            by_cases y4 : L'.length < 24
            · rw [if_neg (show ¬ nI L'.length = 24 from fun z => by have := (nI_eq (b := 24) (by omega) (by decide)).mp z; omega), if_pos y4]
              obtain ⟨ω, e9, hE9, hR9⟩ := xcrosses h8 h4 y4 hk hxn (fun z => hxk z.symm) (w := wS nu k x) (by unfold wS; split <;> decide) (hui k z) (hui x hxu)
              have w1 := hs4.wf.le (w := 1) hxn (by decide)
              have w2 := hs4.wf.le (w := 2) hk (by decide)
              have w3 := hs4.wf.le (w := 3) hk (by decide)
              have g24 : ck (LN 13 34) (24 + nI k) = some (8 + 8 * 2 + k) := by
                show ck (LN 13 34) (nI 24 + nI k) = _
                rw [nI_add]
                exact ckc (by omega)
              have g32 : ck (LN 13 34) (32 + nI k) = some (8 + 8 * 3 + k) := by
                show ck (LN 13 34) (nI 32 + nI k) = _
                rw [nI_add]
                exact ckc (by omega)
              have g16 : ck (LN 13 34) (16 + nI x) = some (8 + 8 * 1 + x) := by
                show ck (LN 13 34) (nI 16 + nI x) = _
                rw [nI_add]
                exact ckc (by omega)
              have e99 : (imin 9 (nI (nu 1 x) + 2)) = nI (min 9 (nu 1 x + 2)) := by
                show imin (nI 9) (nI (nu 1 x) + nI 2) = _
                rw [nI_add, imin_nI (by decide) (by omega)]
              have ews : (if nI (min 9 (nu 1 x + 2)) ≤ nI (min (nu 2 k) (nu 3 k)) then (0 : Int32) else 1) = nI (wS nu k x) := by
                unfold wS
                by_cases g : min 9 (nu 1 x + 2) ≤ min (nu 2 k) (nu 3 k)
                · rw [if_pos (nI_le g (by omega)), if_neg (by omega)]; rfl
                · rw [if_neg (nI_ge (by omega) (by omega)), if_pos (by omega)]; rfl
              unfold X12_opens_j191
              rw [g24, Option.bind_some, g32, Option.bind_some, hs4.gn (w := 2) (by decide) hk, hs4.gn (w := 3) (by decide) hk, imin_nI (by omega) (by omega), Option.bind_some, g16, Option.bind_some, hs4.gn (w := 1) (by decide) hxn, e99, ews, e9, Option.bind_some, Option.bind_some]
              unfold X12_opens_j197
              exact ⟨_, by rw [Option.bind_some, nI_1, nI_1], hk, rfl, rfl, ((hE.tr hE3).tr hE4).tr (XD_XO hE9), hR9, hq4.keep hE9 (by unfold XD; omega)⟩
            · have y5 : L'.length = 24 := by omega
              rw [if_pos (by rw [y5]; rfl), if_neg y4]
              unfold X12_opens_j197
              exact ⟨_, by rw [Option.bind_some, nI_1], hk, rfl, rfl, (hE.tr hE3).tr hE4, h4, hq4⟩
      · rw [if_neg z, if_neg z]
        exact ⟨_, by rw [nI_1]; rfl, hk, rfl, rfl, hE, hR, hD⟩
    · obtain ⟨x1, x2, υ⟩ := st
      obtain ⟨hkl, g1, g2, hE, hR, hD⟩ := hI
      simp only at g1 g2 hE hR hD
      subst g1
      have hs2 := hs1.keepO hE
      refine ⟨(x1, υ), ?_, g2, hE, hR, hD⟩
      show X12_opens_l15c υ x1 (nI n) = _
      unfold X12_opens_l15c
      rw [ck0, Option.bind_some, hs2.ln, if_pos (nI_le (Nat.le_refl _) (by omega))]
  obtain ⟨t, e, g1, hE, hR, hD⟩ := key
  rw [e, Option.bind_some]
  exact ⟨t.2, by rw [g1], hE1.tr hE, hR, hD⟩
end D6
