/-! ===== pour, copyStates, feed ===== -/
def pvF (sr ds : Nat → Nat) : Nat → (Nat → Int64) → Nat → Int64
  | 0, f => f
  | k + 1, f => fun x => if x = ds k then pvF sr ds k f (sr k) else pvF sr ds k f x
theorem pv_agree {sr ds : Nat → Nat} {V : Nat → Prop} : ∀ (N : Nat) (f g : Nat → Int64), (∀ k, k < N → V (sr k)) → (∀ x, V x → f x = g x) → ∀ x, V x → pvF sr ds N f x = pvF sr ds N g x := by
  intro N
  induction N with
  | zero => intro f g _ h x hx; exact h x hx
  | succ N ih =>
    intro f g hs h x hx
    have h1 := ih f g (fun k hk => hs k (by omega)) h
    unfold pvF
    split
    · exact h1 _ (hs N (by omega))
    · exact h1 x hx
theorem pv_out {sr ds : Nat → Nat} : ∀ (N : Nat) (f : Nat → Int64) (x : Nat), (∀ k, k < N → x ≠ ds k) → pvF sr ds N f x = f x := by
  intro N
  induction N with
  | zero => intro f x _; rfl
  | succ N ih =>
    intro f x h
    unfold pvF
    rw [if_neg (h N (by omega))]
    exact ih f x (fun k hk => h k (by omega))
theorem pv_prop {sr ds : Nat → Nat} {V : Nat → Prop} {Q : Int64 → Prop} : ∀ (N : Nat) (f : Nat → Int64), (∀ k, k < N → V (sr k)) → (∀ x, V x → Q (f x)) → ∀ x, V x → Q (pvF sr ds N f x) := by
  intro N
  induction N with
  | zero => intro f _ h x hx; exact h x hx
  | succ N ih =>
    intro f hs h x hx
    have h1 := ih f (fun k hk => hs k (by omega)) h
    unfold pvF
    split
    · exact h1 _ (hs N (by omega))
    · exact h1 x hx
section PO
variable {σ : SS}
/-- a tray that is there -/
def Th (σ : SS) (t m so : Nat) : Prop := t < 4 ∧ m ≤ 60 ∧ so ≤ 3 ∧ σ.1 13 20 (8 + t) = 1 ∧ σ.1 13 20 t = nI m ∧ σ.1 13 33 t = nI m ∧ σ.1 13 20 (4 + t) = nI so ∧ σ.1 13 32 t = nI so
theorem th_or (h : RT σ) {t : Nat} (ht : t < 4) : (X6_isThere σ (nI t) = some 0 ∧ σ.1 13 33 t = -1) ∨ ∃ m so, X6_isThere σ (nI t) = some 1 ∧ Th σ t m so ∧ ∀ j, j < m → σ.2 14 5 (60 * t + j) = σ.2 14 6 (60 * t + j) ∧ cutv so (σ.2 14 5 (60 * t + j)) = σ.2 14 5 (60 * t + j) := by
  rcases h t ht with ⟨a, b⟩ | ⟨a, m, so, h1, h2, h3, h4, h5, h6, h7⟩
  · left
    refine ⟨?_, b⟩
    unfold X6_isThere X6_isThere_j0
    rw [fa_at2 σ ht, Option.bind_some, a, if_neg (by decide)]
  · right
    refine ⟨m, so, ?_, ⟨ht, h1, h2, a, h3, h4, h5, h6⟩, h7⟩
    unfold X6_isThere X6_isThere_j0
    rw [fa_at2 σ ht, Option.bind_some, a, if_pos rfl]
theorem holds_eq {t m so : Nat} (h : Th σ t m so) {x : Int32} {q : Nat} (hq : q < 2 ^ 31) : X6_holds σ (nI t) x (nI q) = some (@ite Int32 (∃ a : Nat, x = nI a ∧ a < 2 ^ 31 ∧ a + q ≤ m) (Classical.propDecidable _) 1 0) := by
  obtain ⟨ht, hm, hso, -, h3, -⟩ := h
  unfold X6_holds X6_holds_j0
  by_cases q0 : x < 0
  · rw [if_pos q0, if_neg]
    rintro ⟨a, rfl, ha, -⟩
    exact nI_pos ha q0
  · obtain ⟨a, ha, rfl⟩ := nI_of q0
    rw [if_neg q0, if_neg (nI_pos hq), fa_at0 σ ht, Option.bind_some, h3]
    have e : (nI m - nI q).toInt = (m : Int) - q := by
      rw [Int32.toInt_sub, nI_toInt (by omega), nI_toInt hq]
      exact Int.bmod_eq_of_le (by omega) (by omega)
    by_cases z : a + q ≤ m
    · rw [if_neg (fun y => by
        have := Int32.lt_iff_toInt_lt.mp y
        rw [e, nI_toInt ha] at this
        omega), if_pos ⟨a, rfl, ha, z⟩]
    · rw [if_pos (by
        apply Int32.lt_iff_toInt_lt.mpr
        rw [e, nI_toInt ha]
        omega), if_neg (by
        rintro ⟨b, hb, hb2, hb3⟩
        have : a = b := (nI_eq ha hb2).mp hb
        omega)]
theorem cmp_nat {a b : Nat} (ha : a < 2 ^ 62) (hb : b < 2 ^ 62) : (0 < lg_cmp (lN a) (lN b) ↔ b < a) ∧ (lg_cmp (lN a) (lN b) ≤ 0 ↔ a ≤ b) := by
  rw [lg_cmp_gt, lg_cmp_le, Int64.lt_iff_toInt_lt, Int64.le_iff_toInt_le, lN64 (by omega), lN64 (by omega)]
  omega
theorem op_pour (a i b j e : Int32) (h : RT σ) : OR3 PT σ (fun σ => X11_pour σ a i b j e) (fun σ => X12_pour σ a i b j e) RT := by
  have hC : ∀ τ, Eqo PS σ τ → RT τ := fun τ hE => h.ps hE
  have hP : ∀ k n j, PS k n j → PT k n j := fun _ _ _ q => .inl q
  have cbad : ∀ w, w ≠ 0 → X11_pour_j114 σ a i b j e w = some (0, wI σ 10 0 11 w) := fun w hw => by
    unfold X11_pour_j114
    rw [answersN _ hw, Option.bind_some, if_pos rfl]
  have x33 : ∀ w t, (s0 σ w).1 13 33 t = σ.1 13 33 t := fun w t => (s0_ps σ w).at1 (by unfold PS; omega)
  have x32 : ∀ w t, (s0 σ w).1 13 32 t = σ.1 13 32 t := fun w t => (s0_ps σ w).at1 (by unfold PS; omega)
  have n1 : ∀ w, (X12_pour_j28 (s0 σ w)) = some (0, wI (s0 σ w) 11 0 0 1) := fun w => rfl
  have n3 : ∀ w, (X12_pour_j52 (s0 σ w)) = some (0, wI (s0 σ w) 11 0 0 3) := fun w => rfl
  have n4 : ∀ w, (X12_pour_j136 (s0 σ w)) = some (0, wI (s0 σ w) 11 0 0 4) := fun w => rfl
  rcases lt_or a 4 (by decide) with ⟨t, ht, rfl⟩ | ⟨ha, hn⟩
  · have a0 : ¬ nI t < 0 := nI_pos (by omega)
    have a4 : ¬ (4 : Int32) ≤ nI t := nI_ge (b := 4) ht (by decide)
    rcases lt_or b 4 (by decide) with ⟨u, hu, rfl⟩ | ⟨hb, hnb⟩
    · have b0 : ¬ nI u < 0 := nI_pos (by omega)
      have b4 : nI u < (4 : Int32) := nI_lt (b := 4) hu (by decide)
      rcases th_or h ht with ⟨h1, h2⟩ | ⟨m, so, h1, hT, hv⟩
      · refine refP hC hP 3 0 ?_ ?_
        · show X11_pour σ (nI t) i (nI u) j e = _
          unfold X11_pour X11_pour_j0 X11_pour_j49
          rw [isNum_in σ ht, Option.bind_some, if_neg neg1_0, isNum_in σ hu, Option.bind_some, if_neg neg1_0, h1, Option.bind_some, if_pos rfl, cbad 3 (by decide)]
        · show X12_pour (wI σ 10 0 11 3) (nI t) i (nI u) j e = _
          unfold X12_pour X12_pour_j0
          rw [Option.bind_some, Option.bind_some, s0e, if_neg a0, if_neg a4, if_neg b0, if_pos b4, ck33 ht, Option.bind_some, x33, h2, if_pos (by decide), n3]
      · rcases th_or h hu with ⟨g1, g2⟩ | ⟨m', so', g1, gT, gv⟩
        · refine refP hC hP 3 0 ?_ ?_
          · show X11_pour σ (nI t) i (nI u) j e = _
            unfold X11_pour X11_pour_j0 X11_pour_j49
            rw [isNum_in σ ht, Option.bind_some, if_neg neg1_0, isNum_in σ hu, Option.bind_some, if_neg neg1_0, h1, Option.bind_some, if_neg neg1_0, g1, Option.bind_some, if_pos rfl, cbad 3 (by decide)]
          · show X12_pour (wI σ 10 0 11 3) (nI t) i (nI u) j e = _
            unfold X12_pour X12_pour_j0
            rw [Option.bind_some, Option.bind_some, s0e, if_neg a0, if_neg a4, if_neg b0, if_pos b4, ck33 ht, Option.bind_some, x33, hT.2.2.2.2.2.1, if_neg (nI_pos (by have := hT.2.1; omega)), ck33 hu, Option.bind_some, x33, g2, if_neg (by decide), n3]
        · have hm := hT.2.1
          have hm' := gT.2.1
          have hso := hT.2.2.1
          have hso' := gT.2.2.1
          have ealike : X6_alike σ (nI t) (nI u) = some (if so = so' then 1 else 0) := by
            unfold X6_alike X6_alike_j0
            rw [fa_at1 σ ht, Option.bind_some, fa_at1 σ hu, Option.bind_some, hT.2.2.2.2.2.2.1, gT.2.2.2.2.2.2.1]
            by_cases z : so = so'
            · rw [if_pos (by rw [z]), if_pos z]
            · rw [if_neg (fun y => z ((nI_eq (by omega) (by omega)).mp y)), if_neg z]
          have cl : X11_pour σ (nI t) i (nI u) j e = if so = so' then (if 0 ≤ e then ((X6_holds σ (nI t) i e).bind fun v88 => if v88 = 0 then (X11_pour_j109 σ (nI t) i (nI u) j e) else ((X6_holds σ (nI u) j e).bind fun v103 => if v103 = 0 then (X11_pour_j109 σ (nI t) i (nI u) j e) else (X11_pour_j114 σ (nI t) i (nI u) j e 0))) else (X11_pour_j114 σ (nI t) i (nI u) j e 6)) else X11_pour_j114 σ (nI t) i (nI u) j e 11 := by
            unfold X11_pour X11_pour_j0
            rw [isNum_in σ ht, Option.bind_some, if_neg neg1_0, isNum_in σ hu, Option.bind_some, if_neg neg1_0, h1, Option.bind_some, if_neg neg1_0, g1, Option.bind_some, if_neg neg1_0, ealike, Option.bind_some, v01]
          have rf : ∀ υ, (υ.1 13 33 t = nI m ∧ υ.1 13 33 u = nI m' ∧ υ.1 13 32 t = nI so ∧ υ.1 13 32 u = nI so') → X12_pour υ (nI t) i (nI u) j e = if so = so' then (if 0 ≤ e then (if i < 0 then (X12_pour_j136 (xb υ)) else (if j < 0 then (X12_pour_j136 (xb υ)) else (if 0 < (lg_cmp ((Int32.toInt64 i) + (Int32.toInt64 e)) (lN m)) then (X12_pour_j136 (xb υ)) else (if (lg_cmp ((Int32.toInt64 j) + (Int32.toInt64 e)) (lN m')) ≤ 0 then (X12_pour_j153 (xb υ) (nI t) i (nI u) j e (if j ≤ i then 0 else 1)) else (X12_pour_j136 (xb υ)))))) else some (0, wI (xb υ) 11 0 0 6)) else some (0, wI (xb υ) 11 0 0 11) := fun υ hυ => by
            obtain ⟨y1, y2, y3, y4⟩ := hυ
            have q33 : ∀ t, (xb υ).1 13 33 t = υ.1 13 33 t := fun t => (xb_ps υ).at1 (by unfold PS; omega)
            have q32 : ∀ t, (xb υ).1 13 32 t = υ.1 13 32 t := fun t => (xb_ps υ).at1 (by unfold PS; omega)
            unfold X12_pour X12_pour_j0
            rw [Option.bind_some, Option.bind_some, if_neg a0, if_neg a4, if_neg b0, if_pos b4, ck33 ht, Option.bind_some]
            show (if (xb υ).1 13 33 t < 0 then _ else _) = _
            rw [q33, y1, if_neg (nI_pos (by omega)), ck33 hu, Option.bind_some]
            show (if 0 ≤ (xb υ).1 13 33 u then _ else _) = _
            rw [q33, y2, if_pos (nI_pos' (by omega)), ck32 ht, Option.bind_some, ck32 hu, Option.bind_some]
            show (if (xb υ).1 13 32 t = (xb υ).1 13 32 u then _ else _) = _
            rw [q32, q32, y3, y4]
            by_cases z : so = so'
            · rw [if_pos (by rw [z]), if_pos z, Option.bind_some, Option.bind_some]
              show (if 0 ≤ e then (if i < 0 then X12_pour_j136 (xb υ) else if j < 0 then X12_pour_j136 (xb υ) else if 0 < lg_cmp (Int32.toInt64 i + Int32.toInt64 e) (Int32.toInt64 ((xb υ).1 13 33 t)) then X12_pour_j136 (xb υ) else if lg_cmp (Int32.toInt64 j + Int32.toInt64 e) (Int32.toInt64 ((xb υ).1 13 33 u)) ≤ 0 then X12_pour_j153 (xb υ) (nI t) i (nI u) j e (if j ≤ i then 0 else 1) else X12_pour_j136 (xb υ)) else _) = _
              rw [q33, q33, y1, y2, nI_l (by omega), nI_l (by omega)]
              try rfl
            · rw [if_neg (fun y => z ((nI_eq (by omega) (by omega)).mp y)), if_neg z]
              rfl
          have rf0 : ∀ w, ((wI σ 10 0 11 w).1 13 33 t = nI m ∧ (wI σ 10 0 11 w).1 13 33 u = nI m' ∧ (wI σ 10 0 11 w).1 13 32 t = nI so ∧ (wI σ 10 0 11 w).1 13 32 u = nI so') := fun w => by
            rw [wI_ne _ _ (by omega), wI_ne _ _ (by omega), wI_ne _ _ (by omega), wI_ne _ _ (by omega)]
            exact ⟨hT.2.2.2.2.2.1, gT.2.2.2.2.2.1, hT.2.2.2.2.2.2.2, gT.2.2.2.2.2.2.2⟩
          by_cases z : so = so'
          · rw [if_pos z] at cl
            by_cases e0 : 0 ≤ e
            · rw [if_pos e0] at cl
              obtain ⟨q, hq, rfl⟩ := nI_of (Int32.not_lt.mpr e0)
              rw [holds_eq hT hq, Option.bind_some, @v01 _ (Classical.propDecidable _) _ _ _, holds_eq gT hq, Option.bind_some, @v01 _ (Classical.propDecidable _) _ _ _] at cl
              by_cases c1 : ∃ x : Nat, i = nI x ∧ x < 2 ^ 31 ∧ x + q ≤ m
              · by_cases c2 : ∃ x : Nat, j = nI x ∧ x < 2 ^ 31 ∧ x + q ≤ m'
                · rw [if_pos c1, if_pos c2] at cl
                  obtain ⟨x, rfl, hx1, hx2⟩ := c1
                  obtain ⟨y, rfl, hy1, hy2⟩ := c2
                  subst z
                  -- the source and the end of each step
                  let ks : Nat → Nat := fun k => if y ≤ x then k else q - 1 - k
                  let sr : Nat → Nat := fun k => 60 * t + (x + ks k)
                  let ds : Nat → Nat := fun k => 60 * u + (y + ks k)
                  have hks : ∀ k, k < q → ks k < q := fun k hk => by
                    show (if y ≤ x then k else q - 1 - k) < q
                    split <;> omega
                  obtain ⟨b1, υ, e1, k1, k2, kE⟩ := loopI (f := X6_move_l16b (nI t) (nI x) (nI u) (nI y) (nI q) (if nI x < nI y then 0 else 1)) (s := (0, wI σ 10 0 11 0)) q (fun k (_ : Unit) (w : SS) => ((nI k, w) : Int32 × SS)) (fun _ w => w) (fun k _ w => (∀ v, w.2 14 5 v = pvF sr ds k (σ.2 14 5) v) ∧ k ≤ q ∧ Eqo (fun k n _ => k = 14 ∧ n = 5) (wI σ 10 0 11 0) w) () (wI σ 10 0 11 0) rfl ⟨fun v => rfl, Nat.zero_le _, Eqo.rf _ _⟩ (by omega) (fun k bb w hk hI => by
                    obtain ⟨k1, k2, kE⟩ := hI
                    have hkk := hks k hk
                    have ek : (if (if nI x < nI y then (0 : Int32) else 1) = 0 then nI q - 1 - nI k else nI k) = nI (ks k) := by
                      show _ = nI (if y ≤ x then k else q - 1 - k)
                      by_cases yx : y ≤ x
                      · rw [if_neg (nI_nlt yx hx1), if_neg neg1_0, if_pos yx]
                      · rw [if_pos (nI_lt (by omega) hy1), if_pos rfl, if_neg yx, nI_sub1 (by omega), nI_subN (by omega)]
                    have w20 : ∀ j, w.1 13 20 j = σ.1 13 20 j := fun j => by
                      rw [kE.at1 (by omega), wI_ne _ _ (by omega)]
                    show ∃ b' w', X6_move_l16c w (nI t) (nI x) (nI u) (nI y) (nI q) (if nI x < nI y then 0 else 1) (nI k) = _ ∧ _
                    unfold X6_move_l16c X6_move_j40
                    rw [if_neg (nI_ge hk hq), ek, nI_add, nI_add, at_in ht (show x + ks k < m by omega) hm (by rw [w20]; exact hT.2.2.2.2.1), Option.bind_some, put_in hu (show y + ks k < m' by omega) hm' (by rw [w20]; exact gT.2.2.2.2.1) (by rw [w20]; exact gT.2.2.2.2.2.2.1) hso', Option.bind_some, nI_1, Option.bind_some]
                    have hcut : cutv so (w.2 14 5 (60 * t + (x + ks k))) = w.2 14 5 (60 * t + (x + ks k)) := by
                      rw [k1]
                      have hV := pv_prop (sr := sr) (ds := ds) (V := fun v => (60 * t ≤ v ∧ v < 60 * t + m) ∨ (60 * u ≤ v ∧ v < 60 * u + m')) (Q := fun v => cutv so v = v) k (σ.2 14 5) (fun k' hk' => by
                        have := hks k' (by omega)
                        left
                        show 60 * t ≤ 60 * t + (x + ks k') ∧ 60 * t + (x + ks k') < 60 * t + m
                        omega) (fun v hv' => by
                        rcases hv' with hv' | hv'
                        · have := (hv (v - 60 * t) (by omega)).2
                          rwa [show 60 * t + (v - 60 * t) = v by omega] at this
                        · have := (gv (v - 60 * u) (by omega)).2
                          rwa [show 60 * u + (v - 60 * u) = v by omega] at this)
                      exact hV _ (.inl (by omega))
                    rw [hcut]
                    refine ⟨(), _, rfl, fun v => ?_, by omega, kE.tr (Eqo.wJ ⟨rfl, rfl⟩)⟩
                    rw [wJ_row]
                    show (if v = 60 * u + (y + ks k) then w.2 14 5 (60 * t + (x + ks k)) else w.2 14 5 v) = (if v = ds k then pvF sr ds k (σ.2 14 5) (sr k) else pvF sr ds k (σ.2 14 5) v)
                    rw [k1, k1]) (fun bb w hI => by
                    show X6_move_l16c w (nI t) (nI x) (nI u) (nI y) (nI q) (if nI x < nI y then 0 else 1) (nI q) = _
                    unfold X6_move_l16c
                    rw [if_pos (nI_le (Nat.le_refl _) hq)])
                  have hE1 : Eqo PT σ υ := (PS_PT (ps1 σ 0)).tr (kE.mono (fun k n j q => .inr (.inr ⟨q.1, .inl q.2⟩)))
                  have hE2 := hE1.tr (PS_PT (xb_ps υ))
                  have u6 : ∀ v, (xb υ).2 14 6 v = σ.2 14 6 v := fun v => by
                    show υ.2 14 6 v = _
                    rw [kE.2 _ _ _ (by omega)]
                    rfl
                  obtain ⟨b2, τ, e2, l1, l2, lE⟩ := loopI (f := X12_pour_l158b (nI t) (nI x) (nI u) (nI y) (nI q) (if nI y ≤ nI x then 0 else 1)) (s := (0, xb υ)) q (fun k (_ : Unit) (w : SS) => ((nI k, w) : Int32 × SS)) (fun _ w => w) (fun k _ w => (∀ v, w.2 14 6 v = pvF sr ds k (σ.2 14 6) v) ∧ k ≤ q ∧ Eqo (fun k n _ => k = 14 ∧ n = 6) (xb υ) w) () (xb υ) rfl ⟨u6, Nat.zero_le _, Eqo.rf _ _⟩ (by omega) (fun k bb w hk hI => by
                    obtain ⟨l1, l2, lE⟩ := hI
                    have hkk := hks k hk
                    have ek : (if (if nI y ≤ nI x then (0 : Int32) else 1) = 0 then nI k else nI q - 1 - nI k) = nI (ks k) := by
                      show _ = nI (if y ≤ x then k else q - 1 - k)
                      by_cases yx : y ≤ x
                      · rw [if_pos (nI_le yx hx1), if_pos rfl, if_pos yx]
                      · rw [if_neg (nI_ge (by omega) hy1), if_neg neg1_0, if_neg yx, nI_sub1 (by omega), nI_subN (by omega)]
                    have ix : ∀ t' x', t' < 4 → x' < 60 → ∀ k', x' + k' < 60 → ck (LN 14 6) (((60 * nI t') + nI x') + nI k') = some (60 * t' + (x' + k')) := fun t' x' h1 h2 k' h3 => by
                      have := ck14 h1 h3
                      rw [← nI_add] at this
                      rw [← this]
                      congr 1
                      rw [Int32.add_assoc]
                    show ∃ b' w', X12_pour_l158c w (nI t) (nI x) (nI u) (nI y) (nI q) (if nI y ≤ nI x then 0 else 1) (nI k) = _ ∧ _
                    unfold X12_pour_l158c X12_pour_j182
                    rw [if_neg (nI_ge hk hq), ek, ix t x ht (by omega) (ks k) (by omega), Option.bind_some, ix u y hu (by omega) (ks k) (by omega), Option.bind_some, Option.bind_some, nI_1, Option.bind_some]
                    refine ⟨(), _, rfl, fun v => ?_, by omega, lE.tr (Eqo.wJ ⟨rfl, rfl⟩)⟩
                    rw [wJ_row]
                    show (if v = 60 * u + (y + ks k) then w.2 14 6 (60 * t + (x + ks k)) else w.2 14 6 v) = (if v = ds k then pvF sr ds k (σ.2 14 6) (sr k) else pvF sr ds k (σ.2 14 6) v)
                    rw [l1, l1]) (fun bb w hI => by
                    show X12_pour_l158c w (nI t) (nI x) (nI u) (nI y) (nI q) (if nI y ≤ nI x then 0 else 1) (nI q) = _
                    unfold X12_pour_l158c
                    rw [if_pos (nI_le (Nat.le_refl _) hq)])
                  have hE3 : Eqo PT (xb υ) τ := lE.mono (fun k n j q => .inr (.inr ⟨q.1, .inr q.2⟩))
                  have t5 : ∀ v, τ.2 14 5 v = pvF sr ds q (σ.2 14 5) v := fun v => by
                    rw [lE.2 _ _ _ (by omega)]
                    exact k1 v
                  have tc : ∀ n j, (n = 20 ∨ n = 32 ∨ n = 33) → τ.1 13 n j = σ.1 13 n j := fun n j hn => by
                    rw [lE.at1 (by omega), (xb_ps υ).at1 (by unfold PS; omega), kE.at1 (by omega), wI_ne _ _ (by omega)]
                  refine ⟨1, υ, τ, ?_, ?_, ?_, hE2.tr hE3, fun t' ht' => ?_⟩
                  · show X11_pour σ (nI t) (nI x) (nI u) (nI y) (nI q) = _
                    rw [cl]
                    unfold X11_pour_j114 X6_move X6_move_j0 X6_move_j11 X6_move_l16
                    rw [answers0, Option.bind_some, if_neg neg1_0]
                    simp only
                    rw [e1, Option.bind_some, Option.bind_some, if_neg neg1_0]
                  · show X12_pour υ (nI t) (nI x) (nI u) (nI y) (nI q) = _
                    have hcells : υ.1 13 33 t = nI m ∧ υ.1 13 33 u = nI m' ∧ υ.1 13 32 t = nI so ∧ υ.1 13 32 u = nI so := by
                      obtain ⟨y1, y2, y3, y4⟩ := rf0 0
                      rw [kE.at1 (by omega), kE.at1 (by omega), kE.at1 (by omega), kE.at1 (by omega)]
                      exact ⟨y1, y2, y3, y4⟩
                    have ii1 := (cmp_nat (a := x + q) (b := m) (by omega) (by omega)).1
                    have ii2 := (cmp_nat (a := y + q) (b := m') (by omega) (by omega)).2
                    rw [rf υ hcells, if_pos rfl, if_pos e0, if_neg (nI_pos hx1), if_neg (nI_pos hy1), nI_l hx1, nI_l hq, lN_add, if_neg (fun y => by have := ii1.mp y; omega), nI_l hy1, lN_add, if_pos (ii2.mpr hy2)]
                    unfold X12_pour_j153 X12_pour_l158
                    rw [e2, Option.bind_some]
                  · have g3 : υ.1 10 0 11 = 0 := by rw [kE.at1 (by omega), wI_eq]
                    have g4 := xb_st g3
                    unfold St at g4 ⊢
                    rw [lE.at1 (by omega), lE.at1 (by omega)]
                    exact g4
                  · rcases h t' ht' with ⟨x1, x2⟩ | ⟨x1, m2, so2, k1', k2', k3, k4, k5, k6, k7⟩
                    · left
                      rw [tc _ _ (.inl rfl), tc _ _ (.inr (.inr rfl))]
                      exact ⟨x1, x2⟩
                    · right
                      refine ⟨by rw [tc _ _ (.inl rfl)]; exact x1, m2, so2, k1', k2', by rw [tc _ _ (.inl rfl)]; exact k3, by rw [tc _ _ (.inr (.inr rfl))]; exact k4, by rw [tc _ _ (.inl rfl)]; exact k5, by rw [tc _ _ (.inr (.inl rfl))]; exact k6, fun jj hj => ?_⟩
                      have hag := pv_agree (sr := sr) (ds := ds) (V := fun v => ((60 * t ≤ v ∧ v < 60 * t + m) ∨ (60 * u ≤ v ∧ v < 60 * u + m')) ∨ (60 * t' ≤ v ∧ v < 60 * t' + m2)) q (σ.2 14 5) (σ.2 14 6) (fun k' hk' => by
                        have := hks k' hk'
                        left; left
                        show 60 * t ≤ 60 * t + (x + ks k') ∧ 60 * t + (x + ks k') < 60 * t + m
                        omega) (fun v hv' => by
                        rcases hv' with (hv' | hv') | hv'
                        · have := (hv (v - 60 * t) (by omega)).1
                          rwa [show 60 * t + (v - 60 * t) = v by omega] at this
                        · have := (gv (v - 60 * u) (by omega)).1
                          rwa [show 60 * u + (v - 60 * u) = v by omega] at this
                        · have := (k7 (v - 60 * t') (by omega)).1
                          rwa [show 60 * t' + (v - 60 * t') = v by omega] at this) (60 * t' + jj) (.inr (by omega))
                      rw [t5, l1]
                      refine ⟨hag, ?_⟩
                      by_cases zu : t' = u
                      · subst zu
                        have hmm : m2 = m' := by
                          have := gT.2.2.2.2.1
                          rw [k3] at this
                          exact (nI_eq (by omega) (by omega)).mp this
                        have hss : so2 = so := by
                          have := gT.2.2.2.2.2.2.1
                          rw [k5] at this
                          exact (nI_eq (by omega) (by omega)).mp this
                        rw [hss]
                        have hV := pv_prop (sr := sr) (ds := ds) (V := fun v => (60 * t ≤ v ∧ v < 60 * t + m) ∨ (60 * t' ≤ v ∧ v < 60 * t' + m')) (Q := fun v => cutv so v = v) q (σ.2 14 5) (fun k' hk' => by
                          have := hks k' hk'
                          left
                          show 60 * t ≤ 60 * t + (x + ks k') ∧ 60 * t + (x + ks k') < 60 * t + m
                          omega) (fun v hv' => by
                          rcases hv' with hv' | hv'
                          · have := (hv (v - 60 * t) (by omega)).2
                            rwa [show 60 * t + (v - 60 * t) = v by omega] at this
                          · have := (gv (v - 60 * t') (by omega)).2
                            rwa [show 60 * t' + (v - 60 * t') = v by omega] at this)
                        exact hV _ (.inr (by omega))
                      · rw [pv_out q (σ.2 14 5) (60 * t' + jj) (fun k' hk' => by
                          have := hks k' hk'
                          show 60 * t' + jj ≠ 60 * u + (y + ks k')
                          omega)]
                        exact (k7 jj hj).2
                · rw [if_pos c1, if_neg c2] at cl
                  refine refP hC hP 4 0 ?_ ?_
                  · show X11_pour σ (nI t) i (nI u) j (nI q) = _
                    rw [cl]
                    unfold X11_pour_j109
                    exact cbad 4 (by decide)
                  · show X12_pour (wI σ 10 0 11 4) (nI t) i (nI u) j (nI q) = _
                    obtain ⟨x, rfl, hx1, hx2⟩ := c1
                    have ii1 := (cmp_nat (a := x + q) (b := m) (by omega) (by omega)).1
                    rw [rf _ (rf0 4), if_pos z, if_pos e0, if_neg (nI_pos hx1), nI_l hx1, nI_l hq, lN_add]
                    by_cases j0 : j < 0
                    · rw [if_pos j0]
                      exact n4 4
                    · obtain ⟨y, hy, rfl⟩ := nI_of j0
                      have ii2 := (cmp_nat (a := y + q) (b := m') (by omega) (by omega)).2
                      rw [if_neg j0, if_neg (fun y => by have := ii1.mp y; omega), nI_l hy, lN_add, if_neg (fun w => c2 ⟨y, rfl, hy, ii2.mp w⟩)]
                      exact n4 4
              · rw [if_neg c1] at cl
                refine refP hC hP 4 0 ?_ ?_
                · show X11_pour σ (nI t) i (nI u) j (nI q) = _
                  rw [cl]
                  unfold X11_pour_j109
                  exact cbad 4 (by decide)
                · show X12_pour (wI σ 10 0 11 4) (nI t) i (nI u) j (nI q) = _
                  rw [rf _ (rf0 4), if_pos z, if_pos e0]
                  by_cases i0 : i < 0
                  · rw [if_pos i0]
                    exact n4 4
                  · obtain ⟨x, hx, rfl⟩ := nI_of i0
                    have ii1 := (cmp_nat (a := x + q) (b := m) (by omega) (by omega)).1
                    have hgt : m < x + q := by
                      rcases Nat.lt_or_ge m (x + q) with w | w
                      · exact w
                      · exact absurd ⟨x, rfl, hx, w⟩ c1
                    rw [if_neg i0, nI_l hx, nI_l hq, lN_add]
                    by_cases j0 : j < 0
                    · rw [if_pos j0]
                      exact n4 4
                    · rw [if_neg j0, if_pos (ii1.mpr hgt)]
                      exact n4 4
            · rw [if_neg e0] at cl
              refine refP hC hP 6 0 ?_ ?_
              · show X11_pour σ (nI t) i (nI u) j e = _
                rw [cl]
                exact cbad 6 (by decide)
              · show X12_pour (wI σ 10 0 11 6) (nI t) i (nI u) j e = _
                rw [rf _ (rf0 6), if_pos z, if_neg e0]
                rfl
          · rw [if_neg z] at cl
            refine refP hC hP 11 0 ?_ ?_
            · show X11_pour σ (nI t) i (nI u) j e = _
              rw [cl]
              exact cbad 11 (by decide)
            · show X12_pour (wI σ 10 0 11 11) (nI t) i (nI u) j e = _
              rw [rf _ (rf0 11), if_neg z]
              rfl
    · refine refP hC hP 1 0 ?_ ?_
      · show X11_pour σ (nI t) i b j e = _
        unfold X11_pour X11_pour_j0 X11_pour_j23
        rw [isNum_in σ ht, Option.bind_some, if_neg neg1_0, isNum_out σ hb, Option.bind_some, if_pos rfl, cbad 1 (by decide)]
      · show X12_pour (wI σ 10 0 11 1) (nI t) i b j e = _
        unfold X12_pour X12_pour_j0
        rw [Option.bind_some, Option.bind_some, s0e, if_neg a0, if_neg a4, n1]
        by_cases q : b < 0
        · rw [if_pos q]
        · rw [if_neg q, if_neg (show ¬ b < 4 from fun z => hnb ⟨q, z⟩)]
  · refine refP hC hP 1 0 ?_ ?_
    · show X11_pour σ a i b j e = _
      unfold X11_pour X11_pour_j0 X11_pour_j23
      rw [isNum_out σ ha, Option.bind_some, if_pos rfl, cbad 1 (by decide)]
    · show X12_pour (wI σ 10 0 11 1) a i b j e = _
      unfold X12_pour X12_pour_j0
      rw [Option.bind_some, Option.bind_some, s0e, n1]
      by_cases q : a < 0
      · rw [if_pos q]
      · rw [if_neg q, if_pos (show (4 : Int32) ≤ a by
          rcases ha with z | z
          · exact absurd z q
          · exact z)]
end PO
