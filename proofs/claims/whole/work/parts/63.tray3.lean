/-! ===== ops: tray, pour, copyStates ===== -/
theorem cutv_0 (s : Nat) : cutv s 0 = 0 := by
  unfold cutv
  split
  · decide
  · split
    · decide
    · split
      · decide
      · rfl
theorem cutv_s {v : Nat} (hv : v ≤ 3) (s : Nat) : cutv s (lN v) = lN v := by
  have : v = 0 ∨ v = 1 ∨ v = 2 ∨ v = 3 := by omega
  unfold cutv
  rcases this with z | z | z | z <;> subst z <;> split <;> (try decide) <;> split <;> (try decide) <;> split <;> (try decide) <;> rfl
theorem isNum_in (σ : SS) {t : Nat} (ht : t < 4) : X6_isNumber σ (nI t) = some 1 := by
  unfold X6_isNumber X6_isNumber_j0
  rw [if_neg (nI_pos (by omega)), if_neg (show ¬ (4 : Int32) ≤ nI t from nI_ge (b := 4) ht (by decide))]
theorem isNum_out (σ : SS) {a : Int32} (ha : a < 0 ∨ nI 4 ≤ a) : X6_isNumber σ a = some 0 := by
  unfold X6_isNumber X6_isNumber_j0
  rcases ha with q | q
  · rw [if_pos q]
  · rw [if_pos (show (4 : Int32) ≤ a from q), ite_self]
theorem fa_at0 (σ : SS) {t : Nat} (ht : t < 4) : X4_at σ 20 0 (nI t) = some (σ.1 13 20 t) := by
  have := fa_at σ 0 (by decide) ht
  rwa [Nat.zero_mul, Nat.zero_add] at this
theorem fa_at1 (σ : SS) {t : Nat} (ht : t < 4) : X4_at σ 20 1 (nI t) = some (σ.1 13 20 (4 + t)) := by
  have := fa_at σ 1 (by decide) ht
  rwa [Nat.one_mul] at this
theorem fa_at2 (σ : SS) {t : Nat} (ht : t < 4) : X4_at σ 20 2 (nI t) = some (σ.1 13 20 (8 + t)) := fa_at σ 2 (by decide) ht
theorem fa_put (σ : SS) (r : Nat) (hr : r < 3) {t : Nat} (ht : t < 4) (x : Int32) : X4_put σ 20 (nI r) (nI t) x = some (wI σ 13 20 (r * 4 + t) x) := by
  have h1 : TR 20 = 3 ∧ TW 20 = 4 := by decide
  rw [put_ok σ x (by decide) (by rw [h1.1]; exact hr) (by rw [h1.2]; exact ht), h1.2]
theorem put_in {σ : SS} {t j m so : Nat} (ht : t < 4) (hj : j < m) (hm : m ≤ 60) (h3 : σ.1 13 20 t = nI m) (h5 : σ.1 13 20 (4 + t) = nI so) (hso : so ≤ 3) (v : Int64) : X6_put σ (nI t) (nI j) v = some (1, wJ σ 14 5 (60 * t + j) (cutv so v)) := by
  have hcu : X6_cutTo σ (nI so) v = some (cutv so v) := xcut_ok σ hso v
  unfold X6_put X6_put_j0
  rw [idx_in ht hj hm h3, Option.bind_some, if_neg (nI_pos (by omega)), lenp.1, if_neg (nI_ge (by omega) (by decide)), fa_at1 σ ht, Option.bind_some, h5, hcu, Option.bind_some, ck_nI (by omega) (by decide), Option.bind_some, Option.bind_some]
theorem at_in {σ : SS} {t j m : Nat} (ht : t < 4) (hj : j < m) (hm : m ≤ 60) (h3 : σ.1 13 20 t = nI m) : X6_at σ (nI t) (nI j) = some (σ.2 14 5 (60 * t + j)) := by
  unfold X6_at X6_at_j0
  rw [idx_in ht hj hm h3, Option.bind_some, if_neg (nI_pos (by omega)), lenp.1, if_neg (nI_ge (by omega) (by decide)), ck_nI (by omega) (by decide), Option.bind_some]
theorem ck14 {t j : Nat} (ht : t < 4) (hj : j < 60) : ck (LN 14 6) (60 * nI t + nI j) = some (60 * t + j) := by
  show ck (LN 14 6) (nI 60 * nI t + nI j) = _
  rw [lenp.2, pk_mul, nI_add]
  exact ck_nI (by omega) (by decide)
theorem wJ_row (σ : SS) (k n j : Nat) (x : Int64) : (wJ σ k n j x).2 k n = fun q => if q = j then x else σ.2 k n q := by
  show up3 σ.2 k n j x k n = _
  rw [up3_row]
section TO
variable {σ : SS}
theorem op_tray (a b e : Int32) (h : RT σ) : OR3 PT σ (fun σ => X11_tray σ a b e) (fun σ => X12_tray σ a b e) RT := by
  have hC : ∀ τ, Eqo PS σ τ → RT τ := fun τ hE => h.ps hE
  have hP : ∀ k n j, PS k n j → PT k n j := fun _ _ _ q => .inl q
  have bad1 : (X6_isNumber σ a = some 0 ∨ (X6_isNumber σ a = some 1 ∧ X6_isSort σ b = some 0)) → (a < 0 ∨ (¬ a < 0 ∧ (4 ≤ a ∨ (¬ 4 ≤ a ∧ (b < 0 ∨ (¬ b < 0 ∧ ¬ b ≤ 3)))))) → OR3 PT σ (fun σ => X11_tray σ a b e) (fun σ => X12_tray σ a b e) RT := fun q1 q2 => by
    refine refP hC hP 1 0 ?_ ?_
    · show X11_tray σ a b e = _
      unfold X11_tray X11_tray_j0 X11_tray_j23 X11_tray_j47
      rcases q1 with z | ⟨z, y⟩
      · rw [z, Option.bind_some, if_pos rfl, answersN _ (by decide), Option.bind_some, if_pos rfl]
      · rw [z, Option.bind_some, if_neg neg1_0, y, Option.bind_some, if_pos rfl, answersN _ (by decide), Option.bind_some, if_pos rfl]
    · show X12_tray (wI σ 10 0 11 1) a b e = _
      unfold X12_tray X12_tray_j0 X12_tray_j28
      rw [Option.bind_some, Option.bind_some, s0e, no_eq, Option.bind_some, zb_0, Option.bind_some]
      rcases q2 with z | ⟨z, z2 | ⟨z2, z3 | ⟨z3, z4⟩⟩⟩
      · rw [if_pos z]
      · rw [if_neg z, if_pos z2]
      · rw [if_neg z, if_neg z2, if_pos z3]
      · rw [if_neg z, if_neg z2, if_neg z3, if_neg z4]
  rcases lt_or a 4 (by decide) with ⟨t, ht, rfl⟩ | ⟨ha, hn⟩
  · have n0 : ¬ nI t < 0 := nI_pos (by omega)
    have n4 : ¬ (4 : Int32) ≤ nI t := nI_ge (b := 4) ht (by decide)
    rcases in_or b 3 (by decide) with ⟨so, hso, rfl⟩ | ⟨hb, hnb⟩
    · have b0 : ¬ nI so < 0 := nI_pos (by omega)
      have b3 : nI so ≤ (3 : Int32) := nI_le (b := 3) hso (by decide)
      have esort : X6_isSort σ (nI so) = some 1 := by
        unfold X6_isSort X6_isSort_j0
        rw [if_neg b0, if_neg (show ¬ (3 : Int32) < nI so from nI_nlt (a := 3) hso (by decide))]
      have cl : X11_tray σ (nI t) (nI so) e = X11_tray_j47 σ (nI t) (nI so) e (if e ≤ 60 then (if 0 ≤ e then 0 else 6) else 5) := by
        unfold X11_tray X11_tray_j0
        rw [isNum_in σ ht, Option.bind_some, if_neg neg1_0, esort, Option.bind_some, if_neg neg1_0]
      have rf : ∀ w, X12_tray (wI σ 10 0 11 w) (nI t) (nI so) e = if e ≤ 60 then (if 0 ≤ e then X12_tray_l74 (wI (wI (s0 σ w) 13 32 t (nI so)) 13 33 t e) (nI t) e 0 else some (0, wI (s0 σ w) 11 0 0 6)) else some (0, wI (s0 σ w) 11 0 0 5) := fun w => by
        unfold X12_tray X12_tray_j0
        rw [Option.bind_some, Option.bind_some, s0e, if_neg n0, if_neg n4, if_neg b0, if_pos b3, ck32 ht, ck33 ht, no_eq, no_eq]
        simp only [Option.bind_some, zb_0]
      by_cases g1 : e ≤ 60
      · by_cases g2 : 0 ≤ e
        · obtain ⟨m, hm31, rfl⟩ := nI_of (Int32.not_lt.mpr g2)
          have hm : m ≤ 60 := (nI_leI (b := 60) hm31 (by decide)).mp g1
          let υ0 := wI (wI (wI (wI σ 10 0 11 0) 13 20 t (nI m)) 13 20 (4 + t) (nI so)) 13 20 (8 + t) 1
          have hE0 : Eqo PT σ υ0 := (((PS_PT (ps1 σ 0)).tr (Eqo.wI (.inr (.inl ⟨rfl, .inl rfl⟩)))).tr (Eqo.wI (.inr (.inl ⟨rfl, .inl rfl⟩)))).tr (Eqo.wI (.inr (.inl ⟨rfl, .inl rfl⟩)))
          have f3 : υ0.1 13 20 t = nI m := by
            show (wI (wI (wI (wI σ 10 0 11 0) 13 20 t (nI m)) 13 20 (4 + t) (nI so)) 13 20 (8 + t) 1).1 13 20 t = _
            rw [wI_ne _ _ (by omega), wI_ne _ _ (by omega), wI_eq]
          have f5 : υ0.1 13 20 (4 + t) = nI so := by
            show (wI (wI (wI (wI σ 10 0 11 0) 13 20 t (nI m)) 13 20 (4 + t) (nI so)) 13 20 (8 + t) 1).1 13 20 (4 + t) = _
            rw [wI_ne _ _ (by omega), wI_eq]
          have f8 : υ0.1 13 20 (8 + t) = 1 := wI_eq _ _ _ _ _
          have f20 : ∀ t', t' < 4 → t' ≠ t → υ0.1 13 20 t' = σ.1 13 20 t' ∧ υ0.1 13 20 (4 + t') = σ.1 13 20 (4 + t') ∧ υ0.1 13 20 (8 + t') = σ.1 13 20 (8 + t') := fun t' ht' hne => by
            show (wI (wI (wI (wI σ 10 0 11 0) 13 20 t (nI m)) 13 20 (4 + t) (nI so)) 13 20 (8 + t) 1).1 13 20 t' = _ ∧ (wI (wI (wI (wI σ 10 0 11 0) 13 20 t (nI m)) 13 20 (4 + t) (nI so)) 13 20 (8 + t) 1).1 13 20 (4 + t') = _ ∧ (wI (wI (wI (wI σ 10 0 11 0) 13 20 t (nI m)) 13 20 (4 + t) (nI so)) 13 20 (8 + t) 1).1 13 20 (8 + t') = _
            simp (disch := omega) only [wI_ne]
            exact ⟨trivial, trivial, trivial⟩
          obtain ⟨b1, υ, e1, k1, kE⟩ := loopI (f := X6_lay_l33b (nI t) (nI m)) (s := (0, υ0)) m (fun k (_ : Unit) (w : SS) => ((nI k, w) : Int32 × SS)) (fun _ w => w) (fun k _ w => (∀ q, w.2 14 5 q = if 60 * t ≤ q ∧ q < 60 * t + k then 0 else σ.2 14 5 q) ∧ Eqo (fun k n _ => k = 14 ∧ n = 5) υ0 w) () υ0 rfl ⟨fun q => by rw [if_neg (by omega)]; rfl, Eqo.rf _ _⟩ (by omega) (fun k b w hk hI => by
            obtain ⟨k1, kE⟩ := hI
            show ∃ b' w', X6_lay_l33c w (nI t) (nI m) (nI k) = _ ∧ _
            unfold X6_lay_l33c
            rw [if_neg (nI_ge hk (by omega)), put_in ht hk hm (by rw [kE.at1 (by omega)]; exact f3) (by rw [kE.at1 (by omega)]; exact f5) hso, Option.bind_some, nI_1, Option.bind_some, cutv_0]
            refine ⟨(), _, rfl, fun q => ?_, kE.tr (Eqo.wJ ⟨rfl, rfl⟩)⟩
            rw [wJ_row]
            simp only
            rw [k1]
            by_cases z : q = 60 * t + k
            · rw [if_pos z, if_pos (by omega)]
            · rw [if_neg z]
              by_cases y : 60 * t ≤ q ∧ q < 60 * t + k
              · rw [if_pos y, if_pos (by omega)]
              · rw [if_neg y, if_neg (by omega)]) (fun b w hI => by
            show X6_lay_l33c w (nI t) (nI m) (nI m) = _
            unfold X6_lay_l33c
            rw [if_pos (nI_le (Nat.le_refl _) (by omega))])
          have kEP : Eqo PT υ0 υ := kE.mono (fun k n j q => .inr (.inr ⟨q.1, .inl q.2⟩))
          let ω0 := wI (wI (xb υ) 13 32 t (nI so)) 13 33 t (nI m)
          have hω : Eqo PT υ ω0 := ((PS_PT (xb_ps υ)).tr (Eqo.wI (.inr (.inl ⟨rfl, .inr (.inl rfl)⟩)))).tr (Eqo.wI (.inr (.inl ⟨rfl, .inr (.inr rfl)⟩)))
          obtain ⟨b2, τ, e2, k2, kE2⟩ := loopI (f := X12_tray_l74b (nI t) (nI m)) (s := (0, ω0)) m (fun k (_ : Unit) (w : SS) => ((nI k, w) : Int32 × SS)) (fun _ w => w) (fun k _ w => (∀ q, w.2 14 6 q = if 60 * t ≤ q ∧ q < 60 * t + k then 0 else ω0.2 14 6 q) ∧ Eqo (fun k n _ => k = 14 ∧ n = 6) ω0 w) () ω0 rfl ⟨fun q => by rw [if_neg (by omega)], Eqo.rf _ _⟩ (by omega) (fun k b w hk hI => by
            obtain ⟨k1, kE⟩ := hI
            show ∃ b' w', X12_tray_l74c w (nI t) (nI m) (nI k) = _ ∧ _
            unfold X12_tray_l74c
            rw [if_neg (nI_ge hk (by omega)), ck14 ht (by omega), Option.bind_some, Option.bind_some, nI_1, Option.bind_some]
            refine ⟨(), _, rfl, fun q => ?_, kE.tr (Eqo.wJ ⟨rfl, rfl⟩)⟩
            rw [wJ_row]
            simp only
            rw [k1]
            by_cases z : q = 60 * t + k
            · rw [if_pos z, if_pos (by omega)]
            · rw [if_neg z]
              by_cases y : 60 * t ≤ q ∧ q < 60 * t + k
              · rw [if_pos y, if_pos (by omega)]
              · rw [if_neg y, if_neg (by omega)]) (fun b w hI => by
            show X12_tray_l74c w (nI t) (nI m) (nI m) = _
            unfold X12_tray_l74c
            rw [if_pos (nI_le (Nat.le_refl _) (by omega))])
          have kE2P : Eqo PT ω0 τ := kE2.mono (fun k n j q => .inr (.inr ⟨q.1, .inr q.2⟩))
          have hall : Eqo PT σ τ := ((hE0.tr kEP).tr hω).tr kE2P
          have c20 : ∀ j, τ.1 13 20 j = υ0.1 13 20 j := fun j => by
            rw [kE2.at1 (by omega)]
            show (wI (wI (xb υ) 13 32 t (nI so)) 13 33 t (nI m)).1 13 20 j = _
            rw [wI_ne _ _ (by omega), wI_ne _ _ (by omega), (xb_ps υ).at1 (by unfold PS; omega), kE.at1 (by omega)]
          have c32 : ∀ j, τ.1 13 32 j = if j = t then nI so else σ.1 13 32 j := fun j => by
            rw [kE2.at1 (by omega)]
            show (wI (wI (xb υ) 13 32 t (nI so)) 13 33 t (nI m)).1 13 32 j = _
            rw [wI_ne _ _ (by omega)]
            by_cases z : j = t
            · rw [if_pos z, z, wI_eq]
            · rw [if_neg z, wI_ne _ _ (by omega), (xb_ps υ).at1 (by unfold PS; omega), kE.at1 (by omega)]
              show (wI (wI (wI (wI σ 10 0 11 0) 13 20 t (nI m)) 13 20 (4 + t) (nI so)) 13 20 (8 + t) 1).1 13 32 j = _
              simp (disch := omega) only [wI_ne]
          have c33 : ∀ j, τ.1 13 33 j = if j = t then nI m else σ.1 13 33 j := fun j => by
            rw [kE2.at1 (by omega)]
            show (wI (wI (xb υ) 13 32 t (nI so)) 13 33 t (nI m)).1 13 33 j = _
            by_cases z : j = t
            · rw [if_pos z, z, wI_eq]
            · rw [if_neg z, wI_ne _ _ (by omega), wI_ne _ _ (by omega), (xb_ps υ).at1 (by unfold PS; omega), kE.at1 (by omega)]
              show (wI (wI (wI (wI σ 10 0 11 0) 13 20 t (nI m)) 13 20 (4 + t) (nI so)) 13 20 (8 + t) 1).1 13 33 j = _
              simp (disch := omega) only [wI_ne]
          have d5 : ∀ q, τ.2 14 5 q = if 60 * t ≤ q ∧ q < 60 * t + m then 0 else σ.2 14 5 q := fun q => by
            rw [kE2.2 _ _ _ (by omega)]
            exact k1 q
          have d6 : ∀ q, τ.2 14 6 q = if 60 * t ≤ q ∧ q < 60 * t + m then 0 else σ.2 14 6 q := fun q => by
            rw [k2 q]
            have : ω0.2 14 6 q = σ.2 14 6 q := kE.2 _ _ _ (by omega)
            rw [this]
          refine ⟨1, υ, τ, ?_, ?_, ?_, hall, fun t' ht' => ?_⟩
          · show X11_tray σ (nI t) (nI so) (nI m) = _
            rw [cl, if_pos g1, if_pos g2]
            unfold X11_tray_j47 X6_lay X6_lay_j0 X6_lay_l33
            rw [answers0, Option.bind_some, if_neg neg1_0]
            simp only
            rw [show X4_put (wI σ 10 0 11 0) 20 0 (nI t) (nI m) = some (wI (wI σ 10 0 11 0) 13 20 (0 * 4 + t) (nI m)) from fa_put _ 0 (by decide) ht _, Option.bind_some, show ∀ w x, X4_put w 20 1 (nI t) x = some (wI w 13 20 (1 * 4 + t) x) from fun w x => fa_put _ 1 (by decide) ht _, Option.bind_some, show ∀ w x, X4_put w 20 2 (nI t) x = some (wI w 13 20 (2 * 4 + t) x) from fun w x => fa_put _ 2 (by decide) ht _, Option.bind_some, show 0 * 4 + t = t by omega]
            rw [e1, Option.bind_some, Option.bind_some, if_neg neg1_0]
          · have := rf
            show X12_tray υ (nI t) (nI so) (nI m) = _
            unfold X12_tray X12_tray_j0 X12_tray_l74
            rw [Option.bind_some, Option.bind_some, if_neg n0, if_neg n4, if_neg b0, if_pos b3, if_pos g1, if_pos g2, ck32 ht, Option.bind_some, Option.bind_some, ck33 ht, Option.bind_some, Option.bind_some]
            show ((iter _ NF (0, ω0)).bind _) = _
            rw [e2, Option.bind_some]
          · have g3 : υ.1 10 0 11 = 0 := by
              rw [kE.at1 (by omega)]
              show (wI (wI (wI (wI σ 10 0 11 0) 13 20 t (nI m)) 13 20 (4 + t) (nI so)) 13 20 (8 + t) 1).1 10 0 11 = 0
              rw [wI_ne _ _ (by omega), wI_ne _ _ (by omega), wI_ne _ _ (by omega), wI_eq]
            have g4 := xb_st g3
            unfold St at g4 ⊢
            rw [kE2.at1 (by omega), kE2.at1 (by omega)]
            show (wI (wI (xb υ) 13 32 t (nI so)) 13 33 t (nI m)).1 10 0 11 = (wI (wI (xb υ) 13 32 t (nI so)) 13 33 t (nI m)).1 11 0 0
            rw [wI_ne _ _ (by omega), wI_ne _ _ (by omega), wI_ne _ _ (by omega), wI_ne _ _ (by omega)]
            exact g4
          · by_cases z : t' = t
            · subst z
              right
              refine ⟨by rw [c20]; exact f8, m, so, hm, hso, by rw [c20]; exact f3, by rw [c33, if_pos rfl], by rw [c20]; exact f5, by rw [c32, if_pos rfl], fun j hj => ?_⟩
              rw [d5, d6, if_pos (by omega), if_pos (by omega), cutv_0]
              exact ⟨rfl, rfl⟩
            · obtain ⟨y1, y2, y3⟩ := f20 t' ht' z
              rcases h t' ht' with ⟨x1, x2⟩ | ⟨x1, m', so', k1', k2', k3, k4, k5, k6, k7⟩
              · left
                rw [c20, c33, if_neg z, y3]
                exact ⟨x1, x2⟩
              · right
                refine ⟨by rw [c20, y3]; exact x1, m', so', k1', k2', by rw [c20, y1]; exact k3, by rw [c33, if_neg z]; exact k4, by rw [c20, y2]; exact k5, by rw [c32, if_neg z]; exact k6, fun j hj => ?_⟩
                rw [d5, d6, if_neg (by omega), if_neg (by omega)]
                exact k7 j hj
        · refine refP hC hP 6 0 ?_ ?_
          · show X11_tray σ (nI t) (nI so) e = _
            rw [cl, if_pos g1, if_neg g2]
            unfold X11_tray_j47
            rw [answersN _ (by decide), Option.bind_some, if_pos rfl]
          · show X12_tray (wI σ 10 0 11 6) (nI t) (nI so) e = _
            rw [rf, if_pos g1, if_neg g2]
      · refine refP hC hP 5 0 ?_ ?_
        · show X11_tray σ (nI t) (nI so) e = _
          rw [cl, if_neg g1]
          unfold X11_tray_j47
          rw [answersN _ (by decide), Option.bind_some, if_pos rfl]
        · show X12_tray (wI σ 10 0 11 5) (nI t) (nI so) e = _
          rw [rf, if_neg g1]
    · refine bad1 (.inr ⟨isNum_in σ ht, ?_⟩) (.inr ⟨n0, .inr ⟨n4, hb⟩⟩)
      unfold X6_isSort X6_isSort_j0
      rcases hb with q | ⟨q1, q2⟩
      · rw [if_pos q]
      · rw [if_neg q1, if_pos (show (3 : Int32) < b from Int32.not_le.mp q2)]
  · refine bad1 (.inl (isNum_out σ ha)) ?_
    by_cases q : a < 0
    · exact .inl q
    · refine .inr ⟨q, .inl ?_⟩
      rcases ha with z | z
      · exact absurd z q
      · exact z
end TO
