/-! ===== what the constructors leave: the shape, the relation ===== -/
def σ0 : SS := (hI hk193, hJ hk193)
theorem hk_O : hk193.1 = OS := by decide +kernel
theorem hk_N : ∀ q ∈ OS, 12 ≤ q.1 → hN hk193 q.1 q.2 = LN q.1 q.2 := by decide +kernel
theorem hk_R : ∀ q ∈ OS, q.1 < 12 → ∀ j, j < nf q.1 → hR hk193 q.1 q.2 j = RF q.1 q.2 j := by decide +kernel
set_option maxRecDepth 100000 in
theorem hk_Q : hR hk193 15 0 = RF 15 0 := by
  funext j
  match j with
  | 0 => rfl
  | 1 => rfl
  | 2 => rfl
  | j + 3 => rfl
theorem en_hk (tc : Nat → ClassId) (ad : Nat → Nat → Nat) : ∀ q ∈ OS, en tc ad hk193 q.1 q.2 = en tc ad (hp σ0) q.1 q.2 := by
  intro q hq
  by_cases h12 : q.1 < 12
  · rw [en_obj h12, en_obj h12]
    have e : (List.range (nf q.1)).map (fun j => cv ad (av hk193 q.1 q.2 j)) = (List.range (nf q.1)).map (fun j => cv ad (av (hp σ0) q.1 q.2 j)) :=
      List.map_congr_left fun j hj => by rw [av_congr (h := hp σ0) (h' := hk193) (hk_R q hq h12 j (List.mem_range.mp hj)) rfl rfl]
    rw [e]
  · have hn := hk_N q hq (by omega)
    rw [en, en, if_neg h12, if_neg h12, hn]
    by_cases h14 : q.1 < 14
    · rw [if_pos h14, if_pos h14]; rfl
    · rw [if_neg h14, if_neg h14]
      by_cases h15 : q.1 = 14
      · rw [if_pos h15, if_pos h15]; rfl
      · rw [if_neg h15, if_neg h15]
        have e : q = (15, 0) := by
          have : ∀ q ∈ OS, ¬ q.1 < 14 → ¬ q.1 = 14 → q = (15, 0) := by decide +kernel
          exact this q hq h14 h15
        subst e
        show (Sum.inl (tc 15, LN 15 0, Sum.inr (Sum.inr (Sum.inr (Sum.inr (fun j => (hR hk193 15 0 j).map (ad 0)))))) : va_E) = _
        rw [hk_Q]
        rfl
theorem rf_fin : ∀ q ∈ OS, ∀ j, 60 ≤ j → RF q.1 q.2 j = none := by
  intro q hq j hj
  have hk : q.1 < 16 := by
    have : ∀ q ∈ OS, q.1 < 16 := by decide +kernel
    exact this q hq
  obtain ⟨i, rfl⟩ : ∃ i, j = i + 60 := ⟨j - 60, by omega⟩
  obtain ⟨a, b⟩ := q
  have hk' : a < 16 := hk
  show RF a b (i + 60) = none
  clear hq hk
  have hc : a = 0 ∨ a = 1 ∨ a = 2 ∨ a = 3 ∨ a = 4 ∨ a = 5 ∨ a = 6 ∨ a = 7 ∨ a = 8 ∨ a = 9 ∨ a = 10 ∨ a = 11 ∨ a = 12 ∨ a = 13 ∨ a = 14 ∨ a = 15 := by omega
  rcases hc with rfl | rfl | rfl | rfl | rfl | rfl | rfl | rfl | rfl | rfl | rfl | rfl | rfl | rfl | rfl | rfl <;> rfl
theorem rf_cl : ∀ q ∈ OS, ∀ j, j < 60 → (RF q.1 q.2 j).all (fun t => decide ((q.1 < 12 → (fk q.1 j).1 = 2 → ((fk q.1 j).2, t) ∈ OS) ∧ (¬ q.1 < 12 → (0, t) ∈ OS))) = true := by decide +kernel
theorem cl_hp (σ : SS) : Cl (hp σ) := by
  intro q hq j t hr
  have hr' : RF q.1 q.2 j = some t := hr
  by_cases hj : j < 60
  · have := rf_cl q hq j hj
    rw [hr', Option.all_some] at this
    exact of_decide_eq_true this
  · rw [rf_fin q hq j (by omega)] at hr'
    cases hr'
theorem wd_hk {D : va_G} {tc : Nat → ClassId} {ad : Nat → Nat → Nat} {H : Heap} {A : Nat → Prop} (hW : Wd D tc ad hk193 H A) : Wd D tc ad (hp σ0) H A := by
  have e : wl tc ad hk193 = wl tc ad (hp σ0) := by
    unfold wl
    rw [hk_O, show (hp σ0).1 = OS from rfl]
    exact List.map_congr_left fun q hq => by rw [en_hk tc ad q hq]
  obtain ⟨h1, h2, h3, h4⟩ := hW
  rw [e] at h1 h2
  exact ⟨h1, h2, by rw [hk_O] at h3; exact h3, cl_hp σ0⟩
theorem ex_hk {ad0 ad : Nat → Nat → Nat} {h0 : AH} (hE : Ex ad0 h0 ad hk193) : Ex ad0 h0 ad (hp σ0) := hE.same (h := hk193) (h' := hp σ0) hk_O.symm
theorem wp_hk {d mc ms : Nat} {m : MI} {Q : Option AV → AH → Prop} {k n pc : Nat} {ls : List (Option AV)} {st : List AV} (h : Wp d mc ms m Q k n pc ls st (hp σ0)) : Wp d mc ms m Q k n pc ls st hk193 := by
  intro p l e s mid args below meth c D tc ad0 ad h0 H locs LS C hW hS hL hE
  exact h p l e s mid args below meth c D tc ad0 ad h0 H locs LS C (wd_hk hW) hS hL (ex_hk hE)
theorem z0_D : σ0.1 0 0 5 = nI 0 ∧ σ0.1 0 0 7 = nI 0 ∧ σ0.1 0 0 6 = nI 0 ∧ σ0.1 0 0 8 = nI 0 ∧ σ0.1 0 0 9 = nI 0 ∧ σ0.1 0 0 10 = 0 ∧ σ0.1 0 0 11 = 0 ∧ σ0.1 0 0 12 = 0 := by decide +kernel
theorem z0_X : ∀ j, j < 8 → σ0.1 13 34 j = nI 0 := by decide +kernel
theorem z0_Y : σ0.1 8 0 1 = 0 ∧ σ0.1 13 34 132 = 0 := by decide +kernel
theorem z0_S : σ0.1 10 0 11 = σ0.1 11 0 0 := by decide +kernel
theorem z0_T : ∀ t, t < 4 → σ0.1 13 20 (8 + t) = 0 ∧ σ0.1 13 33 t = -1 := by decide +kernel
theorem z0_F : σ0.2 10 0 12 = σ0.2 11 0 2 ∧ σ0.2 10 0 13 = σ0.2 11 0 3 := by decide +kernel
theorem z0_G : σ0.1 4 0 7 = σ0.1 11 0 10 ∧ σ0.1 4 0 8 = σ0.1 11 0 11 := by decide +kernel
theorem z0_P : σ0.1 4 0 1 = nI 0 ∧ σ0.1 11 0 8 = nI 0 := by decide +kernel
theorem z0_W : σ0.1 6 0 6 = 0 ∧ σ0.1 11 0 33 = 0 := by decide +kernel
theorem z0_O : σ0.1 6 0 11 = 0 ∧ σ0.1 6 0 9 = 0 ∧ σ0.1 11 0 38 = -1 := by decide +kernel
theorem z0_C : σ0.1 2 0 4 = 0 ∧ σ0.1 11 0 42 = 0 := by decide +kernel
theorem z0_M : σ0.1 10 0 10 = nI 0 ∧ σ0.1 11 0 23 = nI 0 := by decide +kernel
theorem wf_0 : wfS 0 0 (fun _ _ => 0) (fun _ => 0) := ⟨by decide, by decide, fun l h => absurd h (Nat.not_lt_zero _), fun l h => absurd h (Nat.not_lt_zero _)⟩
theorem wl_0 : wfL 0 [] := ⟨by decide, fun x h => absurd h List.not_mem_nil⟩
theorem cr_0 (f : Nat → Nat → Int32) : CRf f [] := fun k x h => by simp at h
theorem rs_0 : RS σ0 0 0 0 (fun _ _ => 0) (fun _ => 0) := ⟨z0_D.1, z0_D.2.1, fun w l _ h => absurd h (Nat.not_lt_zero _), fun l h => absurd h (Nat.not_lt_zero _), fun l h => absurd h (Nat.not_lt_zero _), wf_0⟩
theorem rv_0 : RV σ0 0 0 0 0 0 0 0 [] := ⟨z0_D.2.2.1, z0_D.2.2.2.1, ⟨0, by decide, z0_D.2.2.2.2.1, rfl⟩, z0_D.2.2.2.2.2.1, z0_D.2.2.2.2.2.2.1, z0_D.2.2.2.2.2.2.2, cr_0 _, by decide, wl_0⟩
theorem rx_0 : RXS σ0 0 0 (fun _ _ => 0) (fun _ => 0) := ⟨z0_X 0 (by decide), z0_X 2 (by decide), fun w l _ h => absurd h (Nat.not_lt_zero _), fun l h => absurd h (Nat.not_lt_zero _), wf_0⟩
theorem ry_0 : RXV σ0 0 0 0 0 0 0 [] := ⟨z0_X 1 (by decide), z0_X 3 (by decide), z0_X 4 (by decide), z0_X 5 (by decide), z0_X 6 (by decide), z0_X 7 (by decide), cr_0 _, by decide, wl_0, fun x h => absurd h List.not_mem_nil, fun _ h => h⟩
theorem bl_0 : BlR 0 0 σ0 0 0 (fun _ _ => 0) (fun _ => 0) 0 0 0 0 0 [] := ⟨rs_0, rv_0, rx_0.of (fun j _ => shb_0 σ0 j), ry_0.of (fun j _ => shb_0 σ0 j), .inl ⟨z0_Y.1, z0_Y.2⟩, fun l h => absurd h (Nat.not_lt_zero _), fun l h => absurd h (Nat.not_lt_zero _)⟩
theorem rel0 : Rel σ0 := ⟨⟨_, _, _, _, _, _, _, _, _, _, bl_0⟩, z0_S, fun t ht => .inl (z0_T t ht), z0_F, z0_G, ⟨0, by decide, z0_P.1, z0_P.2, fun j h => absurd h (Nat.not_lt_zero _)⟩, .inl z0_W, .inl z0_O, .inl z0_C, ⟨0, by decide, z0_M.1, z0_M.2, fun k h => absurd h (Nat.not_lt_zero _)⟩⟩
