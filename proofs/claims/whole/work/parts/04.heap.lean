/-! ===== fields and arrays over the smaller machine ===== -/
def sI (h : AH) (k n j : Nat) (x : Int32) : AH := (h.1, h.2.1, h.2.2.1, up3 h.2.2.2.1 k n j x, h.2.2.2.2)
def sJ (h : AH) (k n j : Nat) (x : Int64) : AH := (h.1, h.2.1, h.2.2.1, h.2.2.2.1, up3 h.2.2.2.2 k n j x)
def sR (h : AH) (k n j : Nat) (x : Option Nat) : AH := (h.1, h.2.1, up3 h.2.2.1 k n j x, h.2.2.2.1, h.2.2.2.2)
/-- what the names say of a class of kind k -/
def Kd (k : Nat) (C : String) (T : u_T) (ty : Nat → FieldType) : Prop := vwCl[k]? = some (C, T, nf k) ∧ k < 12 ∧ (∀ w ∈ u_ws C T (nf k), w ∈ lw_g) ∧ (∀ j, j < nf k → parseFieldDescriptor (T j).2.2.1 = some (ty j)) ∧ ∀ a, a < nf k → ∀ b, b < nf k → a ≠ b → (T a).2.1 ≠ (T b).2.1
/-- a field that a class names: of which kind, which place, final or not, its type, what it is -/
def FdM (own : String) (idx k j : Nat) (fin : Bool) (fty : FieldType) (q : Nat × Nat) : Prop :=
  ∃ (C : String) (T : u_T) (ty : Nat → FieldType), Kd k C T ty ∧ j < nf k ∧ Cond.fieldLink own idx (T j).1 (T j).2.1 (T j).2.2.1 ∈ lw_g ∧ (T j).2.2.2 = fin ∧ ty j = fty ∧ (T j).1 = C ∧ fk k j = q
theorem en_obj {tc : Nat → ClassId} {ad : Nat → Nat → Nat} {h : AH} {k n : Nat} (hk : k < 12) : en tc ad h k n = .inr (k, (List.range (nf k)).map (fun j => cv ad (av h k n j))) := by rw [en, if_pos hk]
theorem en_congr {tc : Nat → ClassId} {ad : Nat → Nat → Nat} {h h' : AH} {k n : Nat} (h1 : hN h' k n = hN h k n) (h2 : hR h' k n = hR h k n) (h3 : hI h' k n = hI h k n) (h4 : hJ h' k n = hJ h k n) : en tc ad h' k n = en tc ad h k n := by
  simp only [en, av, h1, h2, h3, h4]
theorem up3_off {α : Type} (f : Nat → Nat → Nat → α) {k n j a b : Nat} (v : α) (h : ¬ (a = k ∧ b = n)) : up3 f k n j v a b = f a b := by
  funext c
  exact up3_ne f v (fun q => h ⟨q.1, q.2.1⟩)
theorem up3_row {α : Type} (f : Nat → Nat → Nat → α) (k n j : Nat) (v : α) : up3 f k n j v k n = fun c => if c = j then v else f k n c := by
  funext c
  simp [up3]
theorem en_sI {tc : Nat → ClassId} {ad : Nat → Nat → Nat} {h : AH} {k n j : Nat} {x : Int32} (a b : Nat) (hne : ¬ (a = k ∧ b = n)) : en tc ad (sI h k n j x) a b = en tc ad h a b := en_congr rfl rfl (up3_off _ _ hne) rfl
theorem en_sJ {tc : Nat → ClassId} {ad : Nat → Nat → Nat} {h : AH} {k n j : Nat} {x : Int64} (a b : Nat) (hne : ¬ (a = k ∧ b = n)) : en tc ad (sJ h k n j x) a b = en tc ad h a b := en_congr rfl rfl rfl (up3_off _ _ hne)
theorem en_sR {tc : Nat → ClassId} {ad : Nat → Nat → Nat} {h : AH} {k n j : Nat} {x : Option Nat} (a b : Nat) (hne : ¬ (a = k ∧ b = n)) : en tc ad (sR h k n j x) a b = en tc ad h a b := en_congr rfl (up3_off _ _ hne) rfl rfl
/-- an int that a field of that type holds as it is -/
def Nr (ty : FieldType) (x : Int32) : Prop := narrow ty (.int x) = .int x ∧ fits ty (.int x) = true
theorem Nr.i (x : Int32) : Nr .int x := ⟨rfl, rfl⟩
theorem Nr.z0 : Nr .boolean 0 := ⟨by decide +kernel, by decide +kernel⟩
theorem Nr.z1 : Nr .boolean 1 := ⟨by decide +kernel, by decide +kernel⟩
section WPH
variable {d mc ms : Nat} {m : MI} {Q : Option AV → AH → Prop} {k n pc pc' : Nat} {ls : List (Option AV)} {st : List AV} {h : AH}
theorem Wp.get {idx kk nn jj : Nat} {fin : Bool} {fty : FieldType} {q : Nat × Nat} {v : AV} (hd : Dc m pc (.getfield idx) 3 pc') (hf : FdM m.1.cls idx kk jj fin fty q) (hm : (kk, nn) ∈ h.1) (hv : av h kk nn jj = v) (k1 : Wp d mc ms m Q k n pc' ls (v :: st) h) : Wp d mc ms m Q k n pc ls (vr kk nn :: st) h := by
  intro p l e s mid args below meth c D tc ad0 ad h0 H locs LS C hW hS hL hE
  obtain ⟨hd1, rfl⟩ := hd
  obtain ⟨cC, cT, cty, ⟨q1, q2, q3, q4, q5⟩, q6, q7, q8, q9, q10, q11⟩ := hf
  obtain ⟨q0, w1, w2⟩ := wl_at (tc := tc) (ad := ad) hm
  rw [en_obj q2] at w1
  refine va_get (ref := (cT jj).1) (D := D) (cl := vwCl) (tys := tysOf tc) (Ts := lw_g) C.1 C.2.1 C.2.2.2.2.2.1 q3 C.2.2.2.2.1 C.2.2.2.2.2.2.2.1 hW.1 q0 w1 q1 jj q6 (C.2.2.2.2.2.1 _ q7) (fun _ z => z) (v := cv ad v) ?_ hd1 (k1 p l e s mid args below meth c D tc ad0 ad h0 H locs LS C hW hS hL hE)
  rw [List.getElem?_map, List.getElem?_range q6, ← hv]
  rfl
theorem Wp.getI {idx kk nn jj : Nat} {fin : Bool} {fty : FieldType} (hd : Dc m pc (.getfield idx) 3 pc') (hf : FdM m.1.cls idx kk jj fin fty (0, 0)) (hm : (kk, nn) ∈ h.1) (k1 : Wp d mc ms m Q k n pc' ls (vi (hI h kk nn jj) :: st) h) : Wp d mc ms m Q k n pc ls (vr kk nn :: st) h := by
  refine Wp.get hd hf hm ?_ k1
  obtain ⟨cC, cT, cty, -, -, -, -, -, -, q⟩ := hf
  simp only [av, q]
theorem Wp.getJ {idx kk nn jj : Nat} {fin : Bool} {fty : FieldType} (hd : Dc m pc (.getfield idx) 3 pc') (hf : FdM m.1.cls idx kk jj fin fty (1, 0)) (hm : (kk, nn) ∈ h.1) (k1 : Wp d mc ms m Q k n pc' ls (vl (hJ h kk nn jj) :: st) h) : Wp d mc ms m Q k n pc ls (vr kk nn :: st) h := by
  refine Wp.get hd hf hm ?_ k1
  obtain ⟨cC, cT, cty, -, -, -, -, -, -, q⟩ := hf
  simp only [av, q]
theorem Wp.getR {idx kk nn jj tk t : Nat} {fin : Bool} {fty : FieldType} (hd : Dc m pc (.getfield idx) 3 pc') (hf : FdM m.1.cls idx kk jj fin fty (2, tk)) (hm : (kk, nn) ∈ h.1) (hr : hR h kk nn jj = some t) (k1 : Wp d mc ms m Q k n pc' ls (vr tk t :: st) h) : Wp d mc ms m Q k n pc ls (vr kk nn :: st) h := by
  refine Wp.get hd hf hm ?_ k1
  obtain ⟨cC, cT, cty, -, -, -, -, -, -, q⟩ := hf
  simp only [av, q, hr]
theorem Wp.getC {idx kk nn jj t : Nat} {fin : Bool} {fty : FieldType} (hd : Dc m pc (.getfield idx) 3 pc') (hf : FdM m.1.cls idx kk jj fin fty (3, 0)) (hm : (kk, nn) ∈ h.1) (hr : hR h kk nn jj = some t) (k1 : Wp d mc ms m Q k n pc' ls (vi (Int32.ofNat t) :: st) h) : Wp d mc ms m Q k n pc ls (vr kk nn :: st) h := by
  refine Wp.get hd hf hm ?_ k1
  obtain ⟨cC, cT, cty, -, -, -, -, -, -, q⟩ := hf
  simp only [av, q, hr, Option.getD_some]
theorem en_put {tc : Nat → ClassId} {ad : Nat → Nat → Nat} {h h' : AH} {kk nn jj : Nat} {v : AV} (hk : kk < 12) (hv : av h' kk nn jj = v) (ho : ∀ j, j ≠ jj → av h' kk nn j = av h kk nn j) : en tc ad h' kk nn = .inr (kk, ((List.range (nf kk)).map (fun j => cv ad (av h kk nn j))).set jj (cv ad v)) := by
  rw [en_obj hk]
  congr 2
  refine List.ext_getElem? fun i => ?_
  by_cases hi : i = jj
  · subst hi
    by_cases hl : i < nf kk
    · rw [List.getElem?_set_self (by simpa using hl)]
      simp [hl, hv]
    · simp [hl]
  · rw [List.getElem?_set_ne (Ne.symm hi)]
    by_cases hl : i < nf kk
    · simp [hl, ho i hi]
    · simp [hl]
theorem Wp.put {idx kk nn jj : Nat} {fty : FieldType} {q : Nat × Nat} {v : AV} {h' : AH} (hd : Dc m pc (.putfield idx) 3 pc') (hf : FdM m.1.cls idx kk jj false fty q) (hm : (kk, nn) ∈ h.1) (hn : ∀ ad, narrow fty (cv ad v) = cv ad v) (hfit : ∀ ad, fits fty (cv ad v) = true) (ho : h'.1 = h.1) (hcl : Cl h → Cl h')
    (hv : av h' kk nn jj = v) (hrest : ∀ j, j ≠ jj → av h' kk nn j = av h kk nn j) (hoff : ∀ tc ad a b, ¬ (a = kk ∧ b = nn) → en tc ad h' a b = en tc ad h a b) (k1 : Wp d mc ms m Q k n pc' ls st h') : Wp d mc ms m Q k n pc ls (v :: vr kk nn :: st) h := by
  intro p l e s mid args below meth c D tc ad0 ad h0 H locs LS C hW hS hL hE
  obtain ⟨hd1, rfl⟩ := hd
  obtain ⟨cC, cT, cty, ⟨q1, q2, q3, q4, q5⟩, q6, q7, q8, q9, q10, q11⟩ := hf
  obtain ⟨q0, w1, w2⟩ := wl_at (tc := tc) (ad := ad) hm
  have w3 := w1
  rw [en_obj q2] at w1
  refine va_put (ref := (cT jj).1) (D := D) (cl := vwCl) (tys := tysOf tc) (Ts := lw_g) (ty := fty) C.1 C.2.1 C.2.2.2.2.2.1 q3 cty q4 q5 C.2.2.2.2.1 C.2.2.2.2.2.2.2.1 hW.1 hW.2.1 hS q0 w1 q1 jj q6 (C.2.2.2.2.2.1 _ q7) (fun _ z => z) q8 (by rw [q4 jj q6, q9]) (hn ad) (hfit ad) (by simpa using q6) hd1 (fun H1 locs1 hP1 hD1 hS1 => ?_)
  have e := wl_set (tc := tc) (ad := ad) ho hW.2.2.1 w2 (hoff tc ad)
  rw [en_put q2 hv hrest] at e
  rw [e] at hP1 hD1
  refine k1 p l _ s mid args below meth c D tc ad0 ad h0 H1 locs1 LS C ⟨hP1, hD1, by rw [ho]; exact hW.2.2.1, hcl hW.2.2.2⟩ hS1 hL ?_
  obtain ⟨⟨l1, g1⟩, g2, g3, g4⟩ := hE
  exact ⟨⟨l1, by rw [ho, g1]⟩, g2, fun z => g3 (by rw [← ho, z]), g4⟩
theorem av_congr {h h' : AH} {k n j : Nat} (h1 : hR h' k n j = hR h k n j) (h2 : hI h' k n j = hI h k n j) (h3 : hJ h' k n j = hJ h k n j) : av h' k n j = av h k n j := by
  simp only [av, h1, h2, h3]
theorem av_sI {h : AH} {kk nn jj : Nat} {x : Int32} (hq : fk kk jj = (0, 0)) : av (sI h kk nn jj x) kk nn jj = vi x := by
  unfold av
  rw [hq]
  show vi (up3 (hI h) kk nn jj x kk nn jj) = _
  rw [up3_eq]
theorem av_sI_ne {h : AH} {kk nn jj j : Nat} {x : Int32} (hj : j ≠ jj) : av (sI h kk nn jj x) kk nn j = av h kk nn j := by
  exact av_congr rfl (up3_ne _ _ (fun q => hj q.2.2)) rfl
theorem av_sJ {h : AH} {kk nn jj : Nat} {x : Int64} (hq : fk kk jj = (1, 0)) : av (sJ h kk nn jj x) kk nn jj = vl x := by
  unfold av
  rw [hq]
  show vl (up3 (hJ h) kk nn jj x kk nn jj) = _
  rw [up3_eq]
theorem av_sJ_ne {h : AH} {kk nn jj j : Nat} {x : Int64} (hj : j ≠ jj) : av (sJ h kk nn jj x) kk nn j = av h kk nn j := by
  exact av_congr rfl rfl (up3_ne _ _ (fun q => hj q.2.2))
theorem Wp.putI {idx kk nn jj : Nat} {fty : FieldType} {x : Int32} (hd : Dc m pc (.putfield idx) 3 pc') (hf : FdM m.1.cls idx kk jj false fty (0, 0)) (hm : (kk, nn) ∈ h.1) (hn : Nr fty x) (k1 : Wp d mc ms m Q k n pc' ls st (sI h kk nn jj x)) : Wp d mc ms m Q k n pc ls (vi x :: vr kk nn :: st) h := by
  have hq := hf
  obtain ⟨_, _, _, -, -, -, -, -, -, hq⟩ := hq
  exact Wp.put (v := vi x) (h' := sI h kk nn jj x) hd hf hm (fun _ => hn.1) (fun _ => hn.2) rfl id (av_sI hq) (fun j hj => av_sI_ne hj) (fun tc ad a b => en_sI a b) k1
theorem Wp.putJ {idx kk nn jj : Nat} {x : Int64} (hd : Dc m pc (.putfield idx) 3 pc') (hf : FdM m.1.cls idx kk jj false .long (1, 0)) (hm : (kk, nn) ∈ h.1) (k1 : Wp d mc ms m Q k n pc' ls st (sJ h kk nn jj x)) : Wp d mc ms m Q k n pc ls (vl x :: vr kk nn :: st) h := by
  have hq := hf
  obtain ⟨_, _, _, -, -, -, -, -, -, hq⟩ := hq
  exact Wp.put (v := vl x) (h' := sJ h kk nn jj x) hd hf hm (fun _ => rfl) (fun _ => rfl) rfl id (av_sJ hq) (fun j hj => av_sJ_ne hj) (fun tc ad a b => en_sJ a b) k1
theorem Ex.same {ad0 ad : Nat → Nat → Nat} {h0 h h' : AH} (hE : Ex ad0 h0 ad h) (ho : h'.1 = h.1) : Ex ad0 h0 ad h' := by
  obtain ⟨⟨l1, g1⟩, g2, g3, g4⟩ := hE
  exact ⟨⟨l1, by rw [ho, g1]⟩, g2, fun z => g3 (by rw [← ho, z]), g4⟩
theorem Wp.alenI {nn : Nat} (hd : Dc m pc .arraylength 1 pc') (hm : (13, nn) ∈ h.1) (k1 : Wp d mc ms m Q k n pc' ls (vi (Int32.ofNat (hN h 13 nn)) :: st) h) : Wp d mc ms m Q k n pc ls (vr 13 nn :: st) h := by
  intro p l e s mid args below meth c D tc ad0 ad h0 H locs LS C hW hS hL hE
  obtain ⟨hd1, rfl⟩ := hd
  obtain ⟨q0, w1, w2⟩ := wl_at (tc := tc) (ad := ad) hm
  exact va_alen (tys := tysOf tc) C.1 C.2.1 C.2.2.2.2.2.2.2.1 hW.1 q0 1 w1 rfl rfl hd1 (k1 p l e s mid args below meth c D tc ad0 ad h0 H locs LS C hW hS hL hE)
theorem Wp.alenJ {nn : Nat} (hd : Dc m pc .arraylength 1 pc') (hm : (14, nn) ∈ h.1) (k1 : Wp d mc ms m Q k n pc' ls (vi (Int32.ofNat (hN h 14 nn)) :: st) h) : Wp d mc ms m Q k n pc ls (vr 14 nn :: st) h := by
  intro p l e s mid args below meth c D tc ad0 ad h0 H locs LS C hW hS hL hE
  obtain ⟨hd1, rfl⟩ := hd
  obtain ⟨q0, w1, w2⟩ := wl_at (tc := tc) (ad := ad) hm
  exact va_alen (tys := tysOf tc) C.1 C.2.1 C.2.2.2.2.2.2.2.1 hW.1 q0 2 w1 rfl rfl hd1 (k1 p l e s mid args below meth c D tc ad0 ad h0 H locs LS C hW hS hL hE)
theorem Wp.alenQ {nn : Nat} (hd : Dc m pc .arraylength 1 pc') (hm : (15, nn) ∈ h.1) (k1 : Wp d mc ms m Q k n pc' ls (vi (Int32.ofNat (hN h 15 nn)) :: st) h) : Wp d mc ms m Q k n pc ls (vr 15 nn :: st) h := by
  intro p l e s mid args below meth c D tc ad0 ad h0 H locs LS C hW hS hL hE
  obtain ⟨hd1, rfl⟩ := hd
  obtain ⟨q0, w1, w2⟩ := wl_at (tc := tc) (ad := ad) hm
  exact va_alen (tys := tysOf tc) C.1 C.2.1 C.2.2.2.2.2.2.2.1 hW.1 q0 3 w1 rfl rfl hd1 (k1 p l e s mid args below meth c D tc ad0 ad h0 H locs LS C hW hS hL hE)
theorem Wp.iald {nn : Nat} {i : Int32} (hd : Dc m pc .iaload 1 pc') (hm : (13, nn) ∈ h.1) (hi : ¬ (i < 0 ∨ hN h 13 nn ≤ i.toNatClampNeg)) (k1 : Wp d mc ms m Q k n pc' ls (vi (hI h 13 nn i.toNatClampNeg) :: st) h) : Wp d mc ms m Q k n pc ls (vi i :: vr 13 nn :: st) h := by
  intro p l e s mid args below meth c D tc ad0 ad h0 H locs LS C hW hS hL hE
  obtain ⟨hd1, rfl⟩ := hd
  obtain ⟨q0, w1, w2⟩ := wl_at (tc := tc) (ad := ad) hm
  exact va_iald (tys := tysOf tc) C.1 C.2.1 C.2.2.2.2.2.2.2.1 hW.1 q0 1 w1 rfl hi hd1 (k1 p l e s mid args below meth c D tc ad0 ad h0 H locs LS C hW hS hL hE)
theorem Wp.bald {nn : Nat} {i : Int32} (hd : Dc m pc .baload 1 pc') (hm : (12, nn) ∈ h.1) (hi : ¬ (i < 0 ∨ hN h 12 nn ≤ i.toNatClampNeg)) (k1 : Wp d mc ms m Q k n pc' ls (vi (hI h 12 nn i.toNatClampNeg) :: st) h) : Wp d mc ms m Q k n pc ls (vi i :: vr 12 nn :: st) h := by
  intro p l e s mid args below meth c D tc ad0 ad h0 H locs LS C hW hS hL hE
  obtain ⟨hd1, rfl⟩ := hd
  obtain ⟨q0, w1, w2⟩ := wl_at (tc := tc) (ad := ad) hm
  exact va_bald (tys := tysOf tc) C.1 C.2.1 C.2.2.2.2.2.2.2.1 hW.1 q0 0 w1 rfl hi hd1 (k1 p l e s mid args below meth c D tc ad0 ad h0 H locs LS C hW hS hL hE)
theorem Wp.lald {nn : Nat} {i : Int32} (hd : Dc m pc .laload 1 pc') (hm : (14, nn) ∈ h.1) (hi : ¬ (i < 0 ∨ hN h 14 nn ≤ i.toNatClampNeg)) (k1 : Wp d mc ms m Q k n pc' ls (vl (hJ h 14 nn i.toNatClampNeg) :: st) h) : Wp d mc ms m Q k n pc ls (vi i :: vr 14 nn :: st) h := by
  intro p l e s mid args below meth c D tc ad0 ad h0 H locs LS C hW hS hL hE
  obtain ⟨hd1, rfl⟩ := hd
  obtain ⟨q0, w1, w2⟩ := wl_at (tc := tc) (ad := ad) hm
  exact va_lald (tys := tysOf tc) C.1 C.2.1 C.2.2.2.2.2.2.2.1 hW.1 q0 2 w1 rfl hi hd1 (k1 p l e s mid args below meth c D tc ad0 ad h0 H locs LS C hW hS hL hE)
theorem Wp.aald {nn t : Nat} {i : Int32} (hd : Dc m pc .aaload 1 pc') (hm : (15, nn) ∈ h.1) (hi : ¬ (i < 0 ∨ hN h 15 nn ≤ i.toNatClampNeg)) (hr : hR h 15 nn i.toNatClampNeg = some t) (k1 : Wp d mc ms m Q k n pc' ls (vr 0 t :: st) h) : Wp d mc ms m Q k n pc ls (vi i :: vr 15 nn :: st) h := by
  intro p l e s mid args below meth c D tc ad0 ad h0 H locs LS C hW hS hL hE
  obtain ⟨hd1, rfl⟩ := hd
  obtain ⟨q0, w1, w2⟩ := wl_at (tc := tc) (ad := ad) hm
  refine va_aldq (tys := tysOf tc) C.1 C.2.1 C.2.2.2.2.2.2.2.1 hW.1 q0 3 w1 rfl hi hd1 ?_
  have := k1 p l e s mid args below meth c D tc ad0 ad h0 H locs LS C hW hS hL hE
  simp only [hr, Option.map_some]
  exact this
theorem Wp.iast {nn : Nat} {i x : Int32} (hd : Dc m pc .iastore 1 pc') (hm : (13, nn) ∈ h.1) (hi : ¬ (i < 0 ∨ hN h 13 nn ≤ i.toNatClampNeg)) (k1 : Wp d mc ms m Q k n pc' ls st (sI h 13 nn i.toNatClampNeg x)) : Wp d mc ms m Q k n pc ls (vi x :: vi i :: vr 13 nn :: st) h := by
  intro p l e s mid args below meth c D tc ad0 ad h0 H locs LS C hW hS hL hE
  obtain ⟨hd1, rfl⟩ := hd
  obtain ⟨q0, w1, w2⟩ := wl_at (tc := tc) (ad := ad) hm
  refine va_iast (tys := tysOf tc) C.1 C.2.1 C.2.2.2.2.2.2.2.1 hW.1 hW.2.1 hS q0 1 w1 rfl hi hd1 (fun H1 locs1 hP1 hD1 hS1 => ?_)
  have e := wl_set (tc := tc) (ad := ad) (h := h) (h' := sI h 13 nn i.toNatClampNeg x) rfl hW.2.2.1 w2 (fun a b => en_sI a b)
  have e2 : en tc ad (sI h 13 nn i.toNatClampNeg x) 13 nn = .inl (tc 13, hN h 13 nn, .inl (upd (hI h 13 nn) i.toNatClampNeg x)) := by
    show (Sum.inl (tc 13, hN h 13 nn, .inl (up3 (hI h) 13 nn i.toNatClampNeg x 13 nn)) : va_E) = _
    rw [up3_row]
    rfl
  rw [e2] at e
  rw [e] at hP1 hD1
  exact k1 p l _ s mid args below meth c D tc ad0 ad h0 H1 locs1 LS C ⟨hP1, hD1, hW.2.2⟩ hS1 hL (hE.same rfl)
theorem Wp.bast {nn : Nat} {i x : Int32} (hd : Dc m pc .bastore 1 pc') (hm : (12, nn) ∈ h.1) (hi : ¬ (i < 0 ∨ hN h 12 nn ≤ i.toNatClampNeg)) (k1 : Wp d mc ms m Q k n pc' ls st (sI h 12 nn i.toNatClampNeg x.toInt8.toInt32)) : Wp d mc ms m Q k n pc ls (vi x :: vi i :: vr 12 nn :: st) h := by
  intro p l e s mid args below meth c D tc ad0 ad h0 H locs LS C hW hS hL hE
  obtain ⟨hd1, rfl⟩ := hd
  obtain ⟨q0, w1, w2⟩ := wl_at (tc := tc) (ad := ad) hm
  refine va_bast (tys := tysOf tc) C.1 C.2.1 C.2.2.2.2.2.2.2.1 hW.1 hW.2.1 hS q0 0 w1 rfl hi hd1 (fun H1 locs1 hP1 hD1 hS1 => ?_)
  have e := wl_set (tc := tc) (ad := ad) (h := h) (h' := sI h 12 nn i.toNatClampNeg x.toInt8.toInt32) rfl hW.2.2.1 w2 (fun a b => en_sI a b)
  have e2 : en tc ad (sI h 12 nn i.toNatClampNeg x.toInt8.toInt32) 12 nn = .inl (tc 12, hN h 12 nn, .inl (upd (hI h 12 nn) i.toNatClampNeg (vp_nar .byte x))) := by
    show (Sum.inl (tc 12, hN h 12 nn, .inl (up3 (hI h) 12 nn i.toNatClampNeg x.toInt8.toInt32 12 nn)) : va_E) = _
    rw [up3_row, vp_nar_byte]
    rfl
  rw [e2] at e
  rw [e] at hP1 hD1
  exact k1 p l _ s mid args below meth c D tc ad0 ad h0 H1 locs1 LS C ⟨hP1, hD1, hW.2.2⟩ hS1 hL (hE.same rfl)
theorem Wp.last {nn : Nat} {i : Int32} {x : Int64} (hd : Dc m pc .lastore 1 pc') (hm : (14, nn) ∈ h.1) (hi : ¬ (i < 0 ∨ hN h 14 nn ≤ i.toNatClampNeg)) (k1 : Wp d mc ms m Q k n pc' ls st (sJ h 14 nn i.toNatClampNeg x)) : Wp d mc ms m Q k n pc ls (vl x :: vi i :: vr 14 nn :: st) h := by
  intro p l e s mid args below meth c D tc ad0 ad h0 H locs LS C hW hS hL hE
  obtain ⟨hd1, rfl⟩ := hd
  obtain ⟨q0, w1, w2⟩ := wl_at (tc := tc) (ad := ad) hm
  refine va_last (tys := tysOf tc) C.1 C.2.1 C.2.2.2.2.2.2.2.1 hW.1 hW.2.1 hS q0 2 w1 rfl hi hd1 (fun H1 locs1 hP1 hD1 hS1 => ?_)
  have e := wl_set (tc := tc) (ad := ad) (h := h) (h' := sJ h 14 nn i.toNatClampNeg x) rfl hW.2.2.1 w2 (fun a b => en_sJ a b)
  have e2 : en tc ad (sJ h 14 nn i.toNatClampNeg x) 14 nn = .inl (tc 14, hN h 14 nn, .inr (.inl (vp_updL (hJ h 14 nn) i.toNatClampNeg x))) := by
    show (Sum.inl (tc 14, hN h 14 nn, .inr (.inl (up3 (hJ h) 14 nn i.toNatClampNeg x 14 nn))) : va_E) = _
    rw [up3_row]
    rfl
  rw [e2] at e
  rw [e] at hP1 hD1
  exact k1 p l _ s mid args below meth c D tc ad0 ad h0 H1 locs1 LS C ⟨hP1, hD1, hW.2.2⟩ hS1 hL (hE.same rfl)
end WPH
