/-! ===== what is made: objects, arrays; final fields ===== -/
/-- a new cell of kind kk, number nn; of an array its length -/
def nO (h : AH) (kk nn len : Nat) : AH :=
  (h.1 ++ [(kk, nn)], fun a b => if a = kk ∧ b = nn then len else hN h a b, fun a b c => if a = kk ∧ b = nn then none else hR h a b c, fun a b c => if a = kk ∧ b = nn then 0 else hI h a b c, fun a b c => if a = kk ∧ b = nn then 0 else hJ h a b c)
theorem nO_R (h : AH) (kk nn len c : Nat) : hR (nO h kk nn len) kk nn c = none := if_pos ⟨rfl, rfl⟩
theorem nO_I (h : AH) (kk nn len c : Nat) : hI (nO h kk nn len) kk nn c = 0 := if_pos ⟨rfl, rfl⟩
theorem nO_J (h : AH) (kk nn len c : Nat) : hJ (nO h kk nn len) kk nn c = 0 := if_pos ⟨rfl, rfl⟩
theorem nO_N (h : AH) (kk nn len : Nat) : hN (nO h kk nn len) kk nn = len := if_pos ⟨rfl, rfl⟩
theorem nO_av (h : AH) (kk nn len j : Nat) (ad : Nat → Nat → Nat) : cv ad (av (nO h kk nn len) kk nn j) = (if (fk kk j).1 = 1 then Value.long 0 else if (fk kk j).1 = 2 then Value.null else Value.int 0) := by
  unfold av
  rw [nO_R, nO_I, nO_J]
  generalize (fk kk j).1 = f
  match f with
  | 0 => rfl
  | 1 => rfl
  | 2 => rfl
  | f + 3 =>
    rw [if_neg (by omega), if_neg (by omega)]
    rfl
def adN (ad : Nat → Nat → Nat) (kk nn q : Nat) : Nat → Nat → Nat := fun a b => if a = kk ∧ b = nn then q else ad a b
theorem adN_self (ad : Nat → Nat → Nat) (kk nn q : Nat) : adN ad kk nn q kk nn = q := by simp [adN]
theorem adN_ne (ad : Nat → Nat → Nat) {kk nn q a b : Nat} (h : ¬ (a = kk ∧ b = nn)) : adN ad kk nn q a b = ad a b := by simp [adN, h]
theorem nO_old {tc : Nat → ClassId} {ad : Nat → Nat → Nat} {h : AH} {kk nn len q a b : Nat} (hc : Cl h) (hf : (kk, nn) ∉ h.1) (hm : (a, b) ∈ h.1) : en tc (adN ad kk nn q) (nO h kk nn len) a b = en tc ad h a b := by
  have hne : ¬ (a = kk ∧ b = nn) := by rintro ⟨rfl, rfl⟩; exact hf hm
  have e1 : hN (nO h kk nn len) a b = hN h a b := if_neg hne
  have e2 : ∀ c, hR (nO h kk nn len) a b c = hR h a b c := fun c => if_neg hne
  have e3 : hI (nO h kk nn len) a b = hI h a b := by funext c; exact if_neg hne
  have e4 : hJ (nO h kk nn len) a b = hJ h a b := by funext c; exact if_neg hne
  unfold en
  by_cases hk : a < 12
  · rw [if_pos hk, if_pos hk]
    congr 2
    refine List.map_congr_left fun j _ => ?_
    unfold av
    rw [e2 j, e3, e4]
    split
    · rfl
    · rfl
    · rename_i hq
      cases hr : hR h a b j with
      | none => rfl
      | some t =>
        show Value.ref (adN ad kk nn q (fk a j).2 t) = Value.ref (ad (fk a j).2 t)
        rw [adN_ne]
        rintro ⟨z1, z2⟩
        refine hf ?_
        rw [← z1, ← z2]
        exact (hc (a, b) hm j t hr).1 hk hq
    · rfl
  · rw [if_neg hk, if_neg hk, e1, e3, e4]
    have e5 : (fun j => (hR (nO h kk nn len) a b j).map (adN ad kk nn q 0)) = fun j => (hR h a b j).map (ad 0) := by
      funext j
      rw [e2 j]
      cases hr : hR h a b j with
      | none => rfl
      | some t =>
        show some (adN ad kk nn q 0 t) = some (ad 0 t)
        rw [adN_ne]
        rintro ⟨z1, z2⟩
        refine hf ?_
        rw [← z1, ← z2]
        exact (hc (a, b) hm j t hr).2 hk
    rw [e5]
theorem nO_wl {tc : Nat → ClassId} {ad : Nat → Nat → Nat} {h : AH} {kk nn len q : Nat} (hc : Cl h) (hf : (kk, nn) ∉ h.1) : wl tc (adN ad kk nn q) (nO h kk nn len) = wl tc ad h ++ [(q, en tc (adN ad kk nn q) (nO h kk nn len) kk nn)] := by
  show (h.1 ++ [(kk, nn)]).map _ = _
  rw [List.map_append]
  congr 1
  · refine List.map_congr_left fun x hx => ?_
    rw [nO_old hc hf hx, adN_ne]
    rintro ⟨rfl, rfl⟩
    exact hf hx
  · simp [adN_self]
theorem nO_ok {h : AH} {kk nn len : Nat} (hn : h.1.Nodup) (hf : (kk, nn) ∉ h.1) : (nO h kk nn len).1.Nodup := by
  show (h.1 ++ [(kk, nn)]).Nodup
  rw [List.nodup_append]
  refine ⟨hn, by simp, fun a ha b hb => ?_⟩
  simp at hb
  subst hb
  rintro rfl
  exact hf ha
theorem nO_cl {h : AH} {kk nn len : Nat} (hc : Cl h) : Cl (nO h kk nn len) := by
  intro q hq j t hr
  have hq' : q ∈ h.1 ++ [(kk, nn)] := hq
  have hr' : (if q.1 = kk ∧ q.2 = nn then none else hR h q.1 q.2 j) = some t := hr
  by_cases z : q.1 = kk ∧ q.2 = nn
  · rw [if_pos z] at hr'; cases hr'
  · rw [if_neg z] at hr'
    have hm : q ∈ h.1 := by
      rcases List.mem_append.mp hq' with w | w
      · exact w
      · simp at w; exact absurd ⟨by rw [w], by rw [w]⟩ z
    obtain ⟨f1, f2⟩ := hc q hm j t hr'
    exact ⟨fun a b => List.mem_append_left _ (f1 a b), fun a => List.mem_append_left _ (f2 a)⟩
theorem nO_ex {ad0 ad : Nat → Nat → Nat} {h0 h : AH} {kk nn len q : Nat} (hE : Ex ad0 h0 ad h) (hf : (kk, nn) ∉ h.1) (hk : kk < 90) : Ex ad0 h0 (adN ad kk nn q) (nO h kk nn len) := by
  refine hE.tr ⟨⟨[(kk, nn)], rfl⟩, fun x hx => adN_ne _ ?_, fun e => ?_, fun a b z => adN_ne _ (by omega)⟩
  · rintro ⟨rfl, rfl⟩; exact hf hx
  · have : (h.1 ++ [(kk, nn)]).length = h.1.length := congrArg List.length e
    simp at this
theorem Lc.new {ad : Nat → Nat → Nat} {n : Nat} {ls : List (Option AV)} {LS : Array Slot} {h : AH} {kk nn q : Nat} (hL : Lc ad n ls LS) (hf : (kk, nn) ∉ h.1) (hk : kk < 90) (hv : ∀ v, some v ∈ ls → ok1 h v) : Lc (adN ad kk nn q) n ls LS := by
  obtain ⟨h1, h2, h3, h4⟩ := hL
  refine ⟨h1, h2, h3, fun i v hi => ?_⟩
  rw [h4 i v hi, cv_agree (h := h) (h' := nO h kk nn 0) (nO_ex (Ex.rf ad h) hf hk) (hv v (List.mem_of_getElem? hi))]
theorem st_new {ad : Nat → Nat → Nat} {st : List AV} {h : AH} {kk nn q : Nat} (hf : (kk, nn) ∉ h.1) (hk : kk < 90) (hv : ∀ v ∈ st, ok1 h v) : st.map (cv (adN ad kk nn q)) = st.map (cv ad) :=
  List.map_congr_left fun v hm => cv_agree (h := h) (h' := nO h kk nn 0) (nO_ex (Ex.rf ad h) hf hk) (hv v hm)
/-- what the tables say of a class that is made -/
def CdN (own : String) (idx kk : Nat) : Prop := ∃ (C : String) (T : u_T) (ty : Nat → FieldType), Kd kk C T ty ∧ Cond.classLink own idx C ∈ lw_g ∧ Cond.instantiable C (nf kk) ∈ lw_g ∧ Cond.initialized C ∈ lw_g ∧ ∀ j, j < nf kk → defaultValue (ty j) = (if (fk kk j).1 = 1 then Value.long 0 else if (fk kk j).1 = 2 then Value.null else Value.int 0)
section WPN
variable {d mc ms : Nat} {m : MI} {Q : Option AV → AH → Prop} {k n pc pc' : Nat} {ls : List (Option AV)} {st : List AV} {h : AH}
theorem Wp.new {idx : Nat} (kk nn : Nat) (hd : Dc m pc (.new idx) 3 pc') (hc : CdN m.1.cls idx kk) (hf : (kk, nn) ∉ h.1) (hv : (∀ v ∈ st, ok1 h v) ∧ ∀ v, some v ∈ ls → ok1 h v) (hk : k + 1 ≤ mc) (hs : n + nf kk ≤ ms) (k1 : Wp d mc ms m Q (k + 1) (n + nf kk) pc' ls (vr kk nn :: st) (nO h kk nn 0)) : Wp d mc ms m Q k n pc ls st h := by
  intro p l e s mid args below meth c D tc ad0 ad h0 H locs LS C hW hS hL hE
  obtain ⟨hd1, rfl⟩ := hd
  obtain ⟨cC, cT, cty, ⟨q1, q2, q3, q4, q5⟩, q6, q7, q8, q9⟩ := hc
  have hA : ∀ q, s.heap.size ≤ q → Af ad0 h0 s.heap.size q := fun q z => Or.inr z
  refine va_new (D := D) (cl := vwCl) (tys := tysOf tc) (Ts := lw_g) (ci := kk) (fs := (List.range (nf kk)).map (fun j => cv ad (av (nO h kk nn 0) kk nn j))) C.1 C.2.1 C.2.2.2.2.2.1 q3 cty q4 C.2.2.2.2.1 (C.2.2.2.2.2.1 _ q6) (C.2.2.2.2.2.1 _ q7) (C.2.2.2.2.2.1 _ q8) C.2.2.2.2.2.2.2.1 hW.1 hW.2.1 hS hA q1 (fun j hj => ?_) hk hs hd1 (fun q H1 hP1 hD1 hS1 => ?_)
  · rw [q9 j hj]
    show _ = ((List.range (nf kk)).map (fun j => cv ad (av (nO h kk nn 0) kk nn j))).getD j .null
    have e9 : ((List.range (nf kk)).map (fun j => cv ad (av (nO h kk nn 0) kk nn j))).getD j .null = cv ad (av (nO h kk nn 0) kk nn j) := by simp [hj]
    rw [e9, nO_av]
  · have ew : wl tc (adN ad kk nn q) (nO h kk nn 0) = wl tc ad h ++ [(q, Sum.inr (kk, (List.range (nf kk)).map (fun j => cv ad (av (nO h kk nn 0) kk nn j))))] := by
      have e9 : (List.range (nf kk)).map (fun j => cv (adN ad kk nn q) (av (nO h kk nn 0) kk nn j)) = (List.range (nf kk)).map (fun j => cv ad (av (nO h kk nn 0) kk nn j)) := List.map_congr_left fun j _ => by rw [nO_av, nO_av]
      rw [nO_wl hW.2.2.2 hf, en_obj q2, e9]
    rw [← ew] at hP1 hD1
    have := k1 p l e s mid args below meth c D tc ad0 (adN ad kk nn q) h0 H1 locs LS C ⟨hP1, hD1, nO_ok hW.2.2.1 hf, nO_cl hW.2.2.2⟩ hS1 (hL.new hf (by omega) hv.2) (nO_ex hE hf (by omega))
    rw [List.map_cons, st_new hf (by omega) hv.1] at this
    have e3 : cv (adN ad kk nn q) (vr kk nn) = .ref q := by show Value.ref (adN ad kk nn q kk nn) = _; rw [adN_self]
    rw [e3] at this
    exact this
theorem va_same {D : va_G} {tc : Nat → ClassId} {s : State} {cA : ClassId} {ty : FieldType} {j : Nat} {c0 : ClassId} (hK : va_K D vwCl (tysOf tc ++ [(cA, ty)]) s) (hj : (tysOf tc)[j]? = some (c0, ty)) : cA = c0 := by
  have h1 := (hK.2 4 (cA, ty) (by simp [tysOf])).2
  have hl : j < (tysOf tc).length := (List.getElem?_eq_some_iff.mp hj).1
  have h2 := (hK.2 j (c0, ty) (by rw [List.getElem?_append_left hl]; exact hj)).2
  cases ty with
  | object C =>
    obtain ⟨_, _, -, -, -, g1⟩ := h1
    obtain ⟨_, _, -, -, -, g2⟩ := h2
    exact Option.some.inj (g1.symm.trans g2)
  | _ => exact Option.some.inj (Eq.trans (Eq.symm h1) h2)
theorem Wp.newa {at1 : ArrayType} {ty : FieldType} {x : Int32} {bs : Nat} (kk nn len j : Nat) (hd : Dc m pc (.newarray at1) 2 pc') (hty : newarray.typeOf at1 = ty) (hw : Cond.arrayClass (newarray.typeOf at1) ∈ lw_g) (hj : ∀ tc, (tysOf tc)[j]? = some (tc kk, ty)) (hkk : kk = 12 ∧ ty = .byte ∨ kk = 13 ∧ ty = .int ∨ kk = 14 ∧ ty = .long)
    (hx : ¬ x < 0) (hlen : x.toNatClampNeg = len) (hb : len * componentBytes ty ≤ 536870912) (hf : (kk, nn) ∉ h.1) (hv : (∀ v ∈ st, ok1 h v) ∧ ∀ v, some v ∈ ls → ok1 h v) (hk : k + 1 ≤ mc) (hs : n + len ≤ ms) (k1 : Wp d mc ms m Q (k + 1) (n + len) pc' ls (vr kk nn :: st) (nO h kk nn len)) : Wp d mc ms m Q k n pc ls (vi x :: st) h := by
  intro p l e s mid args below meth c D tc ad0 ad h0 H locs LS C hW hS hL hE
  obtain ⟨hd1, rfl⟩ := hd
  have hA : ∀ q, s.heap.size ≤ q → Af ad0 h0 s.heap.size q := fun q z => Or.inr z
  have hk90 : kk < 90 := by rcases hkk with ⟨rfl, -⟩ | ⟨rfl, -⟩ | ⟨rfl, -⟩ <;> decide
  have e2 : ∀ j, hR (nO h kk nn len) kk nn j = none := fun j => nO_R _ _ _ _ _
  have e3 : hI (nO h kk nn len) kk nn = fun _ => 0 := by funext j; exact nO_I _ _ _ _ _
  have e4 : hJ (nO h kk nn len) kk nn = fun _ => 0 := by funext j; exact nO_J _ _ _ _ _
  have e5 : hN (nO h kk nn len) kk nn = len := nO_N _ _ _ _
  have key : ∀ q : Nat, ∃ a0 : vp_A, (∀ cA : ClassId, vp_cell cA a0 = arrV cA len (fun _ => defaultValue ty)) ∧ en tc (adN ad kk nn q) (nO h kk nn len) kk nn = Sum.inl (tc kk, a0) := by
    intro q
    rcases hkk with ⟨rfl, rfl⟩ | ⟨rfl, rfl⟩ | ⟨rfl, rfl⟩
    · exact ⟨(len, .inl (fun _ => 0)), fun cA => rfl, by rw [en, if_neg (by decide), if_pos (by decide), e3, e5]⟩
    · exact ⟨(len, .inl (fun _ => 0)), fun cA => rfl, by rw [en, if_neg (by decide), if_pos (by decide), e3, e5]⟩
    · exact ⟨(len, .inr (.inl (fun _ => 0))), fun cA => rfl, by rw [en, if_neg (by decide), if_neg (by decide), if_pos rfl, e4, e5]⟩
  obtain ⟨a0, ha0, he0⟩ := key 0
  refine va_newa (D := D) (cl := vwCl) (tys := tysOf tc) (a0 := a0) (N' := len) C.1 C.2.1 (C.2.2.2.2.2.1 _ hw) hty C.2.2.2.2.2.2.2.1 hW.1 hW.2.1 hS hA ha0 hx hlen hb hk hs hd1 (fun q cA H1 hK1 hP1 hD1 hS1 => ?_)
  have hcA : cA = tc kk := va_same hK1 (hj tc)
  subst hcA
  have he : en tc (adN ad kk nn q) (nO h kk nn len) kk nn = Sum.inl (tc kk, a0) := by
    rw [← he0]
    rcases hkk with ⟨rfl, -⟩ | ⟨rfl, -⟩ | ⟨rfl, -⟩ <;> rfl
  have ew : wl tc (adN ad kk nn q) (nO h kk nn len) = wl tc ad h ++ [(q, Sum.inl (tc kk, a0))] := by
    rw [nO_wl hW.2.2.2 hf, he]
  rw [← ew] at hP1 hD1
  have := k1 p l e s mid args below meth c D tc ad0 (adN ad kk nn q) h0 H1 locs LS C ⟨hP1, hD1, nO_ok hW.2.2.1 hf, nO_cl hW.2.2.2⟩ hS1 (hL.new hf hk90 hv.2) (nO_ex hE hf hk90)
  rw [List.map_cons, st_new hf hk90 hv.1] at this
  have e6 : cv (adN ad kk nn q) (vr kk nn) = .ref q := by show Value.ref (adN ad kk nn q kk nn) = _; rw [adN_self]
  rw [e6] at this
  exact this
theorem Wp.newq {idx : Nat} {x : Int32} (nn len : Nat) (hd : Dc m pc (.anewarray idx) 3 pc') (hw : Cond.classLink m.1.cls idx RX0 ∈ lw_g)
    (hx : ¬ x < 0) (hlen : x.toNatClampNeg = len) (hb : len * 4 ≤ 536870912) (hf : (15, nn) ∉ h.1) (hv : (∀ v ∈ st, ok1 h v) ∧ ∀ v, some v ∈ ls → ok1 h v) (hk : k + 1 ≤ mc) (hs : n + len ≤ ms) (k1 : Wp d mc ms m Q (k + 1) (n + len) pc' ls (vr 15 nn :: st) (nO h 15 nn len)) : Wp d mc ms m Q k n pc ls (vi x :: st) h := by
  intro p l e s mid args below meth c D tc ad0 ad h0 H locs LS C hW hS hL hE
  obtain ⟨hd1, rfl⟩ := hd
  have hA : ∀ q, s.heap.size ≤ q → Af ad0 h0 s.heap.size q := fun q z => Or.inr z
  have e2 : ∀ j, hR (nO h 15 nn len) 15 nn j = none := fun j => nO_R _ _ _ _ _
  have e5 : hN (nO h 15 nn len) 15 nn = len := nO_N _ _ _ _
  have he : ∀ q : Nat, en tc (adN ad 15 nn q) (nO h 15 nn len) 15 nn = Sum.inl (tc 15, len, .inr (.inr (.inr (.inr (fun _ => none))))) := by
    intro q
    rw [en, if_neg (by decide), if_neg (by decide), if_neg (by decide), e5]
    congr 7
    funext j
    rw [e2 j]
    rfl
  refine va_newq (D := D) (cl := vwCl) (tys := tysOf tc) (N' := len) C.1 C.2.1 C.2.2.2.2.1 (C.2.2.2.2.2.1 _ hw) C.2.2.2.2.2.2.2.2.2.1 C.2.2.2.2.2.2.2.1 hW.1 hW.2.1 hS hA hx hlen hb hk hs hd1 (fun q cA H1 hK1 hP1 hD1 hS1 => ?_)
  have hcA : cA = tc 15 := va_same (j := 3) hK1 rfl
  subst hcA
  have ew : wl tc (adN ad 15 nn q) (nO h 15 nn len) = wl tc ad h ++ [(q, Sum.inl (tc 15, len, .inr (.inr (.inr (.inr (fun _ => none))))))] := by
    rw [nO_wl hW.2.2.2 hf, he]
  rw [← ew] at hP1 hD1
  have := k1 p l e s mid args below meth c D tc ad0 (adN ad 15 nn q) h0 H1 locs LS C ⟨hP1, hD1, nO_ok hW.2.2.1 hf, nO_cl hW.2.2.2⟩ hS1 (hL.new hf (by decide) hv.2) (nO_ex hE hf (by decide))
  rw [List.map_cons, st_new hf (by decide) hv.1] at this
  have e6 : cv (adN ad 15 nn q) (vr 15 nn) = .ref q := by show Value.ref (adN ad 15 nn q 15 nn) = _; rw [adN_self]
  rw [e6] at this
  exact this
theorem sR_cl {h : AH} {kk nn jj t : Nat} (hc : Cl h) (ht : (kk < 12 → (fk kk jj).1 = 2 → ((fk kk jj).2, t) ∈ h.1) ∧ (¬ kk < 12 → (0, t) ∈ h.1)) : Cl (sR h kk nn jj (some t)) := by
  intro q hq j t' hr
  have hq' : q ∈ h.1 := hq
  have hr' : up3 (hR h) kk nn jj (some t) q.1 q.2 j = some t' := hr
  by_cases z : q.1 = kk ∧ q.2 = nn ∧ j = jj
  · obtain ⟨z1, z2, z3⟩ := z
    rw [z1, z2, z3, up3_eq] at hr'
    cases hr'
    rw [z1, z3]
    exact ht
  · rw [up3_ne _ _ z] at hr'
    exact hc q hq' j t' hr'
theorem nest_in {ad : Nat → Nat → Nat} {A : Nat → Prop} {U : State} {H : Heap} (h : Xs ad A U H) {q : String × Nat × MethodName × String} (hq : q ∈ nestL) : va_Nw (.methodLinkNest q.1 q.2.1 q.2.2.1 q.2.2.2) U := h.2.1 q hq
/-- a constructor of a nest mate -/
theorem Wp.callIN {d' mc' ms' idx kk nn na : Nat} {host : String} {as : List AV} {m' : MI} {Q' : Option AV → AH → Prop} {rest : List AV} (hR : Runs d' mc' ms' m' (vr kk nn :: as) h Q') (hd : Dc m pc (.invokespecial idx) 3 pc') (hcw : Cond.code m'.1 m'.2.1 m'.2.2.1 m'.2.2.2 ∈ lw_g) (hiw : Cond.initialized m'.1.cls ∈ lw_g) (hnw : Cond.instanceMethod m'.1 ∈ lw_g) (hnest : (m.1.cls, idx, m'.1, host) ∈ nestL) (hdn : m'.1.cls ≠ "java/lang/invoke/MethodHandle" ∧ m'.1.cls ≠ "java/lang/invoke/VarHandle" ∧ (parseMethodDescriptor m'.1.desc).map (fun d => d.parameters.length) = some na) (hml : m'.2.2.1 ≤ 40) (hni : m'.1.name = "<init>") (hret : m'.2.2.2 = none) (hdd : d' + 1 ≤ d) (hna : as.length = na) (hst : st = as.reverse ++ vr kk nn :: rest) (hrest : (rest.map ct).sum ≤ 8)
    (hk : k + mc' ≤ mc) (hs : n + ms' ≤ ms) (hok : (mc' = 0 ∧ ∀ v h', Q' v h' → h'.1 = h.1) ∨ ((∀ v ∈ rest, ok1 h v) ∧ ∀ v, some v ∈ ls → ok1 h v)) (kk1 : ∀ v h', Q' v h' → Wp d mc ms m Q (k + mc') (n + ms') pc' ls (v.toList ++ rest) h') : Wp d mc ms m Q k n pc ls st h := by
  intro p l e s mid args below meth c D tc ad0 ad h0 H locs LS C hW hS hL hE
  obtain ⟨hd1, hpc⟩ := hd
  obtain ⟨c1, c2, c3, c4, c5, c6, c7, c8, c9⟩ := id C
  have hr := va_runIN (p := p) (l := l) (e := e) (R := rmd d mc ms) (s := s) (m := mid) (args := args) (below := below) (meth := meth) (c := c) (H := H) (locs := locs) (cells := k) (slots := n) (As := as.map (cv ad)) (rest := rest.map (cv ad)) (b := ad kk nn) (g := F0 mid pc LS (st.map (cv ad))) (index := idx) (y := m'.1) (bytes := m'.2.1) (maxL := m'.2.2.1) (ws := wsm m') (n := na) (host := host)
    ⟨c1, c2, c4, c5, c6⟩ (hR l D tc ad H.size)
    ⟨va_cnB (ws' := lw_g) na c6 (wsm_good hcw) (by rw [wsm, hret]) rfl rfl (nest_in c9.2 hnest) (c6 _ hiw) hdn (rmd_call hdd hml), hni, c6 _ hnw⟩
    ⟨blind_pc, fun U hU hWm => ⟨rfl, by rw [hU], by rw [hU]; exact hW.weak (fun _ _ => trivial), va_K.moved hWm.alike c8, by rw [hU]; exact ((Xs.warm hWm (c9.2.kept hS.2.1)).narrow (Af_sub hW hS)).ex hE.2.2.2⟩⟩
    rfl (by simpa using hna) hL.1 (by rw [hst]; simp [cv]) (lv_room (by rw [catsum]; exact hrest)) hd1 ⟨hk, hs⟩
  exact Wp.back hk hs hok hpc kk1 C hW hS hL hE hr
/-- a final field in a constructor; also a reference's -/
theorem Wp.putF {idx kk nn jj : Nat} {fty : FieldType} {q : Nat × Nat} {v : AV} {h' : AH} (hd : Dc m pc (.putfield idx) 3 pc') (hf : FdM m.1.cls idx kk jj true fty q) (hini : m.1.name = "<init>") (hk0 : (vwCl[kk]?).map (fun z => z.1) = some m.1.cls) (hm : (kk, nn) ∈ h.1) (hn : ∀ ad, narrow fty (cv ad v) = cv ad v) (hfit : ∀ ad, fits fty (cv ad v) = true) (ho : h'.1 = h.1) (hcl : Cl h → Cl h')
    (hv : av h' kk nn jj = v) (hrest : ∀ j, j ≠ jj → av h' kk nn j = av h kk nn j) (hoff : ∀ tc ad a b, ¬ (a = kk ∧ b = nn) → en tc ad h' a b = en tc ad h a b) (k1 : Wp d mc ms m Q k n pc' ls st h') : Wp d mc ms m Q k n pc ls (v :: vr kk nn :: st) h := by
  intro p l e s mid args below meth c D tc ad0 ad h0 H locs LS C hW hS hL hE
  obtain ⟨hd1, rfl⟩ := hd
  obtain ⟨cC, cT, cty, ⟨q1, q2, q3, q4, q5⟩, q6, q7, q8, q9, q10, q11⟩ := hf
  obtain ⟨q0, w1, w2⟩ := wl_at (tc := tc) (ad := ad) hm
  rw [en_obj q2] at w1
  refine va_putF (ref := (cT jj).1) (D := D) (cl := vwCl) (tys := tysOf tc) (Ts := lw_g) (ty := fty) C.1 C.2.1 C.2.2.2.2.2.1 q3 cty q4 q5 C.2.2.2.2.1 C.2.2.2.2.2.2.2.1 hW.1 hW.2.1 hS q0 w1 q1 jj q6 (C.2.2.2.2.2.1 _ q7) (fun _ z => z) q8 (C.2.2.2.2.2.2.2.2.1.trans hini) (by rw [q1] at hk0; exact q10.trans (Option.some.inj hk0)) (by rw [q4 jj q6, q9]) (hn ad) (hfit ad) (by simpa using q6) hd1 (fun H1 locs1 hP1 hD1 hS1 => ?_)
  have ew := wl_set (tc := tc) (ad := ad) ho hW.2.2.1 w2 (hoff tc ad)
  rw [en_put q2 hv hrest] at ew
  rw [ew] at hP1 hD1
  exact k1 p l e s mid args below meth c D tc ad0 ad h0 H1 locs1 LS C ⟨hP1, hD1, by rw [ho]; exact hW.2.2.1, hcl hW.2.2.2⟩ hS1 hL (hE.same ho)
theorem Wp.putR {idx kk nn jj tk t : Nat} {fty : FieldType} (hd : Dc m pc (.putfield idx) 3 pc') (hf : FdM m.1.cls idx kk jj true fty (2, tk)) (hini : m.1.name = "<init>") (hk0 : (vwCl[kk]?).map (fun z => z.1) = some m.1.cls) (hm : (kk, nn) ∈ h.1) (ht : (tk, t) ∈ h.1) (hty : (∃ s, fty = .object s) ∨ ∃ s, fty = .array s) (k1 : Wp d mc ms m Q k n pc' ls st (sR h kk nn jj (some t))) : Wp d mc ms m Q k n pc ls (vr tk t :: vr kk nn :: st) h := by
  have hq := hf
  obtain ⟨_, _, _, hKd, -, -, -, -, -, hq⟩ := hq
  refine Wp.putF (v := vr tk t) (h' := sR h kk nn jj (some t)) hd hf hini hk0 hm (fun ad => ?_) (fun ad => ?_) rfl (fun hc => sR_cl hc ⟨fun _ _ => by rw [hq]; exact ht, fun z => absurd hKd.2.1 z⟩) ?_ (fun j hj => av_congr (up3_ne _ _ (fun q => hj q.2.2)) rfl rfl) (fun tc ad a b => en_sR a b) k1
  · rcases hty with ⟨s, rfl⟩ | ⟨s, rfl⟩ <;> rfl
  · rcases hty with ⟨s, rfl⟩ | ⟨s, rfl⟩ <;> rfl
  · unfold av
    rw [hq]
    show (match up3 (hR h) kk nn jj (some t) kk nn jj with
      | none => vn
      | some t => vr tk t) = _
    rw [up3_eq]
theorem Wp.putC {idx kk nn jj t : Nat} (hd : Dc m pc (.putfield idx) 3 pc') (hf : FdM m.1.cls idx kk jj true .int (3, 0)) (hini : m.1.name = "<init>") (hk0 : (vwCl[kk]?).map (fun z => z.1) = some m.1.cls) (hm : (kk, nn) ∈ h.1) (k1 : Wp d mc ms m Q k n pc' ls st (sR h kk nn jj (some t))) : Wp d mc ms m Q k n pc ls (vi (Int32.ofNat t) :: vr kk nn :: st) h := by
  have hq := hf
  obtain ⟨_, _, _, hKd, -, -, -, -, -, hq⟩ := hq
  refine Wp.putF (v := vi (Int32.ofNat t)) (h' := sR h kk nn jj (some t)) hd hf hini hk0 hm (fun ad => rfl) (fun ad => rfl) rfl (fun hc => sR_cl hc ⟨fun _ z => (by rw [hq] at z; exact absurd z (by decide)), fun z => absurd hKd.2.1 z⟩) ?_ (fun j hj => av_congr (up3_ne _ _ (fun q => hj q.2.2)) rfl rfl) (fun tc ad a b => en_sR a b) k1
  unfold av
  rw [hq]
  show vi (Int32.ofNat ((up3 (hR h) kk nn jj (some t) kk nn jj).getD 0)) = _
  rw [up3_eq]
  rfl
theorem Wp.aast {nn t : Nat} {i : Int32} (hd : Dc m pc .aastore 1 pc') (hm : (15, nn) ∈ h.1) (ht : (0, t) ∈ h.1) (hi : ¬ (i < 0 ∨ hN h 15 nn ≤ i.toNatClampNeg)) (k1 : Wp d mc ms m Q k n pc' ls st (sR h 15 nn i.toNatClampNeg (some t))) : Wp d mc ms m Q k n pc ls (vr 0 t :: vi i :: vr 15 nn :: st) h := by
  intro p l e s mid args below meth c D tc ad0 ad h0 H locs LS C hW hS hL hE
  obtain ⟨hd1, rfl⟩ := hd
  obtain ⟨q0, w1, w2⟩ := wl_at (tc := tc) (ad := ad) hm
  obtain ⟨q1, w3, w4⟩ := wl_at (tc := tc) (ad := ad) ht
  rw [en_obj (by decide)] at w3
  refine va_astq (D := D) (cl := vwCl) (tys := tysOf tc) (r := (RX0, TX0, 14)) C.1 C.2.1 C.2.2.2.2.2.2.2.1 hW.1 hW.2.1 hS q0 3 q1 0 w1 rfl w3 rfl hi hd1 (fun H1 locs1 hP1 hD1 hS1 => ?_)
  have ew := wl_set (tc := tc) (ad := ad) (h := h) (h' := sR h 15 nn i.toNatClampNeg (some t)) rfl hW.2.2.1 w2 (fun a b => en_sR a b)
  have e2 : en tc ad (sR h 15 nn i.toNatClampNeg (some t)) 15 nn = .inl (tc 15, hN h 15 nn, .inr (.inr (.inr (.inr (va_up (fun j => (hR h 15 nn j).map (ad 0)) i.toNatClampNeg (some (ad 0 t))))))) := by
    show (Sum.inl (tc 15, hN h 15 nn, .inr (.inr (.inr (.inr (fun j => (up3 (hR h) 15 nn i.toNatClampNeg (some t) 15 nn j).map (ad 0)))))) : va_E) = _
    congr 7
    funext j
    rw [up3_row]
    show Option.map (ad 0) (if j = i.toNatClampNeg then some t else hR h 15 nn j) = va_up (fun j => (hR h 15 nn j).map (ad 0)) i.toNatClampNeg (some (ad 0 t)) j
    unfold va_up
    by_cases z : j = i.toNatClampNeg
    · rw [if_pos z, if_pos z]; rfl
    · rw [if_neg z, if_neg z]
  rw [e2] at ew
  rw [ew] at hP1 hD1
  exact k1 p l e s mid args below meth c D tc ad0 ad h0 H1 locs1 LS C ⟨hP1, hD1, hW.2.2.1, sR_cl hW.2.2.2 ⟨fun z => absurd z (by decide), fun _ => ht⟩⟩ hS1 hL (hE.same rfl)
theorem Wp.objInit {idx kk nn : Nat} (hd : Dc m pc (.invokespecial idx) 3 pc') (h1 : Cond.methodLink m.1.cls idx Lib.objectInit ∈ lw_g) (h2 : Cond.instanceMethod Lib.objectInit ∈ lw_g) (h3 : Cond.code Lib.objectInit ⟨#[0xb1]⟩ 1 none ∈ lw_g) (hdd : 1 ≤ d) (hrest : (st.map ct).sum ≤ 8) (k1 : Wp d mc ms m Q k n pc' ls st h) : Wp d mc ms m Q k n pc ls (vr kk nn :: st) h := by
  intro p l e s mid args below meth c D tc ad0 ad h0 H locs LS C hW hS hL hE
  obtain ⟨hd1, rfl⟩ := hd
  obtain ⟨c1, c2, c3, c4, c5, c6, c7, c8, c9⟩ := id C
  refine W.objInit c1 c2 c5 (c6 _ h1) (c6 _ h2) (c6 _ h3) rfl (by rw [c4]; exact hL.1) (rest := st.map (cv ad)) rfl hd1 hdd ?_ (k1 p l e s mid args below meth c D tc ad0 ad h0 H locs LS C hW hS hL hE)
  have := lv_room (m := mid) (pc := pc) (ls := LS) (rest := st.map (cv ad)) (st := st.map (cv ad)) (by rw [catsum]; exact hrest)
  have e : (rmd d mc ms).locals = 64 * d := rfl
  rw [e]
  have h0 : 2 * (F0 mid pc LS ((vr kk nn :: st).map (cv ad))).monitorRoom = 0 := rfl
  rw [h0]
  have := catsum ad st
  omega
end WPN
