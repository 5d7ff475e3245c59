/-! ===== A SMALLER MACHINE OVER THE MACHINE: values, heap by kind and number, what a frame does ===== -/
/-- values: an int, a long, a reference (its kind, its number), null -/
abbrev AV : Type := Int32 ⊕ Int64 ⊕ (Nat × Nat) ⊕ Unit
abbrev vi (x : Int32) : AV := Sum.inl x
abbrev vl (x : Int64) : AV := Sum.inr (Sum.inl x)
abbrev vr (k n : Nat) : AV := Sum.inr (Sum.inr (Sum.inl (k, n)))
abbrev vn : AV := Sum.inr (Sum.inr (Sum.inr ()))
def cv (ad : Nat → Nat → Nat) : AV → Value
  | .inl x => .int x
  | .inr (.inl y) => .long y
  | .inr (.inr (.inl q)) => .ref (ad q.1 q.2)
  | .inr (.inr (.inr _)) => .null
def ct : AV → Nat
  | .inr (.inl _) => 2
  | _ => 1
theorem cv_cat (ad : Nat → Nat → Nat) (v : AV) : (cv ad v).category = ct v := by
  rcases v with x | x | x | x <;> rfl
/-- the heap: what was made, in order (kind, number); lengths of arrays; references and numbers that stay; ints; longs -/
abbrev AH : Type := List (Nat × Nat) × (Nat → Nat → Nat) × (Nat → Nat → Nat → Option Nat) × (Nat → Nat → Nat → Int32) × (Nat → Nat → Nat → Int64)
abbrev hO (h : AH) : List (Nat × Nat) := h.1
abbrev hN (h : AH) : Nat → Nat → Nat := h.2.1
abbrev hR (h : AH) : Nat → Nat → Nat → Option Nat := h.2.2.1
abbrev hI (h : AH) : Nat → Nat → Nat → Int32 := h.2.2.2.1
abbrev hJ (h : AH) : Nat → Nat → Nat → Int64 := h.2.2.2.2
def up3 {α : Type} (f : Nat → Nat → Nat → α) (k n j : Nat) (v : α) : Nat → Nat → Nat → α := fun a b c => if a = k ∧ b = n ∧ c = j then v else f a b c
theorem up3_eq {α : Type} (f : Nat → Nat → Nat → α) (k n j : Nat) (v : α) : up3 f k n j v k n j = v := by simp [up3]
theorem up3_ne {α : Type} (f : Nat → Nat → Nat → α) {k n j a b c : Nat} (v : α) (h : ¬ (a = k ∧ b = n ∧ c = j)) : up3 f k n j v a b c = f a b c := by simp [up3, h]
/-- what a field is: 0 an int, 1 a long, 2 a reference to a kind, 3 an int that stays -/
def fk (k j : Nat) : Nat × Nat := (fkT.getD k []).getD j (0, 0)
def nf (k : Nat) : Nat := (fkT.getD k []).length
def av (h : AH) (k n j : Nat) : AV := match (fk k j).1 with
  | 0 => vi (hI h k n j)
  | 1 => vl (hJ h k n j)
  | 2 => match hR h k n j with
    | none => vn
    | some t => vr (fk k j).2 t
  | _ => vi (Int32.ofNat ((hR h k n j).getD 0))
def en (tc : Nat → ClassId) (ad : Nat → Nat → Nat) (h : AH) (k n : Nat) : va_E :=
  if k < 12 then .inr (k, (List.range (nf k)).map (fun j => cv ad (av h k n j)))
  else .inl (tc k, hN h k n, if k < 14 then .inl (hI h k n) else if k = 14 then .inr (.inl (hJ h k n)) else .inr (.inr (.inr (.inr (fun j => (hR h k n j).map (ad 0))))))
def wl (tc : Nat → ClassId) (ad : Nat → Nat → Nat) (h : AH) : va_W := h.1.map (fun q => (ad q.1 q.2, en tc ad h q.1 q.2))
def tysOf (tc : Nat → ClassId) : List (ClassId × FieldType) := [(tc 12, .byte), (tc 13, .int), (tc 14, .long), (tc 15, .object RX0)]
/-- what is held by reference is there -/
def Cl (h : AH) : Prop := ∀ q ∈ h.1, ∀ j t : Nat, hR h q.1 q.2 j = some t → (q.1 < 12 → (fk q.1 j).1 = 2 → ((fk q.1 j).2, t) ∈ h.1) ∧ (¬ q.1 < 12 → (0, t) ∈ h.1)
def Wd (D : va_G) (tc : Nat → ClassId) (ad : Nat → Nat → Nat) (h : AH) (H : Heap) (A : Nat → Prop) : Prop := va_P D vwCl (wl tc ad h) H ∧ va_D A (wl tc ad h) ∧ h.1.Nodup ∧ Cl h
def Af (ad : Nat → Nat → Nat) (h : AH) (sz : Nat) : Nat → Prop := fun q => (∃ x ∈ h.1, q = ad x.1 x.2) ∨ sz ≤ q
/-- a method: name, bytes, size of its locals, what it returns -/
abbrev MI : Type := MethodName × ByteArray × Nat × Option FieldType
def rmd (d mc ms : Nat) : Room := { frames := d, cells := mc, slots := ms, locals := 64 * d }
def lw_g : List Cond := lw_tbl.filter goodWord
def wsm (m : MI) : List Cond := Cond.code m.1 m.2.1 m.2.2.1 m.2.2.2 :: lw_g
theorem lw_g_in {w : Cond} (h : w ∈ lw_tbl) (g : goodWord w = true) : w ∈ lw_g := List.mem_filter.mpr ⟨h, g⟩
theorem lw_gS {y : MethodName} {n : Nat} (h : (y, n) ∈ lw_privs) : Cond.selects y.cls y y ∈ lw_g :=
  lw_g_in (List.mem_append_left _ (List.mem_map.mpr ⟨(y, n), h, rfl⟩)) rfl
theorem lw_gT {w : Cond} (h : w ∈ tables_1) (g : goodWord w = true) : w ∈ lw_g := lw_g_in (List.mem_append_right _ h) g
theorem lw_g_good : GoodIn lw_g lw_g := fun w h => ⟨h, good_of_word (List.mem_filter.mp h).2⟩
/-- the address map grew: what was there stands where it stood -/
def Ex (ad0 : Nat → Nat → Nat) (h0 : AH) (ad : Nat → Nat → Nat) (h : AH) : Prop :=
  (∃ l, h.1 = h0.1 ++ l) ∧ (∀ q ∈ h0.1, ad q.1 q.2 = ad0 q.1 q.2) ∧ (h.1 = h0.1 → ad = ad0) ∧ ∀ k n : Nat, 90 ≤ k → ad k n = ad0 k n
theorem Ex.rf (ad : Nat → Nat → Nat) (h : AH) : Ex ad h ad h := ⟨⟨[], by simp⟩, fun _ _ => rfl, fun _ => rfl, fun _ _ _ => rfl⟩
theorem Ex.tr {ad0 ad1 ad2 : Nat → Nat → Nat} {h0 h1 h2 : AH} (a : Ex ad0 h0 ad1 h1) (b : Ex ad1 h1 ad2 h2) : Ex ad0 h0 ad2 h2 := by
  obtain ⟨⟨l, a1⟩, a2, a3, a4⟩ := a
  obtain ⟨⟨l', b1⟩, b2, b3, b4⟩ := b
  refine ⟨⟨l ++ l', by rw [b1, a1, List.append_assoc]⟩, fun q hq => ?_, fun e => ?_, fun k n hk => (b4 k n hk).trans (a4 k n hk)⟩
  · rw [b2 q (by rw [a1]; exact List.mem_append_left _ hq), a2 q hq]
  · have hl : (h2.1).length = (h0.1).length := by rw [e]
    rw [b1, a1] at hl
    simp only [List.length_append] at hl
    have e1 : l = [] := List.eq_nil_of_length_eq_zero (by omega)
    have e2 : l' = [] := List.eq_nil_of_length_eq_zero (by omega)
    subst e1; subst e2
    rw [b3 (by rw [b1]; simp), a3 (by rw [a1]; simp)]
def Pq (D : va_G) (tc : Nat → ClassId) (A : Nat → Prop) (ad0 : Nat → Nat → Nat) (h0 : AH) (Q : Option AV → AH → Prop) : Array Value → State → Outcome → State → Prop := fun _ st oc t =>
  (∃ (v : Option AV) (h : AH) (ad : Nat → Nat → Nat), oc = .returned (v.map (cv ad)) ∧ Q v h ∧ Wd D tc ad h t.heap A ∧ Ex ad0 h0 ad h) ∧ va_F A st t
/-- the locals: a list of places -/
def Lc (ad : Nat → Nat → Nat) (n : Nat) (ls : List (Option AV)) (LS : Array Slot) : Prop := LS.size = n ∧ lv_wf LS ∧ ls.length = n ∧ ∀ (i : Nat) (v : AV), ls[i]? = some (some v) → LS[i]? = some (.val (cv ad v))
/-! what a method finds beside its world: the class of the array of drawers, the links of nest mates, the one text -/
def nestL : List (String × Nat × MethodName × String) := [(RX11, 9, yX6_init, "CableDrawer"), (RX11, 18, yX5_init, "CableDrawer"), (RX11, 41, yX0_init, "CableDrawer"), (RX0, 11, yX9_init, "CableDrawer"), (RX11, 55, yX7_init, "CableDrawer"), (RX11, 62, yX8_init, "CableDrawer")]
def WTX : String := match (tables_1_2[(221 : Nat)]? : Option Jvm.Cond) with
  | some (Jvm.Cond.stringRef _ _ tx) => tx
  | _ => ""
def WBY : List Int32 := [108, 101, 97, 100, 32, 108, 111, 110, 103, 32, 115, 116, 105, 102, 102, 32, 101, 110, 100, 115, 32, 99, 111, 115, 116, 115, 32, 117, 115, 101, 100, 32, 99, 108, 105, 112, 32, 99, 114, 111, 115, 115, 32, 116, 104, 114, 101, 97, 100, 101, 100, 32, 116, 105, 103, 104, 116, 32, 107, 110, 111, 116, 32, 108, 111, 111, 107, 32, 111, 112, 101, 110, 32, 116, 97, 107, 101, 32, 108, 111, 111, 115, 101, 110, 32, 112, 117, 108, 108, 32, 102, 114, 111, 109, 32, 99, 117, 116, 32, 119, 104, 101, 110, 32, 108, 117, 109, 112, 32, 102, 114, 101, 101, 32, 108, 111, 111, 112, 32, 101, 110, 100, 32, 115, 116, 111, 112, 32]
/-- beside the world: 95 0 the one text, 95 1 its bytes, 95 2 what Preconditions holds -/
def PRE : String := "jdk/internal/util/Preconditions"
def Xs (ad : Nat → Nat → Nat) (A : Nat → Prop) (U : State) (H : Heap) : Prop := va_AO RX0 U ∧ (∀ q ∈ nestL, va_Nw (.methodLinkNest q.1 q.2.1 q.2.2.1 q.2.2.2) U) ∧ vk_R RX5 86 WTX (ad 95 0) U ∧ vk_S 1 [128] [WBY] (fun _ => ad 95 0) (fun _ => ad 95 1) A U H ∧ va_Z "java/lang/String" "COMPACT_STRINGS" "Z" (.int 1) A U H ∧ (va_Z PRE "SIOOBE_FORMATTER" "Ljava/util/function/BiFunction;" .null A U H ∨ va_Z PRE "SIOOBE_FORMATTER" "Ljava/util/function/BiFunction;" (.ref (ad 95 2)) A U H)
theorem Xs.vm {ad : Nat → Nat → Nat} {A : Nat → Prop} {u U : State} {H : Heap} (hv : U.vm = u.vm) (h : Xs ad A u H) : Xs ad A U H := by
  obtain ⟨h1, h2, h3, h4, h5, h6⟩ := h
  have hA : u.vm.Alike U.vm := by rw [hv]; exact Vm.Alike.refl _
  exact ⟨va_AO.moved hA h1, fun q hq => va_Nw.same rfl hv.symm (h2 q hq), vk_R.same hv h3, h4.moved hA, va_Z.moved hA h5, h6.elim (fun z => Or.inl (va_Z.moved hA z)) (fun z => Or.inr (va_Z.moved hA z))⟩
theorem Xs.warm {ad : Nat → Nat → Nat} {A : Nat → Prop} {u U : State} {H : Heap} (hW : u.WarmedH U.vm) (h : Xs ad A u H) : Xs ad A U H := by
  obtain ⟨h1, h2, h3, h4, h5, h6⟩ := h
  exact ⟨va_AO.moved hW.alike h1, fun q hq => va_Nw.warmM hW (h2 q hq), vk_R.warm hW h3, h4.moved hW.alike, va_Z.moved hW.alike h5, h6.elim (fun z => Or.inl (va_Z.moved hW.alike z)) (fun z => Or.inr (va_Z.moved hW.alike z))⟩
theorem Xs.kept {ad : Nat → Nat → Nat} {A : Nat → Prop} {U : State} {H H1 : Heap} (hq : ∀ a : Nat, a < H.size → ¬ A a → H1[a]? = H[a]?) (h : Xs ad A U H) : Xs ad A U H1 := by
  obtain ⟨h1, h2, h3, h4, h5, h6⟩ := h
  exact ⟨h1, h2, h3, h4.kept hq, h5.kept hq, h6.elim (fun z => Or.inl (z.kept hq)) (fun z => Or.inr (z.kept hq))⟩
theorem Xs.narrow {ad : Nat → Nat → Nat} {A B : Nat → Prop} {U : State} {H : Heap} (hq : ∀ q, B q → A q) (h : Xs ad A U H) : Xs ad B U H := by
  obtain ⟨h1, h2, h3, h4, h5, h6⟩ := h
  exact ⟨h1, h2, h3, h4.narrow hq, h5.narrow hq, h6.elim (fun z => Or.inl (z.narrow hq)) (fun z => Or.inr (z.narrow hq))⟩
/-- it speaks of numbers from 90 on alone -/
theorem Xs.ex {ad ad' : Nat → Nat → Nat} {A : Nat → Prop} {U : State} {H : Heap} (e : ∀ k n : Nat, 90 ≤ k → ad' k n = ad k n) (h : Xs ad A U H) : Xs ad' A U H := by
  unfold Xs at *
  rw [e 95 0 (by omega), e 95 1 (by omega), e 95 2 (by omega)]
  exact h
/-- what holds of the machine in a method's body -/
def Cx (D : va_G) (tc : Nat → ClassId) (m : MI) (p : Program) (s : State) (mid : MethodId) (args : Array Value) (meth : Method) (c : Code) (ad : Nat → Nat → Nat) (A : Nat → Prop) : Prop :=
  p.tables.exec = Jvm.exec ∧ c.code = m.2.1 ∧ meth.sig.returnType = m.2.2.2 ∧ c.maxLocals = m.2.2.1 ∧ s.vm.findClass m.1.cls = some mid.cls ∧ (∀ w ∈ lw_g, w.before args s = true) ∧ meth.locks = false ∧ va_K D vwCl (tysOf tc) s ∧ meth.name = m.1.name ∧ Xs ad A s s.heap
def Wp (d mc ms : Nat) (m : MI) (Q : Option AV → AH → Prop) (k n : Nat) (pc : Nat) (ls : List (Option AV)) (st : List AV) (h : AH) : Prop :=
  ∀ (p : Program) (l : Launch) (e : Env) (s : State) (mid : MethodId) (args : Array Value) (below : List Frame) (meth : Method) (c : Code) (D : va_G) (tc : Nat → ClassId) (ad0 ad : Nat → Nat → Nat) (h0 : AH) (H : Heap) (locs : List Loc) (LS : Array Slot),
    Cx D tc m p s mid args meth c ad0 (Af ad0 h0 s.heap.size) → Wd D tc ad h H (Af ad0 h0 s.heap.size) → va_S (Af ad0 h0 s.heap.size) s.heap H locs → Lc ad m.2.2.1 ls LS → Ex ad0 h0 ad h →
    W p l e (rmd d mc ms) s mid args below meth c H locs k n (MQ below (Pq D tc (Af ad0 h0 s.heap.size) ad0 h0 Q) args s mc ms (Af ad0 h0 s.heap.size)) (F0 mid pc LS (st.map (cv ad)))
def Runs (d mc ms : Nat) (m : MI) (as : List AV) (h : AH) (Q : Option AV → AH → Prop) : Prop :=
  ∀ (l : Launch) (D : va_G) (tc : Nat → ClassId) (ad : Nat → Nat → Nat) (sz : Nat), Met l m.1 (wsm m) (rmd d mc ms) (va_Pc (as.map (cv ad)) (fun U => U.heap.size = sz ∧ Wd D tc ad h U.heap (fun _ => True) ∧ va_K D vwCl (tysOf tc) U ∧ Xs ad (Af ad h sz) U U.heap)) (Pq D tc (Af ad h sz) ad h Q) mc ms (Af ad h sz)
/-- a decoded instruction: what it is, how long, what stands behind it -/
def Dc (m : MI) (pc : Nat) (i : Instr) (n : Nat) (pc' : Nat) : Prop := decode m.2.1 pc = .ok (i, n) ∧ pc + n = pc'
/-- the locals at the entry -/
def lcs : List AV → List (Option AV)
  | [] => []
  | v :: vs => if ct v = 2 then some v :: none :: lcs vs else some v :: lcs vs
def lce (n : Nat) (as : List AV) : List (Option AV) := lcs as ++ List.replicate (n - (lcs as).length) none
theorem lcs_sl (ad : Nat → Nat → Nat) (as : List AV) : (lg_sl (as.map (cv ad))).length = (lcs as).length := by
  induction as with
  | nil => rfl
  | cons v vs ih =>
    show (lg_sl (cv ad v :: vs.map (cv ad))).length = _
    by_cases hc : ct v = 2
    · have e : lg_sl (cv ad v :: vs.map (cv ad)) = Slot.val (cv ad v) :: Slot.second :: lg_sl (vs.map (cv ad)) := by simp [lg_sl, cv_cat, hc]
      rw [e]; simp [lcs, hc, ih]
    · have e : lg_sl (cv ad v :: vs.map (cv ad)) = Slot.val (cv ad v) :: lg_sl (vs.map (cv ad)) := by simp [lg_sl, cv_cat, hc]
      rw [e]; simp [lcs, hc, ih]
theorem lcs_args (ad : Nat → Nat → Nat) (as : List AV) : ∀ (b i : Nat) (v : AV), (lcs as)[i]? = some (some v) → (b + i, cv ad v) ∈ lv_args b (as.map (cv ad)) := by
  induction as with
  | nil => intro b i v h; simp [lcs] at h
  | cons w ws ih =>
    intro b i v h
    show _ ∈ lv_args b (cv ad w :: ws.map (cv ad))
    simp only [lv_args, cv_cat]
    by_cases hc : ct w = 2
    · rw [lcs, if_pos hc] at h
      rw [if_pos hc]
      match i, h with
      | 0, h => simp at h; subst h; exact List.mem_cons_self
      | 1, h => simp at h
      | i + 2, h =>
        simp at h
        have := ih (b + 2) i v h
        rw [show b + (i + 2) = b + 2 + i by omega]
        exact List.mem_cons_of_mem _ this
    · rw [lcs, if_neg hc] at h
      rw [if_neg hc]
      match i, h with
      | 0, h => simp at h; subst h; exact List.mem_cons_self
      | i + 1, h =>
        simp at h
        have := ih (b + 1) i v h
        rw [show b + (i + 1) = b + 1 + i by omega]
        exact List.mem_cons_of_mem _ this
theorem lce_has (ad : Nat → Nat → Nat) (as : List AV) {n : Nat} (hn : (lcs as).length ≤ n) : Lc ad n (lce n as) (lg_sl (as.map (cv ad)) ++ List.replicate (n - (lg_sl (as.map (cv ad))).length) Slot.unset).toArray := by
  obtain ⟨h1, h2, h3⟩ := lv_entry (as.map (cv ad)) (n := n) (by rw [lcs_sl]; exact hn)
  refine ⟨h1, h2, by simp [lce]; omega, fun i v h => ?_⟩
  have hi : (lcs as)[i]? = some (some v) := by
    rw [lce] at h
    by_cases hl : i < (lcs as).length
    · rwa [List.getElem?_append_left hl] at h
    · rw [List.getElem?_append_right (by omega)] at h
      rw [List.getElem?_replicate] at h
      split at h <;> simp at h
  have := h3 _ (lcs_args ad as 0 i v hi)
  simpa using this
theorem wl_at {tc : Nat → ClassId} {ad : Nat → Nat → Nat} {h : AH} {k n : Nat} (hm : (k, n) ∈ h.1) : ∃ q0 : Nat, (wl tc ad h)[q0]? = some (ad k n, en tc ad h k n) ∧ h.1[q0]? = some (k, n) := by
  obtain ⟨q0, hq⟩ := List.getElem?_of_mem hm
  exact ⟨q0, by simp [wl, hq], hq⟩
theorem wl_mem {tc : Nat → ClassId} {ad : Nat → Nat → Nat} {h : AH} {q : Nat} {e : va_E} : (∃ i : Nat, (wl tc ad h)[i]? = some (q, e)) → ∃ x ∈ h.1, q = ad x.1 x.2 := by
  rintro ⟨i, hi⟩
  simp only [wl, List.getElem?_map] at hi
  cases hx : h.1[i]? with
  | none => rw [hx] at hi; simp at hi
  | some x => rw [hx] at hi; simp at hi; exact ⟨x, List.mem_of_getElem? hx, hi.1.symm⟩
theorem Wd.inj {D : va_G} {tc : Nat → ClassId} {ad : Nat → Nat → Nat} {h : AH} {H : Heap} {A : Nat → Prop} (hW : Wd D tc ad h H A) {x y : Nat × Nat} (hx : x ∈ h.1) (hy : y ∈ h.1) (e : ad x.1 x.2 = ad y.1 y.2) : x = y := by
  obtain ⟨i, h1, h2⟩ := wl_at (tc := tc) (ad := ad) (h := h) (k := x.1) (n := x.2) hx
  obtain ⟨j, h3, h4⟩ := wl_at (tc := tc) (ad := ad) (h := h) (k := y.1) (n := y.2) hy
  have := hW.2.1.1 i j _ _ h1 h3 e
  subst this
  rw [h2] at h4
  exact Option.some.inj h4
theorem Wd.in {D : va_G} {tc : Nat → ClassId} {ad : Nat → Nat → Nat} {h : AH} {H : Heap} {A : Nat → Prop} (hW : Wd D tc ad h H A) {x : Nat × Nat} (hx : x ∈ h.1) : A (ad x.1 x.2) := by
  obtain ⟨i, h1, -⟩ := wl_at (tc := tc) (ad := ad) (h := h) (k := x.1) (n := x.2) hx
  exact hW.2.1.2 i _ h1
/-- a world with one cell written -/
theorem wl_set {tc : Nat → ClassId} {ad : Nat → Nat → Nat} {h h' : AH} {q0 k n : Nat} (ho : h'.1 = h.1) (hnd : h.1.Nodup) (hq : h.1[q0]? = some (k, n)) (hne : ∀ a b : Nat, ¬ (a = k ∧ b = n) → en tc ad h' a b = en tc ad h a b) : (wl tc ad h).set q0 (ad k n, en tc ad h' k n) = wl tc ad h' := by
  refine List.ext_getElem? fun i => ?_
  have hl := (List.getElem?_eq_some_iff.mp hq).1
  by_cases hi : i = q0
  · subst hi
    rw [List.getElem?_set_self (by simp [wl]; exact hl)]
    simp [wl, ho, hq]
  · rw [List.getElem?_set_ne (Ne.symm hi)]
    simp only [wl, List.getElem?_map, ho]
    cases hx : h.1[i]? with
    | none => rfl
    | some x =>
      have hx2 : ¬ (x.1 = k ∧ x.2 = n) := by
        rintro ⟨rfl, rfl⟩
        exact hi ((List.getElem?_inj (List.getElem?_eq_some_iff.mp hx).1 hnd).mp (hx.trans hq.symm))
      simp [hne x.1 x.2 hx2]
