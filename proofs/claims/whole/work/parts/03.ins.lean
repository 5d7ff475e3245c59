/-! ===== the instructions over the smaller machine ===== -/
def dl : Option AV → Option AV
  | some (.inr (.inl _)) => none
  | z => z
def st1 : Nat → AV → List (Option AV) → List (Option AV)
  | 0, v, _ :: t => some v :: t
  | 1, v, a :: _ :: t => dl a :: some v :: t
  | i + 2, v, a :: t => a :: st1 (i + 1) v t
  | _, _, l => l
def st2 : Nat → AV → List (Option AV) → List (Option AV)
  | 0, v, _ :: _ :: t => some v :: none :: t
  | 1, v, a :: _ :: _ :: t => dl a :: some v :: none :: t
  | i + 2, v, a :: t => a :: st2 (i + 1) v t
  | _, _, l => l
theorem dl_some {z : Option AV} {w : AV} (h : dl z = some w) : z = some w ∧ ¬ ct w = 2 := by
  match z, h with
  | some (.inl x), h => simp [dl] at h; subst h; exact ⟨rfl, fun z => by simp [ct] at z⟩
  | some (.inr (.inl x)), h => simp [dl] at h
  | some (.inr (.inr (.inl x))), h => simp [dl] at h; subst h; exact ⟨rfl, fun z => by simp [ct] at z⟩
  | some (.inr (.inr (.inr x))), h => simp [dl] at h; subst h; exact ⟨rfl, fun z => by simp [ct] at z⟩
  | none, h => simp [dl] at h
theorem st1_len (i : Nat) (v : AV) (ls : List (Option AV)) : (st1 i v ls).length = ls.length := by
  induction i generalizing ls with
  | zero => cases ls <;> simp [st1]
  | succ i ih =>
    cases i with
    | zero =>
      match ls with
      | [] => simp [st1]
      | [a] => simp [st1]
      | a :: b :: t => simp [st1]
    | succ i =>
      cases ls with
      | nil => simp [st1]
      | cons a t => simp [st1, ih]
theorem st1_at (v : AV) : ∀ (i : Nat) (ls : List (Option AV)) (j : Nat) (w : AV), i < ls.length → (st1 i v ls)[j]? = some (some w) → (j = i ∧ w = v) ∨ (j ≠ i ∧ ls[j]? = some (some w) ∧ ¬ (j + 1 = i ∧ ct w = 2)) := by
  intro i
  induction i with
  | zero =>
    intro ls j w hl h
    match ls, j, h with
    | a :: t, 0, h => simp [st1] at h; exact Or.inl ⟨rfl, h.symm⟩
    | a :: t, j + 1, h => simp [st1] at h; exact Or.inr ⟨by omega, by simpa using h, by omega⟩
  | succ i ih =>
    intro ls j w hl h
    cases i with
    | zero =>
      match ls, j, hl, h with
      | [], _, hl, h => simp at hl
      | [a], _, hl, h => simp at hl
      | a :: b :: t, 0, hl, h =>
        simp [st1] at h
        obtain ⟨h1, h2⟩ := dl_some h
        exact Or.inr ⟨by omega, by simp [h1], fun q => h2 q.2⟩
      | a :: b :: t, 1, hl, h => simp [st1] at h; exact Or.inl ⟨rfl, h.symm⟩
      | a :: b :: t, j + 2, hl, h => simp [st1] at h; exact Or.inr ⟨by omega, by simpa using h, by omega⟩
    | succ i =>
      match ls, j, hl, h with
      | [], _, hl, h => simp at hl
      | a :: t, 0, hl, h => simp [st1] at h; exact Or.inr ⟨by omega, by simp [h], by omega⟩
      | a :: t, j + 1, hl, h =>
        simp [st1] at h
        rcases ih t j w (by simpa using hl) h with ⟨h1, h2⟩ | ⟨h1, h2, h3⟩
        · exact Or.inl ⟨by omega, h2⟩
        · exact Or.inr ⟨by omega, by simpa using h2, fun q => h3 ⟨by omega, q.2⟩⟩
theorem st2_len (i : Nat) (v : AV) (ls : List (Option AV)) : (st2 i v ls).length = ls.length := by
  induction i generalizing ls with
  | zero =>
    match ls with
    | [] => simp [st2]
    | [a] => simp [st2]
    | a :: b :: t => simp [st2]
  | succ i ih =>
    cases i with
    | zero =>
      match ls with
      | [] => simp [st2]
      | [a] => simp [st2]
      | [a, b] => simp [st2]
      | a :: b :: c :: t => simp [st2]
    | succ i =>
      cases ls with
      | nil => simp [st2]
      | cons a t => simp [st2, ih]
theorem st2_at (v : AV) : ∀ (i : Nat) (ls : List (Option AV)) (j : Nat) (w : AV), i + 1 < ls.length → (st2 i v ls)[j]? = some (some w) → (j = i ∧ w = v) ∨ (j ≠ i ∧ j ≠ i + 1 ∧ ls[j]? = some (some w) ∧ ¬ (j + 1 = i ∧ ct w = 2)) := by
  intro i
  induction i with
  | zero =>
    intro ls j w hl h
    match ls, j, hl, h with
    | [], _, hl, h => simp at hl
    | [a], _, hl, h => simp at hl
    | a :: b :: t, 0, hl, h => simp [st2] at h; exact Or.inl ⟨rfl, h.symm⟩
    | a :: b :: t, 1, hl, h => simp [st2] at h
    | a :: b :: t, j + 2, hl, h => simp [st2] at h; exact Or.inr ⟨by omega, by omega, by simpa using h, by omega⟩
  | succ i ih =>
    intro ls j w hl h
    cases i with
    | zero =>
      match ls, j, hl, h with
      | [], _, hl, h => simp at hl
      | [a], _, hl, h => simp at hl
      | [a, b], _, hl, h => simp at hl
      | a :: b :: c :: t, 0, hl, h =>
        simp [st2] at h
        obtain ⟨h1, h2⟩ := dl_some h
        exact Or.inr ⟨by omega, by omega, by simp [h1], fun q => h2 q.2⟩
      | a :: b :: c :: t, 1, hl, h => simp [st2] at h; exact Or.inl ⟨rfl, h.symm⟩
      | a :: b :: c :: t, 2, hl, h => simp [st2] at h
      | a :: b :: c :: t, j + 3, hl, h => simp [st2] at h; exact Or.inr ⟨by omega, by omega, by simpa using h, by omega⟩
    | succ i =>
      match ls, j, hl, h with
      | [], _, hl, h => simp at hl
      | a :: t, 0, hl, h => simp [st2] at h; exact Or.inr ⟨by omega, by omega, by simp [h], by omega⟩
      | a :: t, j + 1, hl, h =>
        simp [st2] at h
        rcases ih t j w (by simpa using hl) h with ⟨h1, h2⟩ | ⟨h1, h2, h3, h4⟩
        · exact Or.inl ⟨by omega, h2⟩
        · exact Or.inr ⟨by omega, by omega, by simpa using h3, fun q => h4 ⟨by omega, q.2⟩⟩
def prs (ad : Nat → Nat → Nat) (ls : List (Option AV)) : List (Nat × Value) := (List.range ls.length).filterMap (fun i => match ls[i]? with
  | some (some v) => some (i, cv ad v)
  | _ => none)
theorem prs_in {ad : Nat → Nat → Nat} {ls : List (Option AV)} {i : Nat} {v : AV} (h : ls[i]? = some (some v)) : (i, cv ad v) ∈ prs ad ls := by
  refine List.mem_filterMap.mpr ⟨i, List.mem_range.mpr (List.getElem?_eq_some_iff.mp h).1, ?_⟩
  simp only [h]
theorem prs_of {ad : Nat → Nat → Nat} {ls : List (Option AV)} {q : Nat × Value} (h : q ∈ prs ad ls) : ∃ v : AV, ls[q.1]? = some (some v) ∧ q.2 = cv ad v := by
  obtain ⟨i, -, hi⟩ := List.mem_filterMap.mp h
  split at hi
  · rename_i v hv
    cases hi
    exact ⟨v, hv, rfl⟩
  · cases hi
theorem Lc.has {ad : Nat → Nat → Nat} {n : Nat} {ls : List (Option AV)} {LS : Array Slot} (h : Lc ad n ls LS) : lv_has LS n (prs ad ls) := by
  obtain ⟨h1, h2, h3, h4⟩ := h
  refine ⟨h1, h2, fun q hq => ?_⟩
  obtain ⟨v, e1, e2⟩ := prs_of hq
  rw [e2]
  exact h4 _ _ e1
theorem Lc.s1 {ad : Nat → Nat → Nat} {n i : Nat} {ls : List (Option AV)} {LS LS' : Array Slot} {v : AV} (h : Lc ad n ls LS) (hi : i < n) (h' : lv_has LS' n ((i, cv ad v) :: (prs ad ls).filter (fun q => !(q.1 == i) && !(q.1 + 1 == i && q.2.category == 2)))) : Lc ad n (st1 i v ls) LS' := by
  obtain ⟨h1, h2, h3, h4⟩ := h
  refine ⟨h'.1, h'.2.1, (st1_len i v ls).trans h3, fun j w hj => ?_⟩
  rcases st1_at v i ls j w (by omega) hj with ⟨rfl, rfl⟩ | ⟨a, b, c⟩
  · exact h'.2.2 _ List.mem_cons_self
  · refine h'.2.2 (j, cv ad w) (List.mem_cons_of_mem _ (List.mem_filter.mpr ⟨prs_in b, ?_⟩))
    simp only [cv_cat, Bool.and_eq_true, Bool.not_eq_true', beq_eq_false_iff_ne, Bool.and_eq_false_iff]
    refine ⟨a, ?_⟩
    by_cases q : j + 1 = i
    · exact Or.inr (fun z => c ⟨q, z⟩)
    · exact Or.inl q
theorem Lc.s2 {ad : Nat → Nat → Nat} {n i : Nat} {ls : List (Option AV)} {LS LS' : Array Slot} {v : AV} (h : Lc ad n ls LS) (hi : i + 1 < n) (h' : lv_has LS' n ((i, cv ad v) :: (prs ad ls).filter (fun q => !(q.1 == i) && (!(q.1 == i + 1) && !(q.1 + 1 == i && q.2.category == 2))))) : Lc ad n (st2 i v ls) LS' := by
  obtain ⟨h1, h2, h3, h4⟩ := h
  refine ⟨h'.1, h'.2.1, (st2_len i v ls).trans h3, fun j w hj => ?_⟩
  rcases st2_at v i ls j w (by omega) hj with ⟨rfl, rfl⟩ | ⟨a, a2, b, c⟩
  · exact h'.2.2 _ List.mem_cons_self
  · refine h'.2.2 (j, cv ad w) (List.mem_cons_of_mem _ (List.mem_filter.mpr ⟨prs_in b, ?_⟩))
    simp only [cv_cat, Bool.and_eq_true, Bool.not_eq_true', beq_eq_false_iff_ne, Bool.and_eq_false_iff]
    refine ⟨a, a2, ?_⟩
    by_cases q : j + 1 = i
    · exact Or.inr (fun z => c ⟨q, z⟩)
    · exact Or.inl q
section WPI
variable {d mc ms : Nat} {m : MI} {Q : Option AV → AH → Prop} {k n pc pc' : Nat} {ls : List (Option AV)} {st : List AV} {h : AH}
theorem Wp.iadd {x y : Int32} (hd : Dc m pc (.iadd) 1 pc') (k1 : Wp d mc ms m Q k n pc' ls (vi (x + y) :: st) h) : Wp d mc ms m Q k n pc ls (vi y :: vi x :: st) h := by
  intro p l e s mid args below meth c D tc ad0 ad h0 H locs LS C hW hS hL hE
  obtain ⟨hd1, rfl⟩ := hd
  exact lv_iadd C.1 C.2.1 hd1 (k1 p l e s mid args below meth c D tc ad0 ad h0 H locs LS C hW hS hL hE)
theorem Wp.isub {x y : Int32} (hd : Dc m pc (.isub) 1 pc') (k1 : Wp d mc ms m Q k n pc' ls (vi (x - y) :: st) h) : Wp d mc ms m Q k n pc ls (vi y :: vi x :: st) h := by
  intro p l e s mid args below meth c D tc ad0 ad h0 H locs LS C hW hS hL hE
  obtain ⟨hd1, rfl⟩ := hd
  exact lv_isub C.1 C.2.1 hd1 (k1 p l e s mid args below meth c D tc ad0 ad h0 H locs LS C hW hS hL hE)
theorem Wp.imul {x y : Int32} (hd : Dc m pc (.imul) 1 pc') (k1 : Wp d mc ms m Q k n pc' ls (vi (x * y) :: st) h) : Wp d mc ms m Q k n pc ls (vi y :: vi x :: st) h := by
  intro p l e s mid args below meth c D tc ad0 ad h0 H locs LS C hW hS hL hE
  obtain ⟨hd1, rfl⟩ := hd
  exact lv_imul C.1 C.2.1 hd1 (k1 p l e s mid args below meth c D tc ad0 ad h0 H locs LS C hW hS hL hE)
theorem Wp.iand {x y : Int32} (hd : Dc m pc (.iand) 1 pc') (k1 : Wp d mc ms m Q k n pc' ls (vi (x &&& y) :: st) h) : Wp d mc ms m Q k n pc ls (vi y :: vi x :: st) h := by
  intro p l e s mid args below meth c D tc ad0 ad h0 H locs LS C hW hS hL hE
  obtain ⟨hd1, rfl⟩ := hd
  exact lv_iand C.1 C.2.1 hd1 (k1 p l e s mid args below meth c D tc ad0 ad h0 H locs LS C hW hS hL hE)
theorem Wp.ior {x y : Int32} (hd : Dc m pc (.ior) 1 pc') (k1 : Wp d mc ms m Q k n pc' ls (vi (x ||| y) :: st) h) : Wp d mc ms m Q k n pc ls (vi y :: vi x :: st) h := by
  intro p l e s mid args below meth c D tc ad0 ad h0 H locs LS C hW hS hL hE
  obtain ⟨hd1, rfl⟩ := hd
  exact lv_ior C.1 C.2.1 hd1 (k1 p l e s mid args below meth c D tc ad0 ad h0 H locs LS C hW hS hL hE)
theorem Wp.ixor {x y : Int32} (hd : Dc m pc (.ixor) 1 pc') (k1 : Wp d mc ms m Q k n pc' ls (vi (x ^^^ y) :: st) h) : Wp d mc ms m Q k n pc ls (vi y :: vi x :: st) h := by
  intro p l e s mid args below meth c D tc ad0 ad h0 H locs LS C hW hS hL hE
  obtain ⟨hd1, rfl⟩ := hd
  exact lv_ixor C.1 C.2.1 hd1 (k1 p l e s mid args below meth c D tc ad0 ad h0 H locs LS C hW hS hL hE)
theorem Wp.idiv {x y : Int32} (hd : Dc m pc (.idiv) 1 pc') (hy : ¬ y = 0) (k1 : Wp d mc ms m Q k n pc' ls (vi (x / y) :: st) h) : Wp d mc ms m Q k n pc ls (vi y :: vi x :: st) h := by
  intro p l e s mid args below meth c D tc ad0 ad h0 H locs LS C hW hS hL hE
  obtain ⟨hd1, rfl⟩ := hd
  exact lv_idiv C.1 C.2.1 hd1 hy (k1 p l e s mid args below meth c D tc ad0 ad h0 H locs LS C hW hS hL hE)
theorem Wp.irem {x y : Int32} (hd : Dc m pc (.irem) 1 pc') (hy : ¬ y = 0) (k1 : Wp d mc ms m Q k n pc' ls (vi (x - x / y * y) :: st) h) : Wp d mc ms m Q k n pc ls (vi y :: vi x :: st) h := by
  intro p l e s mid args below meth c D tc ad0 ad h0 H locs LS C hW hS hL hE
  obtain ⟨hd1, rfl⟩ := hd
  exact lv_irem C.1 C.2.1 hd1 hy (k1 p l e s mid args below meth c D tc ad0 ad h0 H locs LS C hW hS hL hE)
theorem Wp.ishl {x y : Int32} (hd : Dc m pc (.ishl) 1 pc') (k1 : Wp d mc ms m Q k n pc' ls (vi (x <<< (y &&& 31)) :: st) h) : Wp d mc ms m Q k n pc ls (vi y :: vi x :: st) h := by
  intro p l e s mid args below meth c D tc ad0 ad h0 H locs LS C hW hS hL hE
  obtain ⟨hd1, rfl⟩ := hd
  exact lv_ishl C.1 C.2.1 hd1 (k1 p l e s mid args below meth c D tc ad0 ad h0 H locs LS C hW hS hL hE)
theorem Wp.ishr {x y : Int32} (hd : Dc m pc (.ishr) 1 pc') (k1 : Wp d mc ms m Q k n pc' ls (vi (x >>> (y &&& 31)) :: st) h) : Wp d mc ms m Q k n pc ls (vi y :: vi x :: st) h := by
  intro p l e s mid args below meth c D tc ad0 ad h0 H locs LS C hW hS hL hE
  obtain ⟨hd1, rfl⟩ := hd
  exact lv_ishr C.1 C.2.1 hd1 (k1 p l e s mid args below meth c D tc ad0 ad h0 H locs LS C hW hS hL hE)
theorem Wp.iushr {x y : Int32} (hd : Dc m pc (.iushr) 1 pc') (k1 : Wp d mc ms m Q k n pc' ls (vi ((x.toUInt32 >>> (y.toUInt32 &&& Int32.toUInt32 31)).toInt32) :: st) h) : Wp d mc ms m Q k n pc ls (vi y :: vi x :: st) h := by
  intro p l e s mid args below meth c D tc ad0 ad h0 H locs LS C hW hS hL hE
  obtain ⟨hd1, rfl⟩ := hd
  exact lv_iushr C.1 C.2.1 hd1 rfl (k1 p l e s mid args below meth c D tc ad0 ad h0 H locs LS C hW hS hL hE)
theorem Wp.ladd {x y : Int64} (hd : Dc m pc (.ladd) 1 pc') (k1 : Wp d mc ms m Q k n pc' ls (vl (x + y) :: st) h) : Wp d mc ms m Q k n pc ls (vl y :: vl x :: st) h := by
  intro p l e s mid args below meth c D tc ad0 ad h0 H locs LS C hW hS hL hE
  obtain ⟨hd1, rfl⟩ := hd
  exact lv_ladd C.1 C.2.1 hd1 (k1 p l e s mid args below meth c D tc ad0 ad h0 H locs LS C hW hS hL hE)
theorem Wp.lsub {x y : Int64} (hd : Dc m pc (.lsub) 1 pc') (k1 : Wp d mc ms m Q k n pc' ls (vl (x - y) :: st) h) : Wp d mc ms m Q k n pc ls (vl y :: vl x :: st) h := by
  intro p l e s mid args below meth c D tc ad0 ad h0 H locs LS C hW hS hL hE
  obtain ⟨hd1, rfl⟩ := hd
  exact lv_lsub C.1 C.2.1 hd1 (k1 p l e s mid args below meth c D tc ad0 ad h0 H locs LS C hW hS hL hE)
theorem Wp.lmul {x y : Int64} (hd : Dc m pc (.lmul) 1 pc') (k1 : Wp d mc ms m Q k n pc' ls (vl (x * y) :: st) h) : Wp d mc ms m Q k n pc ls (vl y :: vl x :: st) h := by
  intro p l e s mid args below meth c D tc ad0 ad h0 H locs LS C hW hS hL hE
  obtain ⟨hd1, rfl⟩ := hd
  exact lv_lmul C.1 C.2.1 hd1 (k1 p l e s mid args below meth c D tc ad0 ad h0 H locs LS C hW hS hL hE)
theorem Wp.land {x y : Int64} (hd : Dc m pc (.land) 1 pc') (k1 : Wp d mc ms m Q k n pc' ls (vl (x &&& y) :: st) h) : Wp d mc ms m Q k n pc ls (vl y :: vl x :: st) h := by
  intro p l e s mid args below meth c D tc ad0 ad h0 H locs LS C hW hS hL hE
  obtain ⟨hd1, rfl⟩ := hd
  exact lv_land C.1 C.2.1 hd1 (k1 p l e s mid args below meth c D tc ad0 ad h0 H locs LS C hW hS hL hE)
theorem Wp.lor {x y : Int64} (hd : Dc m pc (.lor) 1 pc') (k1 : Wp d mc ms m Q k n pc' ls (vl (x ||| y) :: st) h) : Wp d mc ms m Q k n pc ls (vl y :: vl x :: st) h := by
  intro p l e s mid args below meth c D tc ad0 ad h0 H locs LS C hW hS hL hE
  obtain ⟨hd1, rfl⟩ := hd
  exact lv_lor C.1 C.2.1 hd1 (k1 p l e s mid args below meth c D tc ad0 ad h0 H locs LS C hW hS hL hE)
theorem Wp.ldiv {x y : Int64} (hd : Dc m pc (.ldiv) 1 pc') (hy : ¬ y = 0) (k1 : Wp d mc ms m Q k n pc' ls (vl (x / y) :: st) h) : Wp d mc ms m Q k n pc ls (vl y :: vl x :: st) h := by
  intro p l e s mid args below meth c D tc ad0 ad h0 H locs LS C hW hS hL hE
  obtain ⟨hd1, rfl⟩ := hd
  exact lv_ldiv C.1 C.2.1 hd1 hy (k1 p l e s mid args below meth c D tc ad0 ad h0 H locs LS C hW hS hL hE)
theorem Wp.lrem {x y : Int64} (hd : Dc m pc (.lrem) 1 pc') (hy : ¬ y = 0) (k1 : Wp d mc ms m Q k n pc' ls (vl (x - x / y * y) :: st) h) : Wp d mc ms m Q k n pc ls (vl y :: vl x :: st) h := by
  intro p l e s mid args below meth c D tc ad0 ad h0 H locs LS C hW hS hL hE
  obtain ⟨hd1, rfl⟩ := hd
  exact lv_lrem C.1 C.2.1 hd1 hy (k1 p l e s mid args below meth c D tc ad0 ad h0 H locs LS C hW hS hL hE)
theorem Wp.lshl {x : Int64} {y : Int32} (hd : Dc m pc (.lshl) 1 pc') (k1 : Wp d mc ms m Q k n pc' ls (vl (x <<< (y.toInt64 &&& 63)) :: st) h) : Wp d mc ms m Q k n pc ls (vi y :: vl x :: st) h := by
  intro p l e s mid args below meth c D tc ad0 ad h0 H locs LS C hW hS hL hE
  obtain ⟨hd1, rfl⟩ := hd
  exact lv_lshl C.1 C.2.1 hd1 rfl (k1 p l e s mid args below meth c D tc ad0 ad h0 H locs LS C hW hS hL hE)
theorem Wp.lcmp {x y : Int64} (hd : Dc m pc (.lcmp) 1 pc') (k1 : Wp d mc ms m Q k n pc' ls (vi (lg_cmp x y) :: st) h) : Wp d mc ms m Q k n pc ls (vl y :: vl x :: st) h := by
  intro p l e s mid args below meth c D tc ad0 ad h0 H locs LS C hW hS hL hE
  obtain ⟨hd1, rfl⟩ := hd
  exact W.lcmp C.1 C.2.1 hd1 (k1 p l e s mid args below meth c D tc ad0 ad h0 H locs LS C hW hS hL hE)
theorem Wp.i2l {x : Int32} (hd : Dc m pc (.i2l) 1 pc') (k1 : Wp d mc ms m Q k n pc' ls (vl x.toInt64 :: st) h) : Wp d mc ms m Q k n pc ls (vi x :: st) h := by
  intro p l e s mid args below meth c D tc ad0 ad h0 H locs LS C hW hS hL hE
  obtain ⟨hd1, rfl⟩ := hd
  exact lv_i2l C.1 C.2.1 hd1 rfl (k1 p l e s mid args below meth c D tc ad0 ad h0 H locs LS C hW hS hL hE)
theorem Wp.l2i {x : Int64} (hd : Dc m pc (.l2i) 1 pc') (k1 : Wp d mc ms m Q k n pc' ls (vi x.toInt32 :: st) h) : Wp d mc ms m Q k n pc ls (vl x :: st) h := by
  intro p l e s mid args below meth c D tc ad0 ad h0 H locs LS C hW hS hL hE
  obtain ⟨hd1, rfl⟩ := hd
  exact lv_l2i C.1 C.2.1 hd1 rfl (k1 p l e s mid args below meth c D tc ad0 ad h0 H locs LS C hW hS hL hE)
theorem Wp.i2b {x : Int32} (hd : Dc m pc (.i2b) 1 pc') (k1 : Wp d mc ms m Q k n pc' ls (vi x.toInt8.toInt32 :: st) h) : Wp d mc ms m Q k n pc ls (vi x :: st) h := by
  intro p l e s mid args below meth c D tc ad0 ad h0 H locs LS C hW hS hL hE
  obtain ⟨hd1, rfl⟩ := hd
  exact lv_i2b C.1 C.2.1 hd1 rfl (k1 p l e s mid args below meth c D tc ad0 ad h0 H locs LS C hW hS hL hE)
theorem Wp.i2s {x : Int32} (hd : Dc m pc (.i2s) 1 pc') (k1 : Wp d mc ms m Q k n pc' ls (vi x.toInt16.toInt32 :: st) h) : Wp d mc ms m Q k n pc ls (vi x :: st) h := by
  intro p l e s mid args below meth c D tc ad0 ad h0 H locs LS C hW hS hL hE
  obtain ⟨hd1, rfl⟩ := hd
  exact lv_i2s C.1 C.2.1 hd1 rfl (k1 p l e s mid args below meth c D tc ad0 ad h0 H locs LS C hW hS hL hE)
theorem Wp.i2c {x : Int32} (hd : Dc m pc (.i2c) 1 pc') (k1 : Wp d mc ms m Q k n pc' ls (vi (x.toUInt32 % 65536).toInt32 :: st) h) : Wp d mc ms m Q k n pc ls (vi x :: st) h := by
  intro p l e s mid args below meth c D tc ad0 ad h0 H locs LS C hW hS hL hE
  obtain ⟨hd1, rfl⟩ := hd
  exact lv_i2c C.1 C.2.1 hd1 rfl (k1 p l e s mid args below meth c D tc ad0 ad h0 H locs LS C hW hS hL hE)
theorem Wp.iconst {z : Int} {v : Int32} (hd : Dc m pc (.iconst z) 1 pc') (hv : Int32.ofInt z = v) (k1 : Wp d mc ms m Q k n pc' ls (vi v :: st) h) : Wp d mc ms m Q k n pc ls st h := by
  intro p l e s mid args below meth c D tc ad0 ad h0 H locs LS C hW hS hL hE
  obtain ⟨hd1, rfl⟩ := hd
  exact lv_iconst C.1 C.2.1 hd1 hv (k1 p l e s mid args below meth c D tc ad0 ad h0 H locs LS C hW hS hL hE)
theorem Wp.bipush {z : Int} {v : Int32} (hd : Dc m pc (.bipush z) 2 pc') (hv : (Int8.ofInt z).toInt32 = v) (k1 : Wp d mc ms m Q k n pc' ls (vi v :: st) h) : Wp d mc ms m Q k n pc ls st h := by
  intro p l e s mid args below meth c D tc ad0 ad h0 H locs LS C hW hS hL hE
  obtain ⟨hd1, rfl⟩ := hd
  exact lv_bipush C.1 C.2.1 hd1 hv (k1 p l e s mid args below meth c D tc ad0 ad h0 H locs LS C hW hS hL hE)
theorem Wp.sipush {z : Int} {v : Int32} (hd : Dc m pc (.sipush z) 3 pc') (hv : (Int16.ofInt z).toInt32 = v) (k1 : Wp d mc ms m Q k n pc' ls (vi v :: st) h) : Wp d mc ms m Q k n pc ls st h := by
  intro p l e s mid args below meth c D tc ad0 ad h0 H locs LS C hW hS hL hE
  obtain ⟨hd1, rfl⟩ := hd
  exact lv_sipush C.1 C.2.1 hd1 hv (k1 p l e s mid args below meth c D tc ad0 ad h0 H locs LS C hW hS hL hE)
theorem Wp.lconst {z : Fin 2} {v : Int64} (hd : Dc m pc (.lconst z) 1 pc') (hv : Int64.ofNat (z : Nat) = v) (k1 : Wp d mc ms m Q k n pc' ls (vl v :: st) h) : Wp d mc ms m Q k n pc ls st h := by
  intro p l e s mid args below meth c D tc ad0 ad h0 H locs LS C hW hS hL hE
  obtain ⟨hd1, rfl⟩ := hd
  exact lv_lconst C.1 C.2.1 hd1 hv (k1 p l e s mid args below meth c D tc ad0 ad h0 H locs LS C hW hS hL hE)
theorem Wp.ldc {ix : Nat} {v : Int32} (hd : Dc m pc (.ldc ix) 2 pc') (hw : Cond.constant m.1.cls ix v ∈ lw_g) (k1 : Wp d mc ms m Q k n pc' ls (vi v :: st) h) : Wp d mc ms m Q k n pc ls st h := by
  intro p l e s mid args below meth c D tc ad0 ad h0 H locs LS C hW hS hL hE
  obtain ⟨hd1, rfl⟩ := hd
  exact lv_ldc C.1 C.2.1 C.2.2.2.2.1 (C.2.2.2.2.2.1 _ hw) hd1 (k1 p l e s mid args below meth c D tc ad0 ad h0 H locs LS C hW hS hL hE)
theorem Wp.ldc_w {ix : Nat} {v : Int32} (hd : Dc m pc (.ldc_w ix) 3 pc') (hw : Cond.constant m.1.cls ix v ∈ lw_g) (k1 : Wp d mc ms m Q k n pc' ls (vi v :: st) h) : Wp d mc ms m Q k n pc ls st h := by
  intro p l e s mid args below meth c D tc ad0 ad h0 H locs LS C hW hS hL hE
  obtain ⟨hd1, rfl⟩ := hd
  exact lv_ldcw C.1 C.2.1 C.2.2.2.2.1 (C.2.2.2.2.2.1 _ hw) hd1 (k1 p l e s mid args below meth c D tc ad0 ad h0 H locs LS C hW hS hL hE)
theorem Wp.ldc2 {ix : Nat} {v : Int64} (hd : Dc m pc (.ldc2_w ix) 3 pc') (hw : Cond.constantLong m.1.cls ix v ∈ lw_g) (k1 : Wp d mc ms m Q k n pc' ls (vl v :: st) h) : Wp d mc ms m Q k n pc ls st h := by
  intro p l e s mid args below meth c D tc ad0 ad h0 H locs LS C hW hS hL hE
  obtain ⟨hd1, rfl⟩ := hd
  exact lv_ldc2 C.1 C.2.1 C.2.2.2.2.1 (C.2.2.2.2.2.1 _ hw) hd1 (k1 p l e s mid args below meth c D tc ad0 ad h0 H locs LS C hW hS hL hE)
theorem Wp.null  (hd : Dc m pc (.aconst_null) 1 pc') (k1 : Wp d mc ms m Q k n pc' ls (vn :: st) h) : Wp d mc ms m Q k n pc ls st h := by
  intro p l e s mid args below meth c D tc ad0 ad h0 H locs LS C hW hS hL hE
  obtain ⟨hd1, rfl⟩ := hd
  exact lv_null C.1 C.2.1 hd1 (k1 p l e s mid args below meth c D tc ad0 ad h0 H locs LS C hW hS hL hE)
theorem Wp.dup {v : AV} (hd : Dc m pc (.dup) 1 pc') (hv : ct v = 1) (k1 : Wp d mc ms m Q k n pc' ls (v :: v :: st) h) : Wp d mc ms m Q k n pc ls (v :: st) h := by
  intro p l e s mid args below meth c D tc ad0 ad h0 H locs LS C hW hS hL hE
  obtain ⟨hd1, rfl⟩ := hd
  exact lv_dup C.1 C.2.1 hd1 ((cv_cat ad v).trans hv) (k1 p l e s mid args below meth c D tc ad0 ad h0 H locs LS C hW hS hL hE)
theorem Wp.pop {v : AV} (hd : Dc m pc (.pop) 1 pc') (hv : ct v = 1) (k1 : Wp d mc ms m Q k n pc' ls st h) : Wp d mc ms m Q k n pc ls (v :: st) h := by
  intro p l e s mid args below meth c D tc ad0 ad h0 H locs LS C hW hS hL hE
  obtain ⟨hd1, rfl⟩ := hd
  exact lv_pop C.1 C.2.1 hd1 ((cv_cat ad v).trans hv) (k1 p l e s mid args below meth c D tc ad0 ad h0 H locs LS C hW hS hL hE)
theorem Wp.dup2 {v w : AV} (hd : Dc m pc (.dup2) 1 pc') (hv : ct v = 1) (hw : ct w = 1) (k1 : Wp d mc ms m Q k n pc' ls (v :: w :: v :: w :: st) h) : Wp d mc ms m Q k n pc ls (v :: w :: st) h := by
  intro p l e s mid args below meth c D tc ad0 ad h0 H locs LS C hW hS hL hE
  obtain ⟨hd1, rfl⟩ := hd
  exact lv_dup2_11 C.1 C.2.1 hd1 ((cv_cat ad v).trans hv) ((cv_cat ad w).trans hw) (k1 p l e s mid args below meth c D tc ad0 ad h0 H locs LS C hW hS hL hE)
theorem Wp.iload {i : Nat} {x : Int32} (hd : Dc m pc (.iload i) 2 pc') (hv : ls[i]? = some (some (vi x))) (k1 : Wp d mc ms m Q k n pc' ls (vi x :: st) h) : Wp d mc ms m Q k n pc ls st h := by
  intro p l e s mid args below meth c D tc ad0 ad h0 H locs LS C hW hS hL hE
  obtain ⟨hd1, rfl⟩ := hd
  exact lv_iload C.1 C.2.1 hd1 (hL.2.2.2 _ _ hv) (k1 p l e s mid args below meth c D tc ad0 ad h0 H locs LS C hW hS hL hE)
theorem Wp.iload_n {i : Fin 4} {x : Int32} (hd : Dc m pc (.iload_n i) 1 pc') (hv : ls[(i : Nat)]? = some (some (vi x))) (k1 : Wp d mc ms m Q k n pc' ls (vi x :: st) h) : Wp d mc ms m Q k n pc ls st h := by
  intro p l e s mid args below meth c D tc ad0 ad h0 H locs LS C hW hS hL hE
  obtain ⟨hd1, rfl⟩ := hd
  exact lv_iload_n C.1 C.2.1 hd1 rfl (hL.2.2.2 _ _ hv) (k1 p l e s mid args below meth c D tc ad0 ad h0 H locs LS C hW hS hL hE)
theorem Wp.lload {i : Nat} {x : Int64} (hd : Dc m pc (.lload i) 2 pc') (hv : ls[i]? = some (some (vl x))) (k1 : Wp d mc ms m Q k n pc' ls (vl x :: st) h) : Wp d mc ms m Q k n pc ls st h := by
  intro p l e s mid args below meth c D tc ad0 ad h0 H locs LS C hW hS hL hE
  obtain ⟨hd1, rfl⟩ := hd
  exact lv_lload C.1 C.2.1 hd1 (hL.2.2.2 _ _ hv) (k1 p l e s mid args below meth c D tc ad0 ad h0 H locs LS C hW hS hL hE)
theorem Wp.lload_n {i : Fin 4} {x : Int64} (hd : Dc m pc (.lload_n i) 1 pc') (hv : ls[(i : Nat)]? = some (some (vl x))) (k1 : Wp d mc ms m Q k n pc' ls (vl x :: st) h) : Wp d mc ms m Q k n pc ls st h := by
  intro p l e s mid args below meth c D tc ad0 ad h0 H locs LS C hW hS hL hE
  obtain ⟨hd1, rfl⟩ := hd
  exact lv_lload_n C.1 C.2.1 hd1 rfl (hL.2.2.2 _ _ hv) (k1 p l e s mid args below meth c D tc ad0 ad h0 H locs LS C hW hS hL hE)
theorem Wp.aload {i : Nat} {q r : Nat} (hd : Dc m pc (.aload i) 2 pc') (hv : ls[i]? = some (some (vr q r))) (k1 : Wp d mc ms m Q k n pc' ls (vr q r :: st) h) : Wp d mc ms m Q k n pc ls st h := by
  intro p l e s mid args below meth c D tc ad0 ad h0 H locs LS C hW hS hL hE
  obtain ⟨hd1, rfl⟩ := hd
  exact lv_aload C.1 C.2.1 hd1 (hL.2.2.2 _ _ hv) (k1 p l e s mid args below meth c D tc ad0 ad h0 H locs LS C hW hS hL hE)
theorem Wp.aload_n {i : Fin 4} {q r : Nat} (hd : Dc m pc (.aload_n i) 1 pc') (hv : ls[(i : Nat)]? = some (some (vr q r))) (k1 : Wp d mc ms m Q k n pc' ls (vr q r :: st) h) : Wp d mc ms m Q k n pc ls st h := by
  intro p l e s mid args below meth c D tc ad0 ad h0 H locs LS C hW hS hL hE
  obtain ⟨hd1, rfl⟩ := hd
  exact lv_aload_n C.1 C.2.1 hd1 rfl (hL.2.2.2 _ _ hv) (k1 p l e s mid args below meth c D tc ad0 ad h0 H locs LS C hW hS hL hE)
theorem Wp.aloadN {i : Nat} (hd : Dc m pc (.aload i) 2 pc') (hv : ls[i]? = some (some vn)) (k1 : Wp d mc ms m Q k n pc' ls (vn :: st) h) : Wp d mc ms m Q k n pc ls st h := by
  intro p l e s mid args below meth c D tc ad0 ad h0 H locs LS C hW hS hL hE
  obtain ⟨hd1, rfl⟩ := hd
  exact lv_aloadN C.1 C.2.1 hd1 (hL.2.2.2 _ _ hv) (k1 p l e s mid args below meth c D tc ad0 ad h0 H locs LS C hW hS hL hE)
theorem Wp.aload_nN {i : Fin 4} (hd : Dc m pc (.aload_n i) 1 pc') (hv : ls[(i : Nat)]? = some (some vn)) (k1 : Wp d mc ms m Q k n pc' ls (vn :: st) h) : Wp d mc ms m Q k n pc ls st h := by
  intro p l e s mid args below meth c D tc ad0 ad h0 H locs LS C hW hS hL hE
  obtain ⟨hd1, rfl⟩ := hd
  exact lv_aload_nN C.1 C.2.1 hd1 rfl (hL.2.2.2 _ _ hv) (k1 p l e s mid args below meth c D tc ad0 ad h0 H locs LS C hW hS hL hE)
theorem Wp.istore {i : Nat} {x : Int32} (hd : Dc m pc (.istore i) 2 pc') (hi : i < m.2.2.1) (k1 : Wp d mc ms m Q k n pc' (st1 i (vi x) ls) st h) : Wp d mc ms m Q k n pc ls (vi x :: st) h := by
  intro p l e s mid args below meth c D tc ad0 ad h0 H locs LS C hW hS hL hE
  obtain ⟨hd1, rfl⟩ := hd
  exact lv_istore C.1 C.2.1 hd1 hL.has hi rfl (fun LS' hl' => k1 p l e s mid args below meth c D tc ad0 ad h0 H locs LS' C hW hS (hL.s1 (v := vi x) hi hl') hE)
theorem Wp.istore_n {i : Fin 4} {x : Int32} (hd : Dc m pc (.istore_n i) 1 pc') (hi : (i : Nat) < m.2.2.1) (k1 : Wp d mc ms m Q k n pc' (st1 (i : Nat) (vi x) ls) st h) : Wp d mc ms m Q k n pc ls (vi x :: st) h := by
  intro p l e s mid args below meth c D tc ad0 ad h0 H locs LS C hW hS hL hE
  obtain ⟨hd1, rfl⟩ := hd
  exact lv_istore_n C.1 C.2.1 hd1 rfl hL.has hi rfl (fun LS' hl' => k1 p l e s mid args below meth c D tc ad0 ad h0 H locs LS' C hW hS (hL.s1 (v := vi x) hi hl') hE)
theorem Wp.lstore {i : Nat} {x : Int64} (hd : Dc m pc (.lstore i) 2 pc') (hi : i + 1 < m.2.2.1) (k1 : Wp d mc ms m Q k n pc' (st2 i (vl x) ls) st h) : Wp d mc ms m Q k n pc ls (vl x :: st) h := by
  intro p l e s mid args below meth c D tc ad0 ad h0 H locs LS C hW hS hL hE
  obtain ⟨hd1, rfl⟩ := hd
  exact lv_lstore C.1 C.2.1 hd1 hL.has hi rfl (fun LS' hl' => k1 p l e s mid args below meth c D tc ad0 ad h0 H locs LS' C hW hS (hL.s2 (v := vl x) hi hl') hE)
theorem Wp.lstore_n {i : Fin 4} {x : Int64} (hd : Dc m pc (.lstore_n i) 1 pc') (hi : (i : Nat) + 1 < m.2.2.1) (k1 : Wp d mc ms m Q k n pc' (st2 (i : Nat) (vl x) ls) st h) : Wp d mc ms m Q k n pc ls (vl x :: st) h := by
  intro p l e s mid args below meth c D tc ad0 ad h0 H locs LS C hW hS hL hE
  obtain ⟨hd1, rfl⟩ := hd
  exact lv_lstore_n C.1 C.2.1 hd1 rfl hL.has hi rfl (fun LS' hl' => k1 p l e s mid args below meth c D tc ad0 ad h0 H locs LS' C hW hS (hL.s2 (v := vl x) hi hl') hE)
theorem Wp.astore {i : Nat} {q r : Nat} (hd : Dc m pc (.astore i) 2 pc') (hi : i < m.2.2.1) (k1 : Wp d mc ms m Q k n pc' (st1 i (vr q r) ls) st h) : Wp d mc ms m Q k n pc ls (vr q r :: st) h := by
  intro p l e s mid args below meth c D tc ad0 ad h0 H locs LS C hW hS hL hE
  obtain ⟨hd1, rfl⟩ := hd
  exact lv_astore C.1 C.2.1 hd1 hL.has hi rfl (fun LS' hl' => k1 p l e s mid args below meth c D tc ad0 ad h0 H locs LS' C hW hS (hL.s1 (v := vr q r) hi hl') hE)
theorem Wp.astore_n {i : Fin 4} {q r : Nat} (hd : Dc m pc (.astore_n i) 1 pc') (hi : (i : Nat) < m.2.2.1) (k1 : Wp d mc ms m Q k n pc' (st1 (i : Nat) (vr q r) ls) st h) : Wp d mc ms m Q k n pc ls (vr q r :: st) h := by
  intro p l e s mid args below meth c D tc ad0 ad h0 H locs LS C hW hS hL hE
  obtain ⟨hd1, rfl⟩ := hd
  exact lv_astore_n C.1 C.2.1 hd1 rfl hL.has hi rfl (fun LS' hl' => k1 p l e s mid args below meth c D tc ad0 ad h0 H locs LS' C hW hS (hL.s1 (v := vr q r) hi hl') hE)
theorem Wp.astoreN {i : Nat} (hd : Dc m pc (.astore i) 2 pc') (hi : i < m.2.2.1) (k1 : Wp d mc ms m Q k n pc' (st1 i (vn) ls) st h) : Wp d mc ms m Q k n pc ls (vn :: st) h := by
  intro p l e s mid args below meth c D tc ad0 ad h0 H locs LS C hW hS hL hE
  obtain ⟨hd1, rfl⟩ := hd
  exact lv_astoreN C.1 C.2.1 hd1 hL.has hi rfl (fun LS' hl' => k1 p l e s mid args below meth c D tc ad0 ad h0 H locs LS' C hW hS (hL.s1 (v := vn) hi hl') hE)
theorem Wp.astore_nN {i : Fin 4} (hd : Dc m pc (.astore_n i) 1 pc') (hi : (i : Nat) < m.2.2.1) (k1 : Wp d mc ms m Q k n pc' (st1 (i : Nat) (vn) ls) st h) : Wp d mc ms m Q k n pc ls (vn :: st) h := by
  intro p l e s mid args below meth c D tc ad0 ad h0 H locs LS C hW hS hL hE
  obtain ⟨hd1, rfl⟩ := hd
  exact lv_astore_nN C.1 C.2.1 hd1 rfl hL.has hi rfl (fun LS' hl' => k1 p l e s mid args below meth c D tc ad0 ad h0 H locs LS' C hW hS (hL.s1 (v := vn) hi hl') hE)
theorem Wp.iinc {i : Nat} {z : Int} {x v : Int32} (hd : Dc m pc (.iinc i z) 3 pc') (hv : ls[i]? = some (some (vi x))) (hx : x + Int32.ofInt z = v) (hi : i < m.2.2.1) (k1 : Wp d mc ms m Q k n pc' (st1 i (vi v) ls) st h) : Wp d mc ms m Q k n pc ls st h := by
  intro p l e s mid args below meth c D tc ad0 ad h0 H locs LS C hW hS hL hE
  obtain ⟨hd1, rfl⟩ := hd
  obtain ⟨j, hj⟩ := List.getElem?_of_mem (prs_in (ad := ad) hv)
  exact lv_iinc (k := j) (v := v) C.1 C.2.1 hd1 hL.has hj hx hi rfl (fun LS' hl' => k1 p l e s mid args below meth c D tc ad0 ad h0 H locs LS' C hW hS (hL.s1 (v := vi v) hi hl') hE)
theorem Wp.if_eq {x : Int32} {off : Int} {tgt : Nat} (hd : Dc m pc (.ifCond .eq off) 3 pc') (ht : (pc : Int) + off = (tgt : Int)) (kt : x = 0 → Wp d mc ms m Q k n tgt ls st h) (kf : ¬ (x = 0) → Wp d mc ms m Q k n pc' ls st h) : Wp d mc ms m Q k n pc ls (vi x :: st) h := by
  intro p l e s mid args below meth c D tc ad0 ad h0 H locs LS C hW hS hL hE
  obtain ⟨hd1, rfl⟩ := hd
  exact lv_if_eq C.1 C.2.1 hd1 ht (fun q => kt q p l e s mid args below meth c D tc ad0 ad h0 H locs LS C hW hS hL hE) (fun q => kf q p l e s mid args below meth c D tc ad0 ad h0 H locs LS C hW hS hL hE)
theorem Wp.if_ne {x : Int32} {off : Int} {tgt : Nat} (hd : Dc m pc (.ifCond .ne off) 3 pc') (ht : (pc : Int) + off = (tgt : Int)) (kt : ¬ x = 0 → Wp d mc ms m Q k n tgt ls st h) (kf : x = 0 → Wp d mc ms m Q k n pc' ls st h) : Wp d mc ms m Q k n pc ls (vi x :: st) h := by
  intro p l e s mid args below meth c D tc ad0 ad h0 H locs LS C hW hS hL hE
  obtain ⟨hd1, rfl⟩ := hd
  exact lv_if_ne C.1 C.2.1 hd1 ht (fun q => kt q p l e s mid args below meth c D tc ad0 ad h0 H locs LS C hW hS hL hE) (fun q => kf q p l e s mid args below meth c D tc ad0 ad h0 H locs LS C hW hS hL hE)
theorem Wp.if_lt {x : Int32} {off : Int} {tgt : Nat} (hd : Dc m pc (.ifCond .lt off) 3 pc') (ht : (pc : Int) + off = (tgt : Int)) (kt : x < 0 → Wp d mc ms m Q k n tgt ls st h) (kf : ¬ (x < 0) → Wp d mc ms m Q k n pc' ls st h) : Wp d mc ms m Q k n pc ls (vi x :: st) h := by
  intro p l e s mid args below meth c D tc ad0 ad h0 H locs LS C hW hS hL hE
  obtain ⟨hd1, rfl⟩ := hd
  exact lv_if_lt C.1 C.2.1 hd1 ht (fun q => kt q p l e s mid args below meth c D tc ad0 ad h0 H locs LS C hW hS hL hE) (fun q => kf q p l e s mid args below meth c D tc ad0 ad h0 H locs LS C hW hS hL hE)
theorem Wp.if_ge {x : Int32} {off : Int} {tgt : Nat} (hd : Dc m pc (.ifCond .ge off) 3 pc') (ht : (pc : Int) + off = (tgt : Int)) (kt : 0 ≤ x → Wp d mc ms m Q k n tgt ls st h) (kf : ¬ (0 ≤ x) → Wp d mc ms m Q k n pc' ls st h) : Wp d mc ms m Q k n pc ls (vi x :: st) h := by
  intro p l e s mid args below meth c D tc ad0 ad h0 H locs LS C hW hS hL hE
  obtain ⟨hd1, rfl⟩ := hd
  exact lv_if_ge C.1 C.2.1 hd1 ht (fun q => kt q p l e s mid args below meth c D tc ad0 ad h0 H locs LS C hW hS hL hE) (fun q => kf q p l e s mid args below meth c D tc ad0 ad h0 H locs LS C hW hS hL hE)
theorem Wp.if_gt {x : Int32} {off : Int} {tgt : Nat} (hd : Dc m pc (.ifCond .gt off) 3 pc') (ht : (pc : Int) + off = (tgt : Int)) (kt : 0 < x → Wp d mc ms m Q k n tgt ls st h) (kf : ¬ (0 < x) → Wp d mc ms m Q k n pc' ls st h) : Wp d mc ms m Q k n pc ls (vi x :: st) h := by
  intro p l e s mid args below meth c D tc ad0 ad h0 H locs LS C hW hS hL hE
  obtain ⟨hd1, rfl⟩ := hd
  exact lv_if_gt C.1 C.2.1 hd1 ht (fun q => kt q p l e s mid args below meth c D tc ad0 ad h0 H locs LS C hW hS hL hE) (fun q => kf q p l e s mid args below meth c D tc ad0 ad h0 H locs LS C hW hS hL hE)
theorem Wp.if_le {x : Int32} {off : Int} {tgt : Nat} (hd : Dc m pc (.ifCond .le off) 3 pc') (ht : (pc : Int) + off = (tgt : Int)) (kt : x ≤ 0 → Wp d mc ms m Q k n tgt ls st h) (kf : ¬ (x ≤ 0) → Wp d mc ms m Q k n pc' ls st h) : Wp d mc ms m Q k n pc ls (vi x :: st) h := by
  intro p l e s mid args below meth c D tc ad0 ad h0 H locs LS C hW hS hL hE
  obtain ⟨hd1, rfl⟩ := hd
  exact lv_if_le C.1 C.2.1 hd1 ht (fun q => kt q p l e s mid args below meth c D tc ad0 ad h0 H locs LS C hW hS hL hE) (fun q => kf q p l e s mid args below meth c D tc ad0 ad h0 H locs LS C hW hS hL hE)
theorem Wp.icmp_eq {x y : Int32} {off : Int} {tgt : Nat} (hd : Dc m pc (.if_icmp .eq off) 3 pc') (ht : (pc : Int) + off = (tgt : Int)) (kt : x = y → Wp d mc ms m Q k n tgt ls st h) (kf : ¬ (x = y) → Wp d mc ms m Q k n pc' ls st h) : Wp d mc ms m Q k n pc ls (vi y :: vi x :: st) h := by
  intro p l e s mid args below meth c D tc ad0 ad h0 H locs LS C hW hS hL hE
  obtain ⟨hd1, rfl⟩ := hd
  exact lv_icmp_eq C.1 C.2.1 hd1 ht (fun q => kt q p l e s mid args below meth c D tc ad0 ad h0 H locs LS C hW hS hL hE) (fun q => kf q p l e s mid args below meth c D tc ad0 ad h0 H locs LS C hW hS hL hE)
theorem Wp.icmp_ne {x y : Int32} {off : Int} {tgt : Nat} (hd : Dc m pc (.if_icmp .ne off) 3 pc') (ht : (pc : Int) + off = (tgt : Int)) (kt : ¬ x = y → Wp d mc ms m Q k n tgt ls st h) (kf : x = y → Wp d mc ms m Q k n pc' ls st h) : Wp d mc ms m Q k n pc ls (vi y :: vi x :: st) h := by
  intro p l e s mid args below meth c D tc ad0 ad h0 H locs LS C hW hS hL hE
  obtain ⟨hd1, rfl⟩ := hd
  exact lv_icmp_ne C.1 C.2.1 hd1 ht (fun q => kt q p l e s mid args below meth c D tc ad0 ad h0 H locs LS C hW hS hL hE) (fun q => kf q p l e s mid args below meth c D tc ad0 ad h0 H locs LS C hW hS hL hE)
theorem Wp.icmp_lt {x y : Int32} {off : Int} {tgt : Nat} (hd : Dc m pc (.if_icmp .lt off) 3 pc') (ht : (pc : Int) + off = (tgt : Int)) (kt : x < y → Wp d mc ms m Q k n tgt ls st h) (kf : ¬ (x < y) → Wp d mc ms m Q k n pc' ls st h) : Wp d mc ms m Q k n pc ls (vi y :: vi x :: st) h := by
  intro p l e s mid args below meth c D tc ad0 ad h0 H locs LS C hW hS hL hE
  obtain ⟨hd1, rfl⟩ := hd
  exact lv_icmp_lt C.1 C.2.1 hd1 ht (fun q => kt q p l e s mid args below meth c D tc ad0 ad h0 H locs LS C hW hS hL hE) (fun q => kf q p l e s mid args below meth c D tc ad0 ad h0 H locs LS C hW hS hL hE)
theorem Wp.icmp_ge {x y : Int32} {off : Int} {tgt : Nat} (hd : Dc m pc (.if_icmp .ge off) 3 pc') (ht : (pc : Int) + off = (tgt : Int)) (kt : y ≤ x → Wp d mc ms m Q k n tgt ls st h) (kf : ¬ (y ≤ x) → Wp d mc ms m Q k n pc' ls st h) : Wp d mc ms m Q k n pc ls (vi y :: vi x :: st) h := by
  intro p l e s mid args below meth c D tc ad0 ad h0 H locs LS C hW hS hL hE
  obtain ⟨hd1, rfl⟩ := hd
  exact lv_icmp_ge C.1 C.2.1 hd1 ht (fun q => kt q p l e s mid args below meth c D tc ad0 ad h0 H locs LS C hW hS hL hE) (fun q => kf q p l e s mid args below meth c D tc ad0 ad h0 H locs LS C hW hS hL hE)
theorem Wp.icmp_gt {x y : Int32} {off : Int} {tgt : Nat} (hd : Dc m pc (.if_icmp .gt off) 3 pc') (ht : (pc : Int) + off = (tgt : Int)) (kt : y < x → Wp d mc ms m Q k n tgt ls st h) (kf : ¬ (y < x) → Wp d mc ms m Q k n pc' ls st h) : Wp d mc ms m Q k n pc ls (vi y :: vi x :: st) h := by
  intro p l e s mid args below meth c D tc ad0 ad h0 H locs LS C hW hS hL hE
  obtain ⟨hd1, rfl⟩ := hd
  exact lv_icmp_gt C.1 C.2.1 hd1 ht (fun q => kt q p l e s mid args below meth c D tc ad0 ad h0 H locs LS C hW hS hL hE) (fun q => kf q p l e s mid args below meth c D tc ad0 ad h0 H locs LS C hW hS hL hE)
theorem Wp.icmp_le {x y : Int32} {off : Int} {tgt : Nat} (hd : Dc m pc (.if_icmp .le off) 3 pc') (ht : (pc : Int) + off = (tgt : Int)) (kt : x ≤ y → Wp d mc ms m Q k n tgt ls st h) (kf : ¬ (x ≤ y) → Wp d mc ms m Q k n pc' ls st h) : Wp d mc ms m Q k n pc ls (vi y :: vi x :: st) h := by
  intro p l e s mid args below meth c D tc ad0 ad h0 H locs LS C hW hS hL hE
  obtain ⟨hd1, rfl⟩ := hd
  exact lv_icmp_le C.1 C.2.1 hd1 ht (fun q => kt q p l e s mid args below meth c D tc ad0 ad h0 H locs LS C hW hS hL hE) (fun q => kf q p l e s mid args below meth c D tc ad0 ad h0 H locs LS C hW hS hL hE)
theorem Wp.goto {off : Int} {tgt : Nat} (hd : Dc m pc (.goto off) 3 pc') (ht : (pc : Int) + off = (tgt : Int)) (k1 : Wp d mc ms m Q k n tgt ls st h) : Wp d mc ms m Q k n pc ls st h := by
  intro p l e s mid args below meth c D tc ad0 ad h0 H locs LS C hW hS hL hE
  exact lv_goto C.1 C.2.1 hd.1 ht (k1 p l e s mid args below meth c D tc ad0 ad h0 H locs LS C hW hS hL hE)
theorem Wp.ifnonnull {q r : Nat} {off : Int} {tgt : Nat} (hd : Dc m pc (.ifnonnull off) 3 pc') (ht : (pc : Int) + off = (tgt : Int)) (k1 : Wp d mc ms m Q k n tgt ls st h) : Wp d mc ms m Q k n pc ls (vr q r :: st) h := by
  intro p l e s mid args below meth c D tc ad0 ad h0 H locs LS C hW hS hL hE
  exact lv_ifnonnull C.1 C.2.1 hd.1 ht (k1 p l e s mid args below meth c D tc ad0 ad h0 H locs LS C hW hS hL hE)
theorem Wp.ifnonnullN {off : Int} (hd : Dc m pc (.ifnonnull off) 3 pc') (k1 : Wp d mc ms m Q k n pc' ls st h) : Wp d mc ms m Q k n pc ls (vn :: st) h := by
  intro p l e s mid args below meth c D tc ad0 ad h0 H locs LS C hW hS hL hE
  obtain ⟨hd1, rfl⟩ := hd
  exact lv_ifnonnullN C.1 C.2.1 hd1 (k1 p l e s mid args below meth c D tc ad0 ad h0 H locs LS C hW hS hL hE)
theorem Wp.ifnull {q r : Nat} {off : Int} (hd : Dc m pc (.ifnull off) 3 pc') (k1 : Wp d mc ms m Q k n pc' ls st h) : Wp d mc ms m Q k n pc ls (vr q r :: st) h := by
  intro p l e s mid args below meth c D tc ad0 ad h0 H locs LS C hW hS hL hE
  obtain ⟨hd1, rfl⟩ := hd
  exact lv_ifnull C.1 C.2.1 hd1 (k1 p l e s mid args below meth c D tc ad0 ad h0 H locs LS C hW hS hL hE)
theorem Wp.ifnullN {off : Int} {tgt : Nat} (hd : Dc m pc (.ifnull off) 3 pc') (ht : (pc : Int) + off = (tgt : Int)) (k1 : Wp d mc ms m Q k n tgt ls st h) : Wp d mc ms m Q k n pc ls (vn :: st) h := by
  intro p l e s mid args below meth c D tc ad0 ad h0 H locs LS C hW hS hL hE
  exact lv_ifnullN C.1 C.2.1 hd.1 ht (k1 p l e s mid args below meth c D tc ad0 ad h0 H locs LS C hW hS hL hE)
theorem Wp.tswOut {dflt lo hi : Int} {offs : Array Int} {len : Nat} {x : Int32} {tgt : Nat} (hd : Dc m pc (.tableswitch dflt lo hi offs) len pc') (hx : x.toInt < lo ∨ hi < x.toInt) (ht : (pc : Int) + dflt = (tgt : Int)) (k1 : Wp d mc ms m Q k n tgt ls st h) : Wp d mc ms m Q k n pc ls (vi x :: st) h := by
  intro p l e s mid args below meth c D tc ad0 ad h0 H locs LS C hW hS hL hE
  exact lv_tableOut C.1 C.2.1 hd.1 hx ht (k1 p l e s mid args below meth c D tc ad0 ad h0 H locs LS C hW hS hL hE)
theorem Wp.tswIn {dflt lo hi off : Int} {offs : Array Int} {len : Nat} {x : Int32} {tgt : Nat} (hd : Dc m pc (.tableswitch dflt lo hi offs) len pc') (h1 : ¬ x.toInt < lo) (h2 : ¬ hi < x.toInt) (ho : offs[(x.toInt - lo).toNat]? = some off) (ht : (pc : Int) + off = (tgt : Int)) (k1 : Wp d mc ms m Q k n tgt ls st h) : Wp d mc ms m Q k n pc ls (vi x :: st) h := by
  intro p l e s mid args below meth c D tc ad0 ad h0 H locs LS C hW hS hL hE
  exact lv_tableIn C.1 C.2.1 hd.1 h1 h2 ho ht (k1 p l e s mid args below meth c D tc ad0 ad h0 H locs LS C hW hS hL hE)
theorem Wp.ireturn {x : Int32} {ty : FieldType} (hd : Dc m pc (.ireturn) 1 pc') (hr : m.2.2.2 = some ty) (hn : narrow ty (.int x) = .int x) (hk : k ≤ mc) (hs : n ≤ ms) (hQ : Q (some (vi x)) h) : Wp d mc ms m Q k n pc ls [vi x] h := by
  intro p l e s mid args below meth c D tc ad0 ad h0 H locs LS C hW hS hL hE
  obtain ⟨hd1, rfl⟩ := hd
  obtain ⟨c1, c2, c3, c4, c5, c6, c7, c8, c9⟩ := C
  refine W.widen hk hs ?_
  exact W.zret (v := x) c1 c2 (c3.trans hr) hn (fun t ht hWm => ⟨⟨some (vi x), h, ad, rfl, hQ, by rw [ht]; exact hW, hE⟩, hS.F ht⟩) hS.2.2 hd1 (hlocks := c7)
theorem Wp.lreturn {x : Int64} (hd : Dc m pc (.lreturn) 1 pc') (hr : m.2.2.2 = some .long) (hk : k ≤ mc) (hs : n ≤ ms) (hQ : Q (some (vl x)) h) : Wp d mc ms m Q k n pc ls [vl x] h := by
  intro p l e s mid args below meth c D tc ad0 ad h0 H locs LS C hW hS hL hE
  obtain ⟨hd1, rfl⟩ := hd
  obtain ⟨c1, c2, c3, c4, c5, c6, c7, c8, c9⟩ := C
  refine W.widen hk hs ?_
  exact W.lret (v := x) c1 c2 (c3.trans hr) (fun t ht hWm => ⟨⟨some (vl x), h, ad, rfl, hQ, by rw [ht]; exact hW, hE⟩, hS.F ht⟩) hS.2.2 hd1 (hlocks := c7)
theorem Wp.return  (hd : Dc m pc (.return_) 1 pc') (hr : m.2.2.2 = none) (hk : k ≤ mc) (hs : n ≤ ms) (hQ : Q (none) h) : Wp d mc ms m Q k n pc ls [] h := by
  intro p l e s mid args below meth c D tc ad0 ad h0 H locs LS C hW hS hL hE
  obtain ⟨hd1, rfl⟩ := hd
  obtain ⟨c1, c2, c3, c4, c5, c6, c7, c8, c9⟩ := C
  refine W.widen hk hs ?_
  exact W.vret c1 c2 (c3.trans hr) (fun t ht hWm => ⟨⟨none, h, ad, rfl, hQ, by rw [ht]; exact hW, hE⟩, hS.F ht⟩) hS.2.2 hd1 (hlocks := c7)
theorem Wp.areturn {q r : Nat} {rt : String} (hd : Dc m pc (.areturn) 1 pc') (hr : m.2.2.2 = some (.object rt)) (hk : k ≤ mc) (hs : n ≤ ms) (hQ : Q (some (vr q r)) h) : Wp d mc ms m Q k n pc ls [vr q r] h := by
  intro p l e s mid args below meth c D tc ad0 ad h0 H locs LS C hW hS hL hE
  obtain ⟨hd1, rfl⟩ := hd
  obtain ⟨c1, c2, c3, c4, c5, c6, c7, c8, c9⟩ := C
  refine W.widen hk hs ?_
  exact W.aret (v := .ref (ad q r)) c1 c2 (c3.trans hr) (Or.inl ⟨_, rfl⟩) (Or.inr ⟨_, rfl⟩) (fun t ht hWm => ⟨⟨some (vr q r), h, ad, rfl, hQ, by rw [ht]; exact hW, hE⟩, hS.F ht⟩) hS.2.2 hd1 (hlocks := c7)
theorem Wp.areturnN {rt : String} (hd : Dc m pc .areturn 1 pc') (hr : m.2.2.2 = some (.object rt)) (hk : k ≤ mc) (hs : n ≤ ms) (hQ : Q (some vn) h) : Wp d mc ms m Q k n pc ls [vn] h := by
  intro p l e s mid args below meth c D tc ad0 ad h0 H locs LS C hW hS hL hE
  obtain ⟨hd1, rfl⟩ := hd
  obtain ⟨c1, c2, c3, c4, c5, c6, c7, c8, c9⟩ := C
  refine W.widen hk hs ?_
  exact W.aret (v := .null) c1 c2 (c3.trans hr) (Or.inl ⟨_, rfl⟩) (Or.inl rfl) (fun t ht hWm => ⟨⟨some vn, h, ad, rfl, hQ, by rw [ht]; exact hW, hE⟩, hS.F ht⟩) hS.2.2 hd1 (hlocks := c7)
end WPI
