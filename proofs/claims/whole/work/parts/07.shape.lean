/-! ===== the static shape after the constructors (by program: wip/whole/shape.py) ===== -/
def TRl : List Nat := [4, 7, 3, 1, 4, 7, 3, 1, 4, 7, 3, 1, 4, 7, 3, 1, 4, 7, 3, 1, 3, 1, 2, 1, 1, 1, 1, 1, 1, 1, 1]
def TWl : List Nat := [60, 8, 24, 3, 60, 8, 24, 3, 60, 8, 24, 3, 60, 8, 24, 3, 60, 8, 24, 3, 4, 3, 24, 4, 4, 256, 8, 256, 5, 5, 60]
def TR (t : Nat) : Nat := TRl.getD t 0
def TW (t : Nat) : Nat := TWl.getD t 0
def L13 : List Nat := [240, 56, 72, 3, 240, 56, 72, 3, 240, 56, 72, 3, 240, 56, 72, 3, 240, 56, 72, 3, 12, 3, 48, 4, 4, 256, 8, 256, 5, 5, 60, 900, 4, 4, 2050, 132, 24, 24, 4, 4, 256, 8, 8, 132, 5, 132]
def L14 : List Nat := [11, 11, 11, 11, 11, 240, 240, 55]
def LN (k n : Nat) : Nat := match k with
  | 12 => 900
  | 13 => L13.getD n 0
  | 14 => L14.getD n 0
  | 15 => 3
  | _ => 0
def RF (k n j : Nat) : Option Nat := match k with
  | 0 => match j with
    | 0 => some (n)
    | 1 => some (4 * n + 1)
    | 2 => some (4 * n + 2)
    | 3 => some (4 * n + 3)
    | 4 => some (n)
    | _ => none
  | 1 => match j with
    | 0 => some (0)
    | _ => none
  | 2 => match j with
    | 0 => some (0)
    | 1 => some (28)
    | 2 => some (29)
    | 3 => some (30)
    | _ => none
  | 3 => match j with
    | 0 => some (TR n)
    | 1 => some (TW n)
    | 2 => some (n)
    | _ => none
  | 4 => match j with
    | 0 => some (31)
    | _ => none
  | 5 => match j with
    | 0 => some (5)
    | 1 => some (20)
    | _ => none
  | 6 => match j with
    | 0 => some (22)
    | 4 => some (23)
    | 5 => some (24)
    | 7 => some (25)
    | 8 => some (26)
    | _ => none
  | 7 => match j with
    | 0 => some (27)
    | _ => none
  | 8 => match j with
    | 0 => some (4 * n)
    | _ => none
  | 9 => match j with
    | 0 => some (0)
    | 1 => some (21)
    | _ => none
  | 10 => match j with
    | 0 => some (0)
    | 1 => some (0)
    | 2 => some (0)
    | 3 => some (0)
    | 4 => some (0)
    | 5 => some (1)
    | 6 => some (0)
    | 7 => some (0)
    | 8 => some (0)
    | 9 => some (0)
    | _ => none
  | 11 => match j with
    | 4 => some (32)
    | 5 => some (33)
    | 6 => some (6)
    | 7 => some (0)
    | 20 => some (34)
    | 21 => some (35)
    | 22 => some (7)
    | 29 => some (36)
    | 30 => some (37)
    | 31 => some (38)
    | 32 => some (39)
    | 34 => some (40)
    | 35 => some (41)
    | 36 => some (42)
    | 37 => some (43)
    | 40 => some (44)
    | 41 => some (45)
    | _ => none
  | 15 => match j with
    | 0 => some 2
    | 1 => some 3
    | 2 => some 4
    | _ => none
  | _ => none
def OS : List (Nat × Nat) := [(10, 0), (5, 0), (14, 5), (3, 20), (13, 20), (4, 0), (13, 31), (1, 0), (9, 0), (3, 21), (13, 21), (0, 0), (8, 0), (3, 0), (13, 0), (3, 1), (13, 1), (3, 2), (13, 2), (3, 3), (13, 3), (14, 0), (0, 1), (8, 1), (3, 4), (13, 4), (3, 5), (13, 5), (3, 6), (13, 6), (3, 7), (13, 7), (14, 1), (15, 0), (0, 2), (8, 2), (3, 8), (13, 8), (3, 9), (13, 9), (3, 10), (13, 10), (3, 11), (13, 11), (14, 2), (0, 3), (8, 3), (3, 12), (13, 12), (3, 13), (13, 13), (3, 14), (13, 14), (3, 15), (13, 15), (14, 3), (0, 4), (8, 4), (3, 16), (13, 16), (3, 17), (13, 17), (3, 18), (13, 18), (3, 19), (13, 19), (14, 4), (6, 0), (3, 22), (13, 22), (3, 23), (13, 23), (3, 24), (13, 24), (3, 25), (13, 25), (3, 26), (13, 26), (7, 0), (3, 27), (13, 27), (2, 0), (3, 28), (13, 28), (3, 29), (13, 29), (3, 30), (13, 30), (11, 0), (13, 32), (13, 33), (14, 6), (12, 0), (13, 34), (13, 35), (14, 7), (13, 36), (13, 37), (13, 38), (13, 39), (13, 40), (13, 41), (13, 42), (13, 43), (13, 44), (13, 45)]
/-- the state: ints, longs -/
abbrev SS : Type := (Nat → Nat → Nat → Int32) × (Nat → Nat → Nat → Int64)
def hp (σ : SS) : AH := (OS, LN, RF, σ.1, σ.2)
def wI (σ : SS) (k n j : Nat) (x : Int32) : SS := (up3 σ.1 k n j x, σ.2)
def wJ (σ : SS) (k n j : Nat) (x : Int64) : SS := (σ.1, up3 σ.2 k n j x)
theorem mO0 {n : Nat} (h : n < 5) : (0, n) ∈ OS := by
  have z : ∀ n, n < 5 → (0, n) ∈ OS := by decide +kernel
  exact z n h
theorem mO1 {n : Nat} (h : n < 1) : (1, n) ∈ OS := by
  have z : ∀ n, n < 1 → (1, n) ∈ OS := by decide +kernel
  exact z n h
theorem mO2 {n : Nat} (h : n < 1) : (2, n) ∈ OS := by
  have z : ∀ n, n < 1 → (2, n) ∈ OS := by decide +kernel
  exact z n h
theorem mO3 {n : Nat} (h : n < 31) : (3, n) ∈ OS := by
  have z : ∀ n, n < 31 → (3, n) ∈ OS := by decide +kernel
  exact z n h
theorem mO4 {n : Nat} (h : n < 1) : (4, n) ∈ OS := by
  have z : ∀ n, n < 1 → (4, n) ∈ OS := by decide +kernel
  exact z n h
theorem mO5 {n : Nat} (h : n < 1) : (5, n) ∈ OS := by
  have z : ∀ n, n < 1 → (5, n) ∈ OS := by decide +kernel
  exact z n h
theorem mO6 {n : Nat} (h : n < 1) : (6, n) ∈ OS := by
  have z : ∀ n, n < 1 → (6, n) ∈ OS := by decide +kernel
  exact z n h
theorem mO7 {n : Nat} (h : n < 1) : (7, n) ∈ OS := by
  have z : ∀ n, n < 1 → (7, n) ∈ OS := by decide +kernel
  exact z n h
theorem mO8 {n : Nat} (h : n < 5) : (8, n) ∈ OS := by
  have z : ∀ n, n < 5 → (8, n) ∈ OS := by decide +kernel
  exact z n h
theorem mO9 {n : Nat} (h : n < 1) : (9, n) ∈ OS := by
  have z : ∀ n, n < 1 → (9, n) ∈ OS := by decide +kernel
  exact z n h
theorem mO10 {n : Nat} (h : n < 1) : (10, n) ∈ OS := by
  have z : ∀ n, n < 1 → (10, n) ∈ OS := by decide +kernel
  exact z n h
theorem mO11 {n : Nat} (h : n < 1) : (11, n) ∈ OS := by
  have z : ∀ n, n < 1 → (11, n) ∈ OS := by decide +kernel
  exact z n h
theorem mO12 {n : Nat} (h : n < 1) : (12, n) ∈ OS := by
  have z : ∀ n, n < 1 → (12, n) ∈ OS := by decide +kernel
  exact z n h
theorem mO13 {n : Nat} (h : n < 46) : (13, n) ∈ OS := by
  have z : ∀ n, n < 46 → (13, n) ∈ OS := by decide +kernel
  exact z n h
theorem mO14 {n : Nat} (h : n < 8) : (14, n) ∈ OS := by
  have z : ∀ n, n < 8 → (14, n) ∈ OS := by decide +kernel
  exact z n h
theorem mO15 {n : Nat} (h : n < 1) : (15, n) ∈ OS := by
  have z : ∀ n, n < 1 → (15, n) ∈ OS := by decide +kernel
  exact z n h
/-- a place of an array -/
def ck (len : Nat) (i : Int32) : Option Nat := if i < 0 ∨ len ≤ i.toNatClampNeg then none else some i.toNatClampNeg
theorem ck_some {len : Nat} {i : Int32} {j : Nat} (h : ck len i = some j) : ¬ (i < 0 ∨ len ≤ i.toNatClampNeg) ∧ i.toNatClampNeg = j := by
  unfold ck at h
  split at h
  · cases h
  · rename_i q; exact ⟨q, Option.some.inj h⟩
/-- a boolean -/
def zb (x : Int32) : Option Int32 := if x = 0 ∨ x = 1 then some x else none
theorem zb_some {x y : Int32} (h : zb x = some y) : x = y ∧ Nr .boolean x := by
  unfold zb at h
  split at h
  · rename_i q
    refine ⟨Option.some.inj h, ?_⟩
    rcases q with rfl | rfl
    · exact Nr.z0
    · exact Nr.z1
  · cases h
def nz (y : Int32) : Option Unit := if y = 0 then none else some ()
theorem nz_some {y : Int32} {u : Unit} (h : nz y = some u) : ¬ y = 0 := by
  unfold nz at h
  split at h
  · cases h
  · assumption
def nzL (y : Int64) : Option Unit := if y = 0 then none else some ()
theorem nzL_some {y : Int64} {u : Unit} (h : nzL y = some u) : ¬ y = 0 := by
  unfold nzL at h
  split at h
  · cases h
  · assumption
theorem bnd {α β : Type} {x : Option α} {f : α → Option β} {o : β} (h : x.bind f = some o) : ∃ r, x = some r ∧ f r = some o := Option.bind_eq_some_iff.mp h
theorem bnS {α β : Type} {x : α} {f : α → Option β} {o : β} (h : (some x).bind f = some o) : ∃ r, x = r ∧ f r = some o := ⟨x, rfl, h⟩
/-- a loop -/
def iter {S T : Type} (f : S → Option (S ⊕ T)) : Nat → S → Option T
  | 0, _ => none
  | n + 1, s => (f s).bind fun o => match o with
    | .inl s' => iter f n s'
    | .inr t => some t
def NF : Nat := 2000000
theorem iter_ok {S T : Type} {f : S → Option (S ⊕ T)} {P : S → Prop} {R : T → Prop} (hb : ∀ s o, f s = some o → (∀ s', o = Sum.inl s' → P s') → (∀ t, o = Sum.inr t → R t) → P s) : ∀ (n : Nat) (s : S) (t : T), iter f n s = some t → R t → P s := by
  intro n
  induction n with
  | zero => intro s t h; cases h
  | succ n ih =>
    intro s t h hR
    obtain ⟨o, h1, h2⟩ := bnd h
    cases o with
    | inl s' => exact hb s _ h1 (fun s'' e => by cases e; exact ih s' t h2 hR) (fun t' e => by cases e)
    | inr t' => exact hb s _ h1 (fun s'' e => by cases e) (fun t'' e => by cases e; cases h2; exact hR)
def imax (x y : Int32) : Int32 := if x < y then y else x
def imin (x y : Int32) : Int32 := if y < x then y else x
def labs (x : Int64) : Int64 := if 0 < x then x else -x
def vq (k : Nat) : Option Nat → AV
  | none => vn
  | some n => vr k n
section WPS
variable {d : Nat} {m : MI} {Q : Option AV → AH → Prop} {pc pc' : Nat} {ls : List (Option AV)} {st : List AV} {σ : SS}
abbrev Ws (d : Nat) (m : MI) (Q : Option AV → AH → Prop) (pc : Nat) (ls : List (Option AV)) (st : List AV) (σ : SS) : Prop := Wp d 0 0 m Q 0 0 pc ls st (hp σ)
theorem Wp.sgetI {idx kk nn jj : Nat} {fin : Bool} {fty : FieldType} (hd : Dc m pc (.getfield idx) 3 pc') (hf : FdM m.1.cls idx kk jj fin fty (0, 0)) (hm : (kk, nn) ∈ OS) (k1 : Ws d m Q pc' ls (vi (σ.1 kk nn jj) :: st) σ) : Ws d m Q pc ls (vr kk nn :: st) σ := Wp.getI hd hf hm k1
theorem Wp.sgetJ {idx kk nn jj : Nat} {fin : Bool} {fty : FieldType} (hd : Dc m pc (.getfield idx) 3 pc') (hf : FdM m.1.cls idx kk jj fin fty (1, 0)) (hm : (kk, nn) ∈ OS) (k1 : Ws d m Q pc' ls (vl (σ.2 kk nn jj) :: st) σ) : Ws d m Q pc ls (vr kk nn :: st) σ := Wp.getJ hd hf hm k1
theorem Wp.sgetR {idx kk nn jj tk t : Nat} {fin : Bool} {fty : FieldType} (hd : Dc m pc (.getfield idx) 3 pc') (hf : FdM m.1.cls idx kk jj fin fty (2, tk)) (hm : (kk, nn) ∈ OS) (hr : RF kk nn jj = some t) (k1 : Ws d m Q pc' ls (vr tk t :: st) σ) : Ws d m Q pc ls (vr kk nn :: st) σ := Wp.getR hd hf hm hr k1
theorem Wp.sgetC {idx kk nn jj t : Nat} {fin : Bool} {fty : FieldType} (hd : Dc m pc (.getfield idx) 3 pc') (hf : FdM m.1.cls idx kk jj fin fty (3, 0)) (hm : (kk, nn) ∈ OS) (hr : RF kk nn jj = some t) (k1 : Ws d m Q pc' ls (vi (nI t) :: st) σ) : Ws d m Q pc ls (vr kk nn :: st) σ := Wp.getC hd hf hm hr k1
theorem Wp.sputI {idx kk nn jj : Nat} {fty : FieldType} {x : Int32} (hd : Dc m pc (.putfield idx) 3 pc') (hf : FdM m.1.cls idx kk jj false fty (0, 0)) (hm : (kk, nn) ∈ OS) (hn : Nr fty x) (k1 : Ws d m Q pc' ls st (wI σ kk nn jj x)) : Ws d m Q pc ls (vi x :: vr kk nn :: st) σ := Wp.putI hd hf hm hn k1
theorem Wp.sputJ {idx kk nn jj : Nat} {x : Int64} (hd : Dc m pc (.putfield idx) 3 pc') (hf : FdM m.1.cls idx kk jj false .long (1, 0)) (hm : (kk, nn) ∈ OS) (k1 : Ws d m Q pc' ls st (wJ σ kk nn jj x)) : Ws d m Q pc ls (vl x :: vr kk nn :: st) σ := Wp.putJ hd hf hm k1
theorem Wp.salenI {nn : Nat} (hd : Dc m pc .arraylength 1 pc') (hm : (13, nn) ∈ OS) (k1 : Ws d m Q pc' ls (vi (nI (LN 13 nn)) :: st) σ) : Ws d m Q pc ls (vr 13 nn :: st) σ := Wp.alenI hd hm k1
theorem Wp.salenJ {nn : Nat} (hd : Dc m pc .arraylength 1 pc') (hm : (14, nn) ∈ OS) (k1 : Ws d m Q pc' ls (vi (nI (LN 14 nn)) :: st) σ) : Ws d m Q pc ls (vr 14 nn :: st) σ := Wp.alenJ hd hm k1
theorem Wp.salenQ {nn : Nat} (hd : Dc m pc .arraylength 1 pc') (hm : (15, nn) ∈ OS) (k1 : Ws d m Q pc' ls (vi (nI (LN 15 nn)) :: st) σ) : Ws d m Q pc ls (vr 15 nn :: st) σ := Wp.alenQ hd hm k1
theorem Wp.siald {nn j : Nat} {i : Int32} (hd : Dc m pc .iaload 1 pc') (hm : (13, nn) ∈ OS) (hi : ck (LN 13 nn) i = some j) (k1 : Ws d m Q pc' ls (vi (σ.1 13 nn j) :: st) σ) : Ws d m Q pc ls (vi i :: vr 13 nn :: st) σ := by
  obtain ⟨h1, rfl⟩ := ck_some hi
  exact Wp.iald hd hm h1 k1
theorem Wp.sbald {nn j : Nat} {i : Int32} (hd : Dc m pc .baload 1 pc') (hm : (12, nn) ∈ OS) (hi : ck (LN 12 nn) i = some j) (k1 : Ws d m Q pc' ls (vi (σ.1 12 nn j) :: st) σ) : Ws d m Q pc ls (vi i :: vr 12 nn :: st) σ := by
  obtain ⟨h1, rfl⟩ := ck_some hi
  exact Wp.bald hd hm h1 k1
theorem Wp.slald {nn j : Nat} {i : Int32} (hd : Dc m pc .laload 1 pc') (hm : (14, nn) ∈ OS) (hi : ck (LN 14 nn) i = some j) (k1 : Ws d m Q pc' ls (vl (σ.2 14 nn j) :: st) σ) : Ws d m Q pc ls (vi i :: vr 14 nn :: st) σ := by
  obtain ⟨h1, rfl⟩ := ck_some hi
  exact Wp.lald hd hm h1 k1
/-- the drawers kept for marks -/
theorem RF15 {j : Nat} (h : j < 3) : RF 15 0 j = some (j + 2) := by
  match j, h with
  | 0, _ => rfl
  | 1, _ => rfl
  | 2, _ => rfl
theorem Wp.saald {j : Nat} {i : Int32} (hd : Dc m pc .aaload 1 pc') (hi : ck (LN 15 0) i = some j) (k1 : Ws d m Q pc' ls (vr 0 (j + 2) :: st) σ) : Ws d m Q pc ls (vi i :: vr 15 0 :: st) σ := by
  obtain ⟨h1, rfl⟩ := ck_some hi
  have h3 : i.toNatClampNeg < 3 := Nat.not_le.mp (fun q => h1 (Or.inr q))
  exact Wp.aald (t := i.toNatClampNeg + 2) hd (mO15 (by decide)) h1 (RF15 h3) k1
theorem Wp.siast {nn j : Nat} {i x : Int32} (hd : Dc m pc .iastore 1 pc') (hm : (13, nn) ∈ OS) (hi : ck (LN 13 nn) i = some j) (k1 : Ws d m Q pc' ls st (wI σ 13 nn j x)) : Ws d m Q pc ls (vi x :: vi i :: vr 13 nn :: st) σ := by
  obtain ⟨h1, rfl⟩ := ck_some hi
  exact Wp.iast hd hm h1 k1
theorem Wp.sbast {nn j : Nat} {i x : Int32} (hd : Dc m pc .bastore 1 pc') (hm : (12, nn) ∈ OS) (hi : ck (LN 12 nn) i = some j) (k1 : Ws d m Q pc' ls st (wI σ 12 nn j x.toInt8.toInt32)) : Ws d m Q pc ls (vi x :: vi i :: vr 12 nn :: st) σ := by
  obtain ⟨h1, rfl⟩ := ck_some hi
  exact Wp.bast hd hm h1 k1
theorem Wp.slast {nn j : Nat} {i : Int32} {x : Int64} (hd : Dc m pc .lastore 1 pc') (hm : (14, nn) ∈ OS) (hi : ck (LN 14 nn) i = some j) (k1 : Ws d m Q pc' ls st (wJ σ 14 nn j x)) : Ws d m Q pc ls (vl x :: vi i :: vr 14 nn :: st) σ := by
  obtain ⟨h1, rfl⟩ := ck_some hi
  exact Wp.last hd hm h1 k1
theorem Wp.cV0i {d' idx kk nn : Nat} {m' : MI} {σ' : SS} {r : Int32} (hR : Runs d' 0 0 m' (vr kk nn :: []) (hp σ) (fun v h => v = some (vi r) ∧ h = hp σ')) (hd : Dc m pc (.invokevirtual idx) 3 pc') (hc : CdV m.1.cls idx m' 0 kk) (hm : (kk, nn) ∈ OS) (hdd : d' + 1 ≤ d) (hrest : (st.map ct).sum ≤ 8) (k1 : Ws d m Q pc' ls (vi r :: st) σ') : Ws d m Q pc ls (vr kk nn :: st) σ := Wp.callV (as := []) (rest := st) hR hd hc hm hdd rfl rfl hrest (Nat.le_refl _) (Nat.le_refl _) (Or.inl ⟨rfl, fun v h z => by rw [z.2]; rfl⟩) (fun v h z => by obtain ⟨rfl, rfl⟩ := z; exact k1)
theorem Wp.cV0l {d' idx kk nn : Nat} {m' : MI} {σ' : SS} {r : Int64} (hR : Runs d' 0 0 m' (vr kk nn :: []) (hp σ) (fun v h => v = some (vl r) ∧ h = hp σ')) (hd : Dc m pc (.invokevirtual idx) 3 pc') (hc : CdV m.1.cls idx m' 0 kk) (hm : (kk, nn) ∈ OS) (hdd : d' + 1 ≤ d) (hrest : (st.map ct).sum ≤ 8) (k1 : Ws d m Q pc' ls (vl r :: st) σ') : Ws d m Q pc ls (vr kk nn :: st) σ := Wp.callV (as := []) (rest := st) hR hd hc hm hdd rfl rfl hrest (Nat.le_refl _) (Nat.le_refl _) (Or.inl ⟨rfl, fun v h z => by rw [z.2]; rfl⟩) (fun v h z => by obtain ⟨rfl, rfl⟩ := z; exact k1)
theorem Wp.cV0q {d' idx kk nn : Nat} {m' : MI} {σ' : SS} {r : AV} (hR : Runs d' 0 0 m' (vr kk nn :: []) (hp σ) (fun v h => v = some r ∧ h = hp σ')) (hd : Dc m pc (.invokevirtual idx) 3 pc') (hc : CdV m.1.cls idx m' 0 kk) (hm : (kk, nn) ∈ OS) (hdd : d' + 1 ≤ d) (hrest : (st.map ct).sum ≤ 8) (k1 : Ws d m Q pc' ls (r :: st) σ') : Ws d m Q pc ls (vr kk nn :: st) σ := Wp.callV (as := []) (rest := st) hR hd hc hm hdd rfl rfl hrest (Nat.le_refl _) (Nat.le_refl _) (Or.inl ⟨rfl, fun v h z => by rw [z.2]; rfl⟩) (fun v h z => by obtain ⟨rfl, rfl⟩ := z; exact k1)
theorem Wp.cV0v {d' idx kk nn : Nat} {m' : MI} {σ' : SS} (hR : Runs d' 0 0 m' (vr kk nn :: []) (hp σ) (fun v h => v = none ∧ h = hp σ')) (hd : Dc m pc (.invokevirtual idx) 3 pc') (hc : CdV m.1.cls idx m' 0 kk) (hm : (kk, nn) ∈ OS) (hdd : d' + 1 ≤ d) (hrest : (st.map ct).sum ≤ 8) (k1 : Ws d m Q pc' ls (st) σ') : Ws d m Q pc ls (vr kk nn :: st) σ := Wp.callV (as := []) (rest := st) hR hd hc hm hdd rfl rfl hrest (Nat.le_refl _) (Nat.le_refl _) (Or.inl ⟨rfl, fun v h z => by rw [z.2]; rfl⟩) (fun v h z => by obtain ⟨rfl, rfl⟩ := z; exact k1)
theorem Wp.cS0i {d' idx : Nat} {m' : MI} {σ' : SS} {r : Int32} (hR : Runs d' 0 0 m' ([]) (hp σ) (fun v h => v = some (vi r) ∧ h = hp σ')) (hd : Dc m pc (.invokestatic idx) 3 pc') (hc : CdS m.1.cls idx m' 0) (hdd : d' + 1 ≤ d) (hrest : (st.map ct).sum ≤ 8) (k1 : Ws d m Q pc' ls (vi r :: st) σ') : Ws d m Q pc ls (st) σ := Wp.callS (as := []) (rest := st) hR hd hc hdd rfl rfl hrest (Nat.le_refl _) (Nat.le_refl _) (Or.inl ⟨rfl, fun v h z => by rw [z.2]; rfl⟩) (fun v h z => by obtain ⟨rfl, rfl⟩ := z; exact k1)
theorem Wp.cS0l {d' idx : Nat} {m' : MI} {σ' : SS} {r : Int64} (hR : Runs d' 0 0 m' ([]) (hp σ) (fun v h => v = some (vl r) ∧ h = hp σ')) (hd : Dc m pc (.invokestatic idx) 3 pc') (hc : CdS m.1.cls idx m' 0) (hdd : d' + 1 ≤ d) (hrest : (st.map ct).sum ≤ 8) (k1 : Ws d m Q pc' ls (vl r :: st) σ') : Ws d m Q pc ls (st) σ := Wp.callS (as := []) (rest := st) hR hd hc hdd rfl rfl hrest (Nat.le_refl _) (Nat.le_refl _) (Or.inl ⟨rfl, fun v h z => by rw [z.2]; rfl⟩) (fun v h z => by obtain ⟨rfl, rfl⟩ := z; exact k1)
theorem Wp.cS0q {d' idx : Nat} {m' : MI} {σ' : SS} {r : AV} (hR : Runs d' 0 0 m' ([]) (hp σ) (fun v h => v = some r ∧ h = hp σ')) (hd : Dc m pc (.invokestatic idx) 3 pc') (hc : CdS m.1.cls idx m' 0) (hdd : d' + 1 ≤ d) (hrest : (st.map ct).sum ≤ 8) (k1 : Ws d m Q pc' ls (r :: st) σ') : Ws d m Q pc ls (st) σ := Wp.callS (as := []) (rest := st) hR hd hc hdd rfl rfl hrest (Nat.le_refl _) (Nat.le_refl _) (Or.inl ⟨rfl, fun v h z => by rw [z.2]; rfl⟩) (fun v h z => by obtain ⟨rfl, rfl⟩ := z; exact k1)
theorem Wp.cS0v {d' idx : Nat} {m' : MI} {σ' : SS} (hR : Runs d' 0 0 m' ([]) (hp σ) (fun v h => v = none ∧ h = hp σ')) (hd : Dc m pc (.invokestatic idx) 3 pc') (hc : CdS m.1.cls idx m' 0) (hdd : d' + 1 ≤ d) (hrest : (st.map ct).sum ≤ 8) (k1 : Ws d m Q pc' ls (st) σ') : Ws d m Q pc ls (st) σ := Wp.callS (as := []) (rest := st) hR hd hc hdd rfl rfl hrest (Nat.le_refl _) (Nat.le_refl _) (Or.inl ⟨rfl, fun v h z => by rw [z.2]; rfl⟩) (fun v h z => by obtain ⟨rfl, rfl⟩ := z; exact k1)
theorem Wp.cV1i {d' idx kk nn : Nat} {m' : MI} {σ' : SS} {v1 : AV} {r : Int32} (hR : Runs d' 0 0 m' (vr kk nn :: [v1]) (hp σ) (fun v h => v = some (vi r) ∧ h = hp σ')) (hd : Dc m pc (.invokevirtual idx) 3 pc') (hc : CdV m.1.cls idx m' 1 kk) (hm : (kk, nn) ∈ OS) (hdd : d' + 1 ≤ d) (hrest : (st.map ct).sum ≤ 8) (k1 : Ws d m Q pc' ls (vi r :: st) σ') : Ws d m Q pc ls (v1 :: vr kk nn :: st) σ := Wp.callV (as := [v1]) (rest := st) hR hd hc hm hdd rfl rfl hrest (Nat.le_refl _) (Nat.le_refl _) (Or.inl ⟨rfl, fun v h z => by rw [z.2]; rfl⟩) (fun v h z => by obtain ⟨rfl, rfl⟩ := z; exact k1)
theorem Wp.cV1l {d' idx kk nn : Nat} {m' : MI} {σ' : SS} {v1 : AV} {r : Int64} (hR : Runs d' 0 0 m' (vr kk nn :: [v1]) (hp σ) (fun v h => v = some (vl r) ∧ h = hp σ')) (hd : Dc m pc (.invokevirtual idx) 3 pc') (hc : CdV m.1.cls idx m' 1 kk) (hm : (kk, nn) ∈ OS) (hdd : d' + 1 ≤ d) (hrest : (st.map ct).sum ≤ 8) (k1 : Ws d m Q pc' ls (vl r :: st) σ') : Ws d m Q pc ls (v1 :: vr kk nn :: st) σ := Wp.callV (as := [v1]) (rest := st) hR hd hc hm hdd rfl rfl hrest (Nat.le_refl _) (Nat.le_refl _) (Or.inl ⟨rfl, fun v h z => by rw [z.2]; rfl⟩) (fun v h z => by obtain ⟨rfl, rfl⟩ := z; exact k1)
theorem Wp.cV1q {d' idx kk nn : Nat} {m' : MI} {σ' : SS} {v1 : AV} {r : AV} (hR : Runs d' 0 0 m' (vr kk nn :: [v1]) (hp σ) (fun v h => v = some r ∧ h = hp σ')) (hd : Dc m pc (.invokevirtual idx) 3 pc') (hc : CdV m.1.cls idx m' 1 kk) (hm : (kk, nn) ∈ OS) (hdd : d' + 1 ≤ d) (hrest : (st.map ct).sum ≤ 8) (k1 : Ws d m Q pc' ls (r :: st) σ') : Ws d m Q pc ls (v1 :: vr kk nn :: st) σ := Wp.callV (as := [v1]) (rest := st) hR hd hc hm hdd rfl rfl hrest (Nat.le_refl _) (Nat.le_refl _) (Or.inl ⟨rfl, fun v h z => by rw [z.2]; rfl⟩) (fun v h z => by obtain ⟨rfl, rfl⟩ := z; exact k1)
theorem Wp.cV1v {d' idx kk nn : Nat} {m' : MI} {σ' : SS} {v1 : AV} (hR : Runs d' 0 0 m' (vr kk nn :: [v1]) (hp σ) (fun v h => v = none ∧ h = hp σ')) (hd : Dc m pc (.invokevirtual idx) 3 pc') (hc : CdV m.1.cls idx m' 1 kk) (hm : (kk, nn) ∈ OS) (hdd : d' + 1 ≤ d) (hrest : (st.map ct).sum ≤ 8) (k1 : Ws d m Q pc' ls (st) σ') : Ws d m Q pc ls (v1 :: vr kk nn :: st) σ := Wp.callV (as := [v1]) (rest := st) hR hd hc hm hdd rfl rfl hrest (Nat.le_refl _) (Nat.le_refl _) (Or.inl ⟨rfl, fun v h z => by rw [z.2]; rfl⟩) (fun v h z => by obtain ⟨rfl, rfl⟩ := z; exact k1)
theorem Wp.cS1i {d' idx : Nat} {m' : MI} {σ' : SS} {v1 : AV} {r : Int32} (hR : Runs d' 0 0 m' ([v1]) (hp σ) (fun v h => v = some (vi r) ∧ h = hp σ')) (hd : Dc m pc (.invokestatic idx) 3 pc') (hc : CdS m.1.cls idx m' 1) (hdd : d' + 1 ≤ d) (hrest : (st.map ct).sum ≤ 8) (k1 : Ws d m Q pc' ls (vi r :: st) σ') : Ws d m Q pc ls (v1 :: st) σ := Wp.callS (as := [v1]) (rest := st) hR hd hc hdd rfl rfl hrest (Nat.le_refl _) (Nat.le_refl _) (Or.inl ⟨rfl, fun v h z => by rw [z.2]; rfl⟩) (fun v h z => by obtain ⟨rfl, rfl⟩ := z; exact k1)
theorem Wp.cS1l {d' idx : Nat} {m' : MI} {σ' : SS} {v1 : AV} {r : Int64} (hR : Runs d' 0 0 m' ([v1]) (hp σ) (fun v h => v = some (vl r) ∧ h = hp σ')) (hd : Dc m pc (.invokestatic idx) 3 pc') (hc : CdS m.1.cls idx m' 1) (hdd : d' + 1 ≤ d) (hrest : (st.map ct).sum ≤ 8) (k1 : Ws d m Q pc' ls (vl r :: st) σ') : Ws d m Q pc ls (v1 :: st) σ := Wp.callS (as := [v1]) (rest := st) hR hd hc hdd rfl rfl hrest (Nat.le_refl _) (Nat.le_refl _) (Or.inl ⟨rfl, fun v h z => by rw [z.2]; rfl⟩) (fun v h z => by obtain ⟨rfl, rfl⟩ := z; exact k1)
theorem Wp.cS1q {d' idx : Nat} {m' : MI} {σ' : SS} {v1 : AV} {r : AV} (hR : Runs d' 0 0 m' ([v1]) (hp σ) (fun v h => v = some r ∧ h = hp σ')) (hd : Dc m pc (.invokestatic idx) 3 pc') (hc : CdS m.1.cls idx m' 1) (hdd : d' + 1 ≤ d) (hrest : (st.map ct).sum ≤ 8) (k1 : Ws d m Q pc' ls (r :: st) σ') : Ws d m Q pc ls (v1 :: st) σ := Wp.callS (as := [v1]) (rest := st) hR hd hc hdd rfl rfl hrest (Nat.le_refl _) (Nat.le_refl _) (Or.inl ⟨rfl, fun v h z => by rw [z.2]; rfl⟩) (fun v h z => by obtain ⟨rfl, rfl⟩ := z; exact k1)
theorem Wp.cS1v {d' idx : Nat} {m' : MI} {σ' : SS} {v1 : AV} (hR : Runs d' 0 0 m' ([v1]) (hp σ) (fun v h => v = none ∧ h = hp σ')) (hd : Dc m pc (.invokestatic idx) 3 pc') (hc : CdS m.1.cls idx m' 1) (hdd : d' + 1 ≤ d) (hrest : (st.map ct).sum ≤ 8) (k1 : Ws d m Q pc' ls (st) σ') : Ws d m Q pc ls (v1 :: st) σ := Wp.callS (as := [v1]) (rest := st) hR hd hc hdd rfl rfl hrest (Nat.le_refl _) (Nat.le_refl _) (Or.inl ⟨rfl, fun v h z => by rw [z.2]; rfl⟩) (fun v h z => by obtain ⟨rfl, rfl⟩ := z; exact k1)
theorem Wp.cV2i {d' idx kk nn : Nat} {m' : MI} {σ' : SS} {v1 v2 : AV} {r : Int32} (hR : Runs d' 0 0 m' (vr kk nn :: [v1, v2]) (hp σ) (fun v h => v = some (vi r) ∧ h = hp σ')) (hd : Dc m pc (.invokevirtual idx) 3 pc') (hc : CdV m.1.cls idx m' 2 kk) (hm : (kk, nn) ∈ OS) (hdd : d' + 1 ≤ d) (hrest : (st.map ct).sum ≤ 8) (k1 : Ws d m Q pc' ls (vi r :: st) σ') : Ws d m Q pc ls (v2 :: v1 :: vr kk nn :: st) σ := Wp.callV (as := [v1, v2]) (rest := st) hR hd hc hm hdd rfl rfl hrest (Nat.le_refl _) (Nat.le_refl _) (Or.inl ⟨rfl, fun v h z => by rw [z.2]; rfl⟩) (fun v h z => by obtain ⟨rfl, rfl⟩ := z; exact k1)
theorem Wp.cV2l {d' idx kk nn : Nat} {m' : MI} {σ' : SS} {v1 v2 : AV} {r : Int64} (hR : Runs d' 0 0 m' (vr kk nn :: [v1, v2]) (hp σ) (fun v h => v = some (vl r) ∧ h = hp σ')) (hd : Dc m pc (.invokevirtual idx) 3 pc') (hc : CdV m.1.cls idx m' 2 kk) (hm : (kk, nn) ∈ OS) (hdd : d' + 1 ≤ d) (hrest : (st.map ct).sum ≤ 8) (k1 : Ws d m Q pc' ls (vl r :: st) σ') : Ws d m Q pc ls (v2 :: v1 :: vr kk nn :: st) σ := Wp.callV (as := [v1, v2]) (rest := st) hR hd hc hm hdd rfl rfl hrest (Nat.le_refl _) (Nat.le_refl _) (Or.inl ⟨rfl, fun v h z => by rw [z.2]; rfl⟩) (fun v h z => by obtain ⟨rfl, rfl⟩ := z; exact k1)
theorem Wp.cV2q {d' idx kk nn : Nat} {m' : MI} {σ' : SS} {v1 v2 : AV} {r : AV} (hR : Runs d' 0 0 m' (vr kk nn :: [v1, v2]) (hp σ) (fun v h => v = some r ∧ h = hp σ')) (hd : Dc m pc (.invokevirtual idx) 3 pc') (hc : CdV m.1.cls idx m' 2 kk) (hm : (kk, nn) ∈ OS) (hdd : d' + 1 ≤ d) (hrest : (st.map ct).sum ≤ 8) (k1 : Ws d m Q pc' ls (r :: st) σ') : Ws d m Q pc ls (v2 :: v1 :: vr kk nn :: st) σ := Wp.callV (as := [v1, v2]) (rest := st) hR hd hc hm hdd rfl rfl hrest (Nat.le_refl _) (Nat.le_refl _) (Or.inl ⟨rfl, fun v h z => by rw [z.2]; rfl⟩) (fun v h z => by obtain ⟨rfl, rfl⟩ := z; exact k1)
theorem Wp.cV2v {d' idx kk nn : Nat} {m' : MI} {σ' : SS} {v1 v2 : AV} (hR : Runs d' 0 0 m' (vr kk nn :: [v1, v2]) (hp σ) (fun v h => v = none ∧ h = hp σ')) (hd : Dc m pc (.invokevirtual idx) 3 pc') (hc : CdV m.1.cls idx m' 2 kk) (hm : (kk, nn) ∈ OS) (hdd : d' + 1 ≤ d) (hrest : (st.map ct).sum ≤ 8) (k1 : Ws d m Q pc' ls (st) σ') : Ws d m Q pc ls (v2 :: v1 :: vr kk nn :: st) σ := Wp.callV (as := [v1, v2]) (rest := st) hR hd hc hm hdd rfl rfl hrest (Nat.le_refl _) (Nat.le_refl _) (Or.inl ⟨rfl, fun v h z => by rw [z.2]; rfl⟩) (fun v h z => by obtain ⟨rfl, rfl⟩ := z; exact k1)
theorem Wp.cS2i {d' idx : Nat} {m' : MI} {σ' : SS} {v1 v2 : AV} {r : Int32} (hR : Runs d' 0 0 m' ([v1, v2]) (hp σ) (fun v h => v = some (vi r) ∧ h = hp σ')) (hd : Dc m pc (.invokestatic idx) 3 pc') (hc : CdS m.1.cls idx m' 2) (hdd : d' + 1 ≤ d) (hrest : (st.map ct).sum ≤ 8) (k1 : Ws d m Q pc' ls (vi r :: st) σ') : Ws d m Q pc ls (v2 :: v1 :: st) σ := Wp.callS (as := [v1, v2]) (rest := st) hR hd hc hdd rfl rfl hrest (Nat.le_refl _) (Nat.le_refl _) (Or.inl ⟨rfl, fun v h z => by rw [z.2]; rfl⟩) (fun v h z => by obtain ⟨rfl, rfl⟩ := z; exact k1)
theorem Wp.cS2l {d' idx : Nat} {m' : MI} {σ' : SS} {v1 v2 : AV} {r : Int64} (hR : Runs d' 0 0 m' ([v1, v2]) (hp σ) (fun v h => v = some (vl r) ∧ h = hp σ')) (hd : Dc m pc (.invokestatic idx) 3 pc') (hc : CdS m.1.cls idx m' 2) (hdd : d' + 1 ≤ d) (hrest : (st.map ct).sum ≤ 8) (k1 : Ws d m Q pc' ls (vl r :: st) σ') : Ws d m Q pc ls (v2 :: v1 :: st) σ := Wp.callS (as := [v1, v2]) (rest := st) hR hd hc hdd rfl rfl hrest (Nat.le_refl _) (Nat.le_refl _) (Or.inl ⟨rfl, fun v h z => by rw [z.2]; rfl⟩) (fun v h z => by obtain ⟨rfl, rfl⟩ := z; exact k1)
theorem Wp.cS2q {d' idx : Nat} {m' : MI} {σ' : SS} {v1 v2 : AV} {r : AV} (hR : Runs d' 0 0 m' ([v1, v2]) (hp σ) (fun v h => v = some r ∧ h = hp σ')) (hd : Dc m pc (.invokestatic idx) 3 pc') (hc : CdS m.1.cls idx m' 2) (hdd : d' + 1 ≤ d) (hrest : (st.map ct).sum ≤ 8) (k1 : Ws d m Q pc' ls (r :: st) σ') : Ws d m Q pc ls (v2 :: v1 :: st) σ := Wp.callS (as := [v1, v2]) (rest := st) hR hd hc hdd rfl rfl hrest (Nat.le_refl _) (Nat.le_refl _) (Or.inl ⟨rfl, fun v h z => by rw [z.2]; rfl⟩) (fun v h z => by obtain ⟨rfl, rfl⟩ := z; exact k1)
theorem Wp.cS2v {d' idx : Nat} {m' : MI} {σ' : SS} {v1 v2 : AV} (hR : Runs d' 0 0 m' ([v1, v2]) (hp σ) (fun v h => v = none ∧ h = hp σ')) (hd : Dc m pc (.invokestatic idx) 3 pc') (hc : CdS m.1.cls idx m' 2) (hdd : d' + 1 ≤ d) (hrest : (st.map ct).sum ≤ 8) (k1 : Ws d m Q pc' ls (st) σ') : Ws d m Q pc ls (v2 :: v1 :: st) σ := Wp.callS (as := [v1, v2]) (rest := st) hR hd hc hdd rfl rfl hrest (Nat.le_refl _) (Nat.le_refl _) (Or.inl ⟨rfl, fun v h z => by rw [z.2]; rfl⟩) (fun v h z => by obtain ⟨rfl, rfl⟩ := z; exact k1)
theorem Wp.cV3i {d' idx kk nn : Nat} {m' : MI} {σ' : SS} {v1 v2 v3 : AV} {r : Int32} (hR : Runs d' 0 0 m' (vr kk nn :: [v1, v2, v3]) (hp σ) (fun v h => v = some (vi r) ∧ h = hp σ')) (hd : Dc m pc (.invokevirtual idx) 3 pc') (hc : CdV m.1.cls idx m' 3 kk) (hm : (kk, nn) ∈ OS) (hdd : d' + 1 ≤ d) (hrest : (st.map ct).sum ≤ 8) (k1 : Ws d m Q pc' ls (vi r :: st) σ') : Ws d m Q pc ls (v3 :: v2 :: v1 :: vr kk nn :: st) σ := Wp.callV (as := [v1, v2, v3]) (rest := st) hR hd hc hm hdd rfl rfl hrest (Nat.le_refl _) (Nat.le_refl _) (Or.inl ⟨rfl, fun v h z => by rw [z.2]; rfl⟩) (fun v h z => by obtain ⟨rfl, rfl⟩ := z; exact k1)
theorem Wp.cV3l {d' idx kk nn : Nat} {m' : MI} {σ' : SS} {v1 v2 v3 : AV} {r : Int64} (hR : Runs d' 0 0 m' (vr kk nn :: [v1, v2, v3]) (hp σ) (fun v h => v = some (vl r) ∧ h = hp σ')) (hd : Dc m pc (.invokevirtual idx) 3 pc') (hc : CdV m.1.cls idx m' 3 kk) (hm : (kk, nn) ∈ OS) (hdd : d' + 1 ≤ d) (hrest : (st.map ct).sum ≤ 8) (k1 : Ws d m Q pc' ls (vl r :: st) σ') : Ws d m Q pc ls (v3 :: v2 :: v1 :: vr kk nn :: st) σ := Wp.callV (as := [v1, v2, v3]) (rest := st) hR hd hc hm hdd rfl rfl hrest (Nat.le_refl _) (Nat.le_refl _) (Or.inl ⟨rfl, fun v h z => by rw [z.2]; rfl⟩) (fun v h z => by obtain ⟨rfl, rfl⟩ := z; exact k1)
theorem Wp.cV3q {d' idx kk nn : Nat} {m' : MI} {σ' : SS} {v1 v2 v3 : AV} {r : AV} (hR : Runs d' 0 0 m' (vr kk nn :: [v1, v2, v3]) (hp σ) (fun v h => v = some r ∧ h = hp σ')) (hd : Dc m pc (.invokevirtual idx) 3 pc') (hc : CdV m.1.cls idx m' 3 kk) (hm : (kk, nn) ∈ OS) (hdd : d' + 1 ≤ d) (hrest : (st.map ct).sum ≤ 8) (k1 : Ws d m Q pc' ls (r :: st) σ') : Ws d m Q pc ls (v3 :: v2 :: v1 :: vr kk nn :: st) σ := Wp.callV (as := [v1, v2, v3]) (rest := st) hR hd hc hm hdd rfl rfl hrest (Nat.le_refl _) (Nat.le_refl _) (Or.inl ⟨rfl, fun v h z => by rw [z.2]; rfl⟩) (fun v h z => by obtain ⟨rfl, rfl⟩ := z; exact k1)
theorem Wp.cV3v {d' idx kk nn : Nat} {m' : MI} {σ' : SS} {v1 v2 v3 : AV} (hR : Runs d' 0 0 m' (vr kk nn :: [v1, v2, v3]) (hp σ) (fun v h => v = none ∧ h = hp σ')) (hd : Dc m pc (.invokevirtual idx) 3 pc') (hc : CdV m.1.cls idx m' 3 kk) (hm : (kk, nn) ∈ OS) (hdd : d' + 1 ≤ d) (hrest : (st.map ct).sum ≤ 8) (k1 : Ws d m Q pc' ls (st) σ') : Ws d m Q pc ls (v3 :: v2 :: v1 :: vr kk nn :: st) σ := Wp.callV (as := [v1, v2, v3]) (rest := st) hR hd hc hm hdd rfl rfl hrest (Nat.le_refl _) (Nat.le_refl _) (Or.inl ⟨rfl, fun v h z => by rw [z.2]; rfl⟩) (fun v h z => by obtain ⟨rfl, rfl⟩ := z; exact k1)
theorem Wp.cS3i {d' idx : Nat} {m' : MI} {σ' : SS} {v1 v2 v3 : AV} {r : Int32} (hR : Runs d' 0 0 m' ([v1, v2, v3]) (hp σ) (fun v h => v = some (vi r) ∧ h = hp σ')) (hd : Dc m pc (.invokestatic idx) 3 pc') (hc : CdS m.1.cls idx m' 3) (hdd : d' + 1 ≤ d) (hrest : (st.map ct).sum ≤ 8) (k1 : Ws d m Q pc' ls (vi r :: st) σ') : Ws d m Q pc ls (v3 :: v2 :: v1 :: st) σ := Wp.callS (as := [v1, v2, v3]) (rest := st) hR hd hc hdd rfl rfl hrest (Nat.le_refl _) (Nat.le_refl _) (Or.inl ⟨rfl, fun v h z => by rw [z.2]; rfl⟩) (fun v h z => by obtain ⟨rfl, rfl⟩ := z; exact k1)
theorem Wp.cS3l {d' idx : Nat} {m' : MI} {σ' : SS} {v1 v2 v3 : AV} {r : Int64} (hR : Runs d' 0 0 m' ([v1, v2, v3]) (hp σ) (fun v h => v = some (vl r) ∧ h = hp σ')) (hd : Dc m pc (.invokestatic idx) 3 pc') (hc : CdS m.1.cls idx m' 3) (hdd : d' + 1 ≤ d) (hrest : (st.map ct).sum ≤ 8) (k1 : Ws d m Q pc' ls (vl r :: st) σ') : Ws d m Q pc ls (v3 :: v2 :: v1 :: st) σ := Wp.callS (as := [v1, v2, v3]) (rest := st) hR hd hc hdd rfl rfl hrest (Nat.le_refl _) (Nat.le_refl _) (Or.inl ⟨rfl, fun v h z => by rw [z.2]; rfl⟩) (fun v h z => by obtain ⟨rfl, rfl⟩ := z; exact k1)
theorem Wp.cS3q {d' idx : Nat} {m' : MI} {σ' : SS} {v1 v2 v3 : AV} {r : AV} (hR : Runs d' 0 0 m' ([v1, v2, v3]) (hp σ) (fun v h => v = some r ∧ h = hp σ')) (hd : Dc m pc (.invokestatic idx) 3 pc') (hc : CdS m.1.cls idx m' 3) (hdd : d' + 1 ≤ d) (hrest : (st.map ct).sum ≤ 8) (k1 : Ws d m Q pc' ls (r :: st) σ') : Ws d m Q pc ls (v3 :: v2 :: v1 :: st) σ := Wp.callS (as := [v1, v2, v3]) (rest := st) hR hd hc hdd rfl rfl hrest (Nat.le_refl _) (Nat.le_refl _) (Or.inl ⟨rfl, fun v h z => by rw [z.2]; rfl⟩) (fun v h z => by obtain ⟨rfl, rfl⟩ := z; exact k1)
theorem Wp.cS3v {d' idx : Nat} {m' : MI} {σ' : SS} {v1 v2 v3 : AV} (hR : Runs d' 0 0 m' ([v1, v2, v3]) (hp σ) (fun v h => v = none ∧ h = hp σ')) (hd : Dc m pc (.invokestatic idx) 3 pc') (hc : CdS m.1.cls idx m' 3) (hdd : d' + 1 ≤ d) (hrest : (st.map ct).sum ≤ 8) (k1 : Ws d m Q pc' ls (st) σ') : Ws d m Q pc ls (v3 :: v2 :: v1 :: st) σ := Wp.callS (as := [v1, v2, v3]) (rest := st) hR hd hc hdd rfl rfl hrest (Nat.le_refl _) (Nat.le_refl _) (Or.inl ⟨rfl, fun v h z => by rw [z.2]; rfl⟩) (fun v h z => by obtain ⟨rfl, rfl⟩ := z; exact k1)
theorem Wp.cV4i {d' idx kk nn : Nat} {m' : MI} {σ' : SS} {v1 v2 v3 v4 : AV} {r : Int32} (hR : Runs d' 0 0 m' (vr kk nn :: [v1, v2, v3, v4]) (hp σ) (fun v h => v = some (vi r) ∧ h = hp σ')) (hd : Dc m pc (.invokevirtual idx) 3 pc') (hc : CdV m.1.cls idx m' 4 kk) (hm : (kk, nn) ∈ OS) (hdd : d' + 1 ≤ d) (hrest : (st.map ct).sum ≤ 8) (k1 : Ws d m Q pc' ls (vi r :: st) σ') : Ws d m Q pc ls (v4 :: v3 :: v2 :: v1 :: vr kk nn :: st) σ := Wp.callV (as := [v1, v2, v3, v4]) (rest := st) hR hd hc hm hdd rfl rfl hrest (Nat.le_refl _) (Nat.le_refl _) (Or.inl ⟨rfl, fun v h z => by rw [z.2]; rfl⟩) (fun v h z => by obtain ⟨rfl, rfl⟩ := z; exact k1)
theorem Wp.cV4l {d' idx kk nn : Nat} {m' : MI} {σ' : SS} {v1 v2 v3 v4 : AV} {r : Int64} (hR : Runs d' 0 0 m' (vr kk nn :: [v1, v2, v3, v4]) (hp σ) (fun v h => v = some (vl r) ∧ h = hp σ')) (hd : Dc m pc (.invokevirtual idx) 3 pc') (hc : CdV m.1.cls idx m' 4 kk) (hm : (kk, nn) ∈ OS) (hdd : d' + 1 ≤ d) (hrest : (st.map ct).sum ≤ 8) (k1 : Ws d m Q pc' ls (vl r :: st) σ') : Ws d m Q pc ls (v4 :: v3 :: v2 :: v1 :: vr kk nn :: st) σ := Wp.callV (as := [v1, v2, v3, v4]) (rest := st) hR hd hc hm hdd rfl rfl hrest (Nat.le_refl _) (Nat.le_refl _) (Or.inl ⟨rfl, fun v h z => by rw [z.2]; rfl⟩) (fun v h z => by obtain ⟨rfl, rfl⟩ := z; exact k1)
theorem Wp.cV4q {d' idx kk nn : Nat} {m' : MI} {σ' : SS} {v1 v2 v3 v4 : AV} {r : AV} (hR : Runs d' 0 0 m' (vr kk nn :: [v1, v2, v3, v4]) (hp σ) (fun v h => v = some r ∧ h = hp σ')) (hd : Dc m pc (.invokevirtual idx) 3 pc') (hc : CdV m.1.cls idx m' 4 kk) (hm : (kk, nn) ∈ OS) (hdd : d' + 1 ≤ d) (hrest : (st.map ct).sum ≤ 8) (k1 : Ws d m Q pc' ls (r :: st) σ') : Ws d m Q pc ls (v4 :: v3 :: v2 :: v1 :: vr kk nn :: st) σ := Wp.callV (as := [v1, v2, v3, v4]) (rest := st) hR hd hc hm hdd rfl rfl hrest (Nat.le_refl _) (Nat.le_refl _) (Or.inl ⟨rfl, fun v h z => by rw [z.2]; rfl⟩) (fun v h z => by obtain ⟨rfl, rfl⟩ := z; exact k1)
theorem Wp.cV4v {d' idx kk nn : Nat} {m' : MI} {σ' : SS} {v1 v2 v3 v4 : AV} (hR : Runs d' 0 0 m' (vr kk nn :: [v1, v2, v3, v4]) (hp σ) (fun v h => v = none ∧ h = hp σ')) (hd : Dc m pc (.invokevirtual idx) 3 pc') (hc : CdV m.1.cls idx m' 4 kk) (hm : (kk, nn) ∈ OS) (hdd : d' + 1 ≤ d) (hrest : (st.map ct).sum ≤ 8) (k1 : Ws d m Q pc' ls (st) σ') : Ws d m Q pc ls (v4 :: v3 :: v2 :: v1 :: vr kk nn :: st) σ := Wp.callV (as := [v1, v2, v3, v4]) (rest := st) hR hd hc hm hdd rfl rfl hrest (Nat.le_refl _) (Nat.le_refl _) (Or.inl ⟨rfl, fun v h z => by rw [z.2]; rfl⟩) (fun v h z => by obtain ⟨rfl, rfl⟩ := z; exact k1)
theorem Wp.cS4i {d' idx : Nat} {m' : MI} {σ' : SS} {v1 v2 v3 v4 : AV} {r : Int32} (hR : Runs d' 0 0 m' ([v1, v2, v3, v4]) (hp σ) (fun v h => v = some (vi r) ∧ h = hp σ')) (hd : Dc m pc (.invokestatic idx) 3 pc') (hc : CdS m.1.cls idx m' 4) (hdd : d' + 1 ≤ d) (hrest : (st.map ct).sum ≤ 8) (k1 : Ws d m Q pc' ls (vi r :: st) σ') : Ws d m Q pc ls (v4 :: v3 :: v2 :: v1 :: st) σ := Wp.callS (as := [v1, v2, v3, v4]) (rest := st) hR hd hc hdd rfl rfl hrest (Nat.le_refl _) (Nat.le_refl _) (Or.inl ⟨rfl, fun v h z => by rw [z.2]; rfl⟩) (fun v h z => by obtain ⟨rfl, rfl⟩ := z; exact k1)
theorem Wp.cS4l {d' idx : Nat} {m' : MI} {σ' : SS} {v1 v2 v3 v4 : AV} {r : Int64} (hR : Runs d' 0 0 m' ([v1, v2, v3, v4]) (hp σ) (fun v h => v = some (vl r) ∧ h = hp σ')) (hd : Dc m pc (.invokestatic idx) 3 pc') (hc : CdS m.1.cls idx m' 4) (hdd : d' + 1 ≤ d) (hrest : (st.map ct).sum ≤ 8) (k1 : Ws d m Q pc' ls (vl r :: st) σ') : Ws d m Q pc ls (v4 :: v3 :: v2 :: v1 :: st) σ := Wp.callS (as := [v1, v2, v3, v4]) (rest := st) hR hd hc hdd rfl rfl hrest (Nat.le_refl _) (Nat.le_refl _) (Or.inl ⟨rfl, fun v h z => by rw [z.2]; rfl⟩) (fun v h z => by obtain ⟨rfl, rfl⟩ := z; exact k1)
theorem Wp.cS4q {d' idx : Nat} {m' : MI} {σ' : SS} {v1 v2 v3 v4 : AV} {r : AV} (hR : Runs d' 0 0 m' ([v1, v2, v3, v4]) (hp σ) (fun v h => v = some r ∧ h = hp σ')) (hd : Dc m pc (.invokestatic idx) 3 pc') (hc : CdS m.1.cls idx m' 4) (hdd : d' + 1 ≤ d) (hrest : (st.map ct).sum ≤ 8) (k1 : Ws d m Q pc' ls (r :: st) σ') : Ws d m Q pc ls (v4 :: v3 :: v2 :: v1 :: st) σ := Wp.callS (as := [v1, v2, v3, v4]) (rest := st) hR hd hc hdd rfl rfl hrest (Nat.le_refl _) (Nat.le_refl _) (Or.inl ⟨rfl, fun v h z => by rw [z.2]; rfl⟩) (fun v h z => by obtain ⟨rfl, rfl⟩ := z; exact k1)
theorem Wp.cS4v {d' idx : Nat} {m' : MI} {σ' : SS} {v1 v2 v3 v4 : AV} (hR : Runs d' 0 0 m' ([v1, v2, v3, v4]) (hp σ) (fun v h => v = none ∧ h = hp σ')) (hd : Dc m pc (.invokestatic idx) 3 pc') (hc : CdS m.1.cls idx m' 4) (hdd : d' + 1 ≤ d) (hrest : (st.map ct).sum ≤ 8) (k1 : Ws d m Q pc' ls (st) σ') : Ws d m Q pc ls (v4 :: v3 :: v2 :: v1 :: st) σ := Wp.callS (as := [v1, v2, v3, v4]) (rest := st) hR hd hc hdd rfl rfl hrest (Nat.le_refl _) (Nat.le_refl _) (Or.inl ⟨rfl, fun v h z => by rw [z.2]; rfl⟩) (fun v h z => by obtain ⟨rfl, rfl⟩ := z; exact k1)
theorem Wp.cV5i {d' idx kk nn : Nat} {m' : MI} {σ' : SS} {v1 v2 v3 v4 v5 : AV} {r : Int32} (hR : Runs d' 0 0 m' (vr kk nn :: [v1, v2, v3, v4, v5]) (hp σ) (fun v h => v = some (vi r) ∧ h = hp σ')) (hd : Dc m pc (.invokevirtual idx) 3 pc') (hc : CdV m.1.cls idx m' 5 kk) (hm : (kk, nn) ∈ OS) (hdd : d' + 1 ≤ d) (hrest : (st.map ct).sum ≤ 8) (k1 : Ws d m Q pc' ls (vi r :: st) σ') : Ws d m Q pc ls (v5 :: v4 :: v3 :: v2 :: v1 :: vr kk nn :: st) σ := Wp.callV (as := [v1, v2, v3, v4, v5]) (rest := st) hR hd hc hm hdd rfl rfl hrest (Nat.le_refl _) (Nat.le_refl _) (Or.inl ⟨rfl, fun v h z => by rw [z.2]; rfl⟩) (fun v h z => by obtain ⟨rfl, rfl⟩ := z; exact k1)
theorem Wp.cV5l {d' idx kk nn : Nat} {m' : MI} {σ' : SS} {v1 v2 v3 v4 v5 : AV} {r : Int64} (hR : Runs d' 0 0 m' (vr kk nn :: [v1, v2, v3, v4, v5]) (hp σ) (fun v h => v = some (vl r) ∧ h = hp σ')) (hd : Dc m pc (.invokevirtual idx) 3 pc') (hc : CdV m.1.cls idx m' 5 kk) (hm : (kk, nn) ∈ OS) (hdd : d' + 1 ≤ d) (hrest : (st.map ct).sum ≤ 8) (k1 : Ws d m Q pc' ls (vl r :: st) σ') : Ws d m Q pc ls (v5 :: v4 :: v3 :: v2 :: v1 :: vr kk nn :: st) σ := Wp.callV (as := [v1, v2, v3, v4, v5]) (rest := st) hR hd hc hm hdd rfl rfl hrest (Nat.le_refl _) (Nat.le_refl _) (Or.inl ⟨rfl, fun v h z => by rw [z.2]; rfl⟩) (fun v h z => by obtain ⟨rfl, rfl⟩ := z; exact k1)
theorem Wp.cV5q {d' idx kk nn : Nat} {m' : MI} {σ' : SS} {v1 v2 v3 v4 v5 : AV} {r : AV} (hR : Runs d' 0 0 m' (vr kk nn :: [v1, v2, v3, v4, v5]) (hp σ) (fun v h => v = some r ∧ h = hp σ')) (hd : Dc m pc (.invokevirtual idx) 3 pc') (hc : CdV m.1.cls idx m' 5 kk) (hm : (kk, nn) ∈ OS) (hdd : d' + 1 ≤ d) (hrest : (st.map ct).sum ≤ 8) (k1 : Ws d m Q pc' ls (r :: st) σ') : Ws d m Q pc ls (v5 :: v4 :: v3 :: v2 :: v1 :: vr kk nn :: st) σ := Wp.callV (as := [v1, v2, v3, v4, v5]) (rest := st) hR hd hc hm hdd rfl rfl hrest (Nat.le_refl _) (Nat.le_refl _) (Or.inl ⟨rfl, fun v h z => by rw [z.2]; rfl⟩) (fun v h z => by obtain ⟨rfl, rfl⟩ := z; exact k1)
theorem Wp.cV5v {d' idx kk nn : Nat} {m' : MI} {σ' : SS} {v1 v2 v3 v4 v5 : AV} (hR : Runs d' 0 0 m' (vr kk nn :: [v1, v2, v3, v4, v5]) (hp σ) (fun v h => v = none ∧ h = hp σ')) (hd : Dc m pc (.invokevirtual idx) 3 pc') (hc : CdV m.1.cls idx m' 5 kk) (hm : (kk, nn) ∈ OS) (hdd : d' + 1 ≤ d) (hrest : (st.map ct).sum ≤ 8) (k1 : Ws d m Q pc' ls (st) σ') : Ws d m Q pc ls (v5 :: v4 :: v3 :: v2 :: v1 :: vr kk nn :: st) σ := Wp.callV (as := [v1, v2, v3, v4, v5]) (rest := st) hR hd hc hm hdd rfl rfl hrest (Nat.le_refl _) (Nat.le_refl _) (Or.inl ⟨rfl, fun v h z => by rw [z.2]; rfl⟩) (fun v h z => by obtain ⟨rfl, rfl⟩ := z; exact k1)
theorem Wp.cS5i {d' idx : Nat} {m' : MI} {σ' : SS} {v1 v2 v3 v4 v5 : AV} {r : Int32} (hR : Runs d' 0 0 m' ([v1, v2, v3, v4, v5]) (hp σ) (fun v h => v = some (vi r) ∧ h = hp σ')) (hd : Dc m pc (.invokestatic idx) 3 pc') (hc : CdS m.1.cls idx m' 5) (hdd : d' + 1 ≤ d) (hrest : (st.map ct).sum ≤ 8) (k1 : Ws d m Q pc' ls (vi r :: st) σ') : Ws d m Q pc ls (v5 :: v4 :: v3 :: v2 :: v1 :: st) σ := Wp.callS (as := [v1, v2, v3, v4, v5]) (rest := st) hR hd hc hdd rfl rfl hrest (Nat.le_refl _) (Nat.le_refl _) (Or.inl ⟨rfl, fun v h z => by rw [z.2]; rfl⟩) (fun v h z => by obtain ⟨rfl, rfl⟩ := z; exact k1)
theorem Wp.cS5l {d' idx : Nat} {m' : MI} {σ' : SS} {v1 v2 v3 v4 v5 : AV} {r : Int64} (hR : Runs d' 0 0 m' ([v1, v2, v3, v4, v5]) (hp σ) (fun v h => v = some (vl r) ∧ h = hp σ')) (hd : Dc m pc (.invokestatic idx) 3 pc') (hc : CdS m.1.cls idx m' 5) (hdd : d' + 1 ≤ d) (hrest : (st.map ct).sum ≤ 8) (k1 : Ws d m Q pc' ls (vl r :: st) σ') : Ws d m Q pc ls (v5 :: v4 :: v3 :: v2 :: v1 :: st) σ := Wp.callS (as := [v1, v2, v3, v4, v5]) (rest := st) hR hd hc hdd rfl rfl hrest (Nat.le_refl _) (Nat.le_refl _) (Or.inl ⟨rfl, fun v h z => by rw [z.2]; rfl⟩) (fun v h z => by obtain ⟨rfl, rfl⟩ := z; exact k1)
theorem Wp.cS5q {d' idx : Nat} {m' : MI} {σ' : SS} {v1 v2 v3 v4 v5 : AV} {r : AV} (hR : Runs d' 0 0 m' ([v1, v2, v3, v4, v5]) (hp σ) (fun v h => v = some r ∧ h = hp σ')) (hd : Dc m pc (.invokestatic idx) 3 pc') (hc : CdS m.1.cls idx m' 5) (hdd : d' + 1 ≤ d) (hrest : (st.map ct).sum ≤ 8) (k1 : Ws d m Q pc' ls (r :: st) σ') : Ws d m Q pc ls (v5 :: v4 :: v3 :: v2 :: v1 :: st) σ := Wp.callS (as := [v1, v2, v3, v4, v5]) (rest := st) hR hd hc hdd rfl rfl hrest (Nat.le_refl _) (Nat.le_refl _) (Or.inl ⟨rfl, fun v h z => by rw [z.2]; rfl⟩) (fun v h z => by obtain ⟨rfl, rfl⟩ := z; exact k1)
theorem Wp.cS5v {d' idx : Nat} {m' : MI} {σ' : SS} {v1 v2 v3 v4 v5 : AV} (hR : Runs d' 0 0 m' ([v1, v2, v3, v4, v5]) (hp σ) (fun v h => v = none ∧ h = hp σ')) (hd : Dc m pc (.invokestatic idx) 3 pc') (hc : CdS m.1.cls idx m' 5) (hdd : d' + 1 ≤ d) (hrest : (st.map ct).sum ≤ 8) (k1 : Ws d m Q pc' ls (st) σ') : Ws d m Q pc ls (v5 :: v4 :: v3 :: v2 :: v1 :: st) σ := Wp.callS (as := [v1, v2, v3, v4, v5]) (rest := st) hR hd hc hdd rfl rfl hrest (Nat.le_refl _) (Nat.le_refl _) (Or.inl ⟨rfl, fun v h z => by rw [z.2]; rfl⟩) (fun v h z => by obtain ⟨rfl, rfl⟩ := z; exact k1)
theorem Wp.cV6i {d' idx kk nn : Nat} {m' : MI} {σ' : SS} {v1 v2 v3 v4 v5 v6 : AV} {r : Int32} (hR : Runs d' 0 0 m' (vr kk nn :: [v1, v2, v3, v4, v5, v6]) (hp σ) (fun v h => v = some (vi r) ∧ h = hp σ')) (hd : Dc m pc (.invokevirtual idx) 3 pc') (hc : CdV m.1.cls idx m' 6 kk) (hm : (kk, nn) ∈ OS) (hdd : d' + 1 ≤ d) (hrest : (st.map ct).sum ≤ 8) (k1 : Ws d m Q pc' ls (vi r :: st) σ') : Ws d m Q pc ls (v6 :: v5 :: v4 :: v3 :: v2 :: v1 :: vr kk nn :: st) σ := Wp.callV (as := [v1, v2, v3, v4, v5, v6]) (rest := st) hR hd hc hm hdd rfl rfl hrest (Nat.le_refl _) (Nat.le_refl _) (Or.inl ⟨rfl, fun v h z => by rw [z.2]; rfl⟩) (fun v h z => by obtain ⟨rfl, rfl⟩ := z; exact k1)
theorem Wp.cV6l {d' idx kk nn : Nat} {m' : MI} {σ' : SS} {v1 v2 v3 v4 v5 v6 : AV} {r : Int64} (hR : Runs d' 0 0 m' (vr kk nn :: [v1, v2, v3, v4, v5, v6]) (hp σ) (fun v h => v = some (vl r) ∧ h = hp σ')) (hd : Dc m pc (.invokevirtual idx) 3 pc') (hc : CdV m.1.cls idx m' 6 kk) (hm : (kk, nn) ∈ OS) (hdd : d' + 1 ≤ d) (hrest : (st.map ct).sum ≤ 8) (k1 : Ws d m Q pc' ls (vl r :: st) σ') : Ws d m Q pc ls (v6 :: v5 :: v4 :: v3 :: v2 :: v1 :: vr kk nn :: st) σ := Wp.callV (as := [v1, v2, v3, v4, v5, v6]) (rest := st) hR hd hc hm hdd rfl rfl hrest (Nat.le_refl _) (Nat.le_refl _) (Or.inl ⟨rfl, fun v h z => by rw [z.2]; rfl⟩) (fun v h z => by obtain ⟨rfl, rfl⟩ := z; exact k1)
theorem Wp.cV6q {d' idx kk nn : Nat} {m' : MI} {σ' : SS} {v1 v2 v3 v4 v5 v6 : AV} {r : AV} (hR : Runs d' 0 0 m' (vr kk nn :: [v1, v2, v3, v4, v5, v6]) (hp σ) (fun v h => v = some r ∧ h = hp σ')) (hd : Dc m pc (.invokevirtual idx) 3 pc') (hc : CdV m.1.cls idx m' 6 kk) (hm : (kk, nn) ∈ OS) (hdd : d' + 1 ≤ d) (hrest : (st.map ct).sum ≤ 8) (k1 : Ws d m Q pc' ls (r :: st) σ') : Ws d m Q pc ls (v6 :: v5 :: v4 :: v3 :: v2 :: v1 :: vr kk nn :: st) σ := Wp.callV (as := [v1, v2, v3, v4, v5, v6]) (rest := st) hR hd hc hm hdd rfl rfl hrest (Nat.le_refl _) (Nat.le_refl _) (Or.inl ⟨rfl, fun v h z => by rw [z.2]; rfl⟩) (fun v h z => by obtain ⟨rfl, rfl⟩ := z; exact k1)
theorem Wp.cV6v {d' idx kk nn : Nat} {m' : MI} {σ' : SS} {v1 v2 v3 v4 v5 v6 : AV} (hR : Runs d' 0 0 m' (vr kk nn :: [v1, v2, v3, v4, v5, v6]) (hp σ) (fun v h => v = none ∧ h = hp σ')) (hd : Dc m pc (.invokevirtual idx) 3 pc') (hc : CdV m.1.cls idx m' 6 kk) (hm : (kk, nn) ∈ OS) (hdd : d' + 1 ≤ d) (hrest : (st.map ct).sum ≤ 8) (k1 : Ws d m Q pc' ls (st) σ') : Ws d m Q pc ls (v6 :: v5 :: v4 :: v3 :: v2 :: v1 :: vr kk nn :: st) σ := Wp.callV (as := [v1, v2, v3, v4, v5, v6]) (rest := st) hR hd hc hm hdd rfl rfl hrest (Nat.le_refl _) (Nat.le_refl _) (Or.inl ⟨rfl, fun v h z => by rw [z.2]; rfl⟩) (fun v h z => by obtain ⟨rfl, rfl⟩ := z; exact k1)
theorem Wp.cS6i {d' idx : Nat} {m' : MI} {σ' : SS} {v1 v2 v3 v4 v5 v6 : AV} {r : Int32} (hR : Runs d' 0 0 m' ([v1, v2, v3, v4, v5, v6]) (hp σ) (fun v h => v = some (vi r) ∧ h = hp σ')) (hd : Dc m pc (.invokestatic idx) 3 pc') (hc : CdS m.1.cls idx m' 6) (hdd : d' + 1 ≤ d) (hrest : (st.map ct).sum ≤ 8) (k1 : Ws d m Q pc' ls (vi r :: st) σ') : Ws d m Q pc ls (v6 :: v5 :: v4 :: v3 :: v2 :: v1 :: st) σ := Wp.callS (as := [v1, v2, v3, v4, v5, v6]) (rest := st) hR hd hc hdd rfl rfl hrest (Nat.le_refl _) (Nat.le_refl _) (Or.inl ⟨rfl, fun v h z => by rw [z.2]; rfl⟩) (fun v h z => by obtain ⟨rfl, rfl⟩ := z; exact k1)
theorem Wp.cS6l {d' idx : Nat} {m' : MI} {σ' : SS} {v1 v2 v3 v4 v5 v6 : AV} {r : Int64} (hR : Runs d' 0 0 m' ([v1, v2, v3, v4, v5, v6]) (hp σ) (fun v h => v = some (vl r) ∧ h = hp σ')) (hd : Dc m pc (.invokestatic idx) 3 pc') (hc : CdS m.1.cls idx m' 6) (hdd : d' + 1 ≤ d) (hrest : (st.map ct).sum ≤ 8) (k1 : Ws d m Q pc' ls (vl r :: st) σ') : Ws d m Q pc ls (v6 :: v5 :: v4 :: v3 :: v2 :: v1 :: st) σ := Wp.callS (as := [v1, v2, v3, v4, v5, v6]) (rest := st) hR hd hc hdd rfl rfl hrest (Nat.le_refl _) (Nat.le_refl _) (Or.inl ⟨rfl, fun v h z => by rw [z.2]; rfl⟩) (fun v h z => by obtain ⟨rfl, rfl⟩ := z; exact k1)
theorem Wp.cS6q {d' idx : Nat} {m' : MI} {σ' : SS} {v1 v2 v3 v4 v5 v6 : AV} {r : AV} (hR : Runs d' 0 0 m' ([v1, v2, v3, v4, v5, v6]) (hp σ) (fun v h => v = some r ∧ h = hp σ')) (hd : Dc m pc (.invokestatic idx) 3 pc') (hc : CdS m.1.cls idx m' 6) (hdd : d' + 1 ≤ d) (hrest : (st.map ct).sum ≤ 8) (k1 : Ws d m Q pc' ls (r :: st) σ') : Ws d m Q pc ls (v6 :: v5 :: v4 :: v3 :: v2 :: v1 :: st) σ := Wp.callS (as := [v1, v2, v3, v4, v5, v6]) (rest := st) hR hd hc hdd rfl rfl hrest (Nat.le_refl _) (Nat.le_refl _) (Or.inl ⟨rfl, fun v h z => by rw [z.2]; rfl⟩) (fun v h z => by obtain ⟨rfl, rfl⟩ := z; exact k1)
theorem Wp.cS6v {d' idx : Nat} {m' : MI} {σ' : SS} {v1 v2 v3 v4 v5 v6 : AV} (hR : Runs d' 0 0 m' ([v1, v2, v3, v4, v5, v6]) (hp σ) (fun v h => v = none ∧ h = hp σ')) (hd : Dc m pc (.invokestatic idx) 3 pc') (hc : CdS m.1.cls idx m' 6) (hdd : d' + 1 ≤ d) (hrest : (st.map ct).sum ≤ 8) (k1 : Ws d m Q pc' ls (st) σ') : Ws d m Q pc ls (v6 :: v5 :: v4 :: v3 :: v2 :: v1 :: st) σ := Wp.callS (as := [v1, v2, v3, v4, v5, v6]) (rest := st) hR hd hc hdd rfl rfl hrest (Nat.le_refl _) (Nat.le_refl _) (Or.inl ⟨rfl, fun v h z => by rw [z.2]; rfl⟩) (fun v h z => by obtain ⟨rfl, rfl⟩ := z; exact k1)
theorem Wp.cV7i {d' idx kk nn : Nat} {m' : MI} {σ' : SS} {v1 v2 v3 v4 v5 v6 v7 : AV} {r : Int32} (hR : Runs d' 0 0 m' (vr kk nn :: [v1, v2, v3, v4, v5, v6, v7]) (hp σ) (fun v h => v = some (vi r) ∧ h = hp σ')) (hd : Dc m pc (.invokevirtual idx) 3 pc') (hc : CdV m.1.cls idx m' 7 kk) (hm : (kk, nn) ∈ OS) (hdd : d' + 1 ≤ d) (hrest : (st.map ct).sum ≤ 8) (k1 : Ws d m Q pc' ls (vi r :: st) σ') : Ws d m Q pc ls (v7 :: v6 :: v5 :: v4 :: v3 :: v2 :: v1 :: vr kk nn :: st) σ := Wp.callV (as := [v1, v2, v3, v4, v5, v6, v7]) (rest := st) hR hd hc hm hdd rfl rfl hrest (Nat.le_refl _) (Nat.le_refl _) (Or.inl ⟨rfl, fun v h z => by rw [z.2]; rfl⟩) (fun v h z => by obtain ⟨rfl, rfl⟩ := z; exact k1)
theorem Wp.cV7l {d' idx kk nn : Nat} {m' : MI} {σ' : SS} {v1 v2 v3 v4 v5 v6 v7 : AV} {r : Int64} (hR : Runs d' 0 0 m' (vr kk nn :: [v1, v2, v3, v4, v5, v6, v7]) (hp σ) (fun v h => v = some (vl r) ∧ h = hp σ')) (hd : Dc m pc (.invokevirtual idx) 3 pc') (hc : CdV m.1.cls idx m' 7 kk) (hm : (kk, nn) ∈ OS) (hdd : d' + 1 ≤ d) (hrest : (st.map ct).sum ≤ 8) (k1 : Ws d m Q pc' ls (vl r :: st) σ') : Ws d m Q pc ls (v7 :: v6 :: v5 :: v4 :: v3 :: v2 :: v1 :: vr kk nn :: st) σ := Wp.callV (as := [v1, v2, v3, v4, v5, v6, v7]) (rest := st) hR hd hc hm hdd rfl rfl hrest (Nat.le_refl _) (Nat.le_refl _) (Or.inl ⟨rfl, fun v h z => by rw [z.2]; rfl⟩) (fun v h z => by obtain ⟨rfl, rfl⟩ := z; exact k1)
theorem Wp.cV7q {d' idx kk nn : Nat} {m' : MI} {σ' : SS} {v1 v2 v3 v4 v5 v6 v7 : AV} {r : AV} (hR : Runs d' 0 0 m' (vr kk nn :: [v1, v2, v3, v4, v5, v6, v7]) (hp σ) (fun v h => v = some r ∧ h = hp σ')) (hd : Dc m pc (.invokevirtual idx) 3 pc') (hc : CdV m.1.cls idx m' 7 kk) (hm : (kk, nn) ∈ OS) (hdd : d' + 1 ≤ d) (hrest : (st.map ct).sum ≤ 8) (k1 : Ws d m Q pc' ls (r :: st) σ') : Ws d m Q pc ls (v7 :: v6 :: v5 :: v4 :: v3 :: v2 :: v1 :: vr kk nn :: st) σ := Wp.callV (as := [v1, v2, v3, v4, v5, v6, v7]) (rest := st) hR hd hc hm hdd rfl rfl hrest (Nat.le_refl _) (Nat.le_refl _) (Or.inl ⟨rfl, fun v h z => by rw [z.2]; rfl⟩) (fun v h z => by obtain ⟨rfl, rfl⟩ := z; exact k1)
theorem Wp.cV7v {d' idx kk nn : Nat} {m' : MI} {σ' : SS} {v1 v2 v3 v4 v5 v6 v7 : AV} (hR : Runs d' 0 0 m' (vr kk nn :: [v1, v2, v3, v4, v5, v6, v7]) (hp σ) (fun v h => v = none ∧ h = hp σ')) (hd : Dc m pc (.invokevirtual idx) 3 pc') (hc : CdV m.1.cls idx m' 7 kk) (hm : (kk, nn) ∈ OS) (hdd : d' + 1 ≤ d) (hrest : (st.map ct).sum ≤ 8) (k1 : Ws d m Q pc' ls (st) σ') : Ws d m Q pc ls (v7 :: v6 :: v5 :: v4 :: v3 :: v2 :: v1 :: vr kk nn :: st) σ := Wp.callV (as := [v1, v2, v3, v4, v5, v6, v7]) (rest := st) hR hd hc hm hdd rfl rfl hrest (Nat.le_refl _) (Nat.le_refl _) (Or.inl ⟨rfl, fun v h z => by rw [z.2]; rfl⟩) (fun v h z => by obtain ⟨rfl, rfl⟩ := z; exact k1)
theorem Wp.cS7i {d' idx : Nat} {m' : MI} {σ' : SS} {v1 v2 v3 v4 v5 v6 v7 : AV} {r : Int32} (hR : Runs d' 0 0 m' ([v1, v2, v3, v4, v5, v6, v7]) (hp σ) (fun v h => v = some (vi r) ∧ h = hp σ')) (hd : Dc m pc (.invokestatic idx) 3 pc') (hc : CdS m.1.cls idx m' 7) (hdd : d' + 1 ≤ d) (hrest : (st.map ct).sum ≤ 8) (k1 : Ws d m Q pc' ls (vi r :: st) σ') : Ws d m Q pc ls (v7 :: v6 :: v5 :: v4 :: v3 :: v2 :: v1 :: st) σ := Wp.callS (as := [v1, v2, v3, v4, v5, v6, v7]) (rest := st) hR hd hc hdd rfl rfl hrest (Nat.le_refl _) (Nat.le_refl _) (Or.inl ⟨rfl, fun v h z => by rw [z.2]; rfl⟩) (fun v h z => by obtain ⟨rfl, rfl⟩ := z; exact k1)
theorem Wp.cS7l {d' idx : Nat} {m' : MI} {σ' : SS} {v1 v2 v3 v4 v5 v6 v7 : AV} {r : Int64} (hR : Runs d' 0 0 m' ([v1, v2, v3, v4, v5, v6, v7]) (hp σ) (fun v h => v = some (vl r) ∧ h = hp σ')) (hd : Dc m pc (.invokestatic idx) 3 pc') (hc : CdS m.1.cls idx m' 7) (hdd : d' + 1 ≤ d) (hrest : (st.map ct).sum ≤ 8) (k1 : Ws d m Q pc' ls (vl r :: st) σ') : Ws d m Q pc ls (v7 :: v6 :: v5 :: v4 :: v3 :: v2 :: v1 :: st) σ := Wp.callS (as := [v1, v2, v3, v4, v5, v6, v7]) (rest := st) hR hd hc hdd rfl rfl hrest (Nat.le_refl _) (Nat.le_refl _) (Or.inl ⟨rfl, fun v h z => by rw [z.2]; rfl⟩) (fun v h z => by obtain ⟨rfl, rfl⟩ := z; exact k1)
theorem Wp.cS7q {d' idx : Nat} {m' : MI} {σ' : SS} {v1 v2 v3 v4 v5 v6 v7 : AV} {r : AV} (hR : Runs d' 0 0 m' ([v1, v2, v3, v4, v5, v6, v7]) (hp σ) (fun v h => v = some r ∧ h = hp σ')) (hd : Dc m pc (.invokestatic idx) 3 pc') (hc : CdS m.1.cls idx m' 7) (hdd : d' + 1 ≤ d) (hrest : (st.map ct).sum ≤ 8) (k1 : Ws d m Q pc' ls (r :: st) σ') : Ws d m Q pc ls (v7 :: v6 :: v5 :: v4 :: v3 :: v2 :: v1 :: st) σ := Wp.callS (as := [v1, v2, v3, v4, v5, v6, v7]) (rest := st) hR hd hc hdd rfl rfl hrest (Nat.le_refl _) (Nat.le_refl _) (Or.inl ⟨rfl, fun v h z => by rw [z.2]; rfl⟩) (fun v h z => by obtain ⟨rfl, rfl⟩ := z; exact k1)
theorem Wp.cS7v {d' idx : Nat} {m' : MI} {σ' : SS} {v1 v2 v3 v4 v5 v6 v7 : AV} (hR : Runs d' 0 0 m' ([v1, v2, v3, v4, v5, v6, v7]) (hp σ) (fun v h => v = none ∧ h = hp σ')) (hd : Dc m pc (.invokestatic idx) 3 pc') (hc : CdS m.1.cls idx m' 7) (hdd : d' + 1 ≤ d) (hrest : (st.map ct).sum ≤ 8) (k1 : Ws d m Q pc' ls (st) σ') : Ws d m Q pc ls (v7 :: v6 :: v5 :: v4 :: v3 :: v2 :: v1 :: st) σ := Wp.callS (as := [v1, v2, v3, v4, v5, v6, v7]) (rest := st) hR hd hc hdd rfl rfl hrest (Nat.le_refl _) (Nat.le_refl _) (Or.inl ⟨rfl, fun v h z => by rw [z.2]; rfl⟩) (fun v h z => by obtain ⟨rfl, rfl⟩ := z; exact k1)
end WPS
section WPM
variable {d mc ms : Nat} {m : MI} {Q : Option AV → AH → Prop} {k n pc pc' : Nat} {ls : List (Option AV)} {st : List AV} {h : AH}
theorem catroom {d mc ms : Nat} {ad : Nat → Nat → Nat} (hd : 1 ≤ d) (hrest : (st.map ct).sum ≤ 8) : ((st.map (cv ad)).map fun v => v.category).sum + 13 ≤ (rmd d mc ms).locals := by
  rw [catsum]
  show _ ≤ 64 * d
  omega
theorem Wp.mmax {x y : Int32} {idx : Nat} (hd : Dc m pc (.invokestatic idx) 3 pc') (h1 : Cond.methodLink m.1.cls idx Lib.Math.max.name ∈ lw_g) (h2 : Cond.static Lib.Math.max.name ∈ lw_g) (h3 : Cond.initialized "java/lang/Math" ∈ lw_g) (h4 : Cond.code Lib.Math.max.name Lib.Math.max.code 2 (some .int) ∈ lw_g) (hdd : 1 ≤ d) (hk : k ≤ mc) (hs : n ≤ ms) (hrest : (st.map ct).sum ≤ 8) (k1 : Wp d mc ms m Q k n pc' ls (vi (imax x y) :: st) h) : Wp d mc ms m Q k n pc ls (vi y :: vi x :: st) h := by
  intro p l e s mid args below meth c D tc ad0 ad h0 H locs LS C hW hS hL hE
  obtain ⟨hd1, rfl⟩ := hd
  obtain ⟨c1, c2, c3, c4, c5, c6, c7, c8, c9⟩ := id C
  exact va_mmax c1 c2 (c4.trans hL.1.symm) c5 (c6 _ h1) (c6 _ h2) (c6 _ h3) (c6 _ h4) hdd (catroom hdd hrest) hk hs hd1 (k1 p l e s mid args below meth c D tc ad0 ad h0 H locs LS C hW hS hL hE)
theorem Wp.mmin {x y : Int32} {idx : Nat} (hd : Dc m pc (.invokestatic idx) 3 pc') (h1 : Cond.methodLink m.1.cls idx Lib.Math.min.name ∈ lw_g) (h2 : Cond.static Lib.Math.min.name ∈ lw_g) (h3 : Cond.initialized "java/lang/Math" ∈ lw_g) (h4 : Cond.code Lib.Math.min.name Lib.Math.min.code 2 (some .int) ∈ lw_g) (hdd : 1 ≤ d) (hk : k ≤ mc) (hs : n ≤ ms) (hrest : (st.map ct).sum ≤ 8) (k1 : Wp d mc ms m Q k n pc' ls (vi (imin x y) :: st) h) : Wp d mc ms m Q k n pc ls (vi y :: vi x :: st) h := by
  intro p l e s mid args below meth c D tc ad0 ad h0 H locs LS C hW hS hL hE
  obtain ⟨hd1, rfl⟩ := hd
  obtain ⟨c1, c2, c3, c4, c5, c6, c7, c8, c9⟩ := id C
  exact va_mmin c1 c2 (c4.trans hL.1.symm) c5 (c6 _ h1) (c6 _ h2) (c6 _ h3) (c6 _ h4) hdd (catroom hdd hrest) hk hs hd1 (k1 p l e s mid args below meth c D tc ad0 ad h0 H locs LS C hW hS hL hE)
theorem Wp.mabs {x : Int64} {idx : Nat} (hd : Dc m pc (.invokestatic idx) 3 pc') (h1 : Cond.methodLink m.1.cls idx Lib.MathLoose.abs_long.x ∈ lw_g) (h2 : Cond.static Lib.MathLoose.abs_long.x ∈ lw_g) (h3 : Cond.initialized "java/lang/Math" ∈ lw_g) (h4 : Cond.code Lib.MathLoose.abs_long.x Lib.MathLoose.abs_long.code 2 (some .long) ∈ lw_g) (hdd : 1 ≤ d) (hk : k ≤ mc) (hs : n ≤ ms) (hrest : (st.map ct).sum ≤ 8) (k1 : Wp d mc ms m Q k n pc' ls (vl (labs x) :: st) h) : Wp d mc ms m Q k n pc ls (vl x :: st) h := by
  intro p l e s mid args below meth c D tc ad0 ad h0 H locs LS C hW hS hL hE
  obtain ⟨hd1, rfl⟩ := hd
  obtain ⟨c1, c2, c3, c4, c5, c6, c7, c8, c9⟩ := id C
  exact va_mabs_long c1 c2 (c4.trans hL.1.symm) c5 (c6 _ h1) (c6 _ h2) (c6 _ h3) (c6 _ h4) hdd (catroom hdd hrest) hk hs hd1 (k1 p l e s mid args below meth c D tc ad0 ad h0 H locs LS C hW hS hL hE)
end WPM
