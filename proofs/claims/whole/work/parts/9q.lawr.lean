/-! ===== the law's body over the smaller machine, with its script (by program: wip/whole/law.py) ===== -/
def mL (nm : String) : MI := (⟨R_law, nm, ""⟩, code, 4, ret)
/-- 90 0 the script -/
def Sx (L : Nat) (xs : Nat → Int32) (s : State) (args : Array Value) (ad : Nat → Nat → Nat) : Prop := va_X (ad 90 0) L xs s s.heap ∧ ad 90 0 < s.heap.size ∧ args = #[.ref (ad 90 0)]
def Wl (L : Nat) (xs : Nat → Int32) (k n : Nat) (pc : Nat) (ls : List (Option AV)) (st : List AV) (h : AH) : Prop :=
  ∀ (p : Program) (l : Launch) (e : Env) (s : State) (mid : MethodId) (args : Array Value) (below : List Frame) (meth : Method) (c : Code) (D : va_G) (tc : Nat → ClassId) (ad0 ad : Nat → Nat → Nat) (H : Heap) (locs : List Loc) (LS : Array Slot),
    Cx D tc (mL meth.name) p s mid args meth c ad0 (Af ad0 hk0 s.heap.size) → Sx L xs s args ad0 → Wd D tc ad h H (Af ad0 hk0 s.heap.size) → va_S (Af ad0 hk0 s.heap.size) s.heap H locs → Lc ad 4 ls LS → Ex ad0 hk0 ad h →
    W p l e room_1 s mid args below meth c H locs k n (lw_Z below args s) (F0 mid pc LS (st.map (cv ad)))
theorem Af0 {ad0 : Nat → Nat → Nat} {sz q : Nat} (h : Af ad0 hk0 sz q) : sz ≤ q := by
  rcases h with ⟨x, h1, -⟩ | h1
  · exact absurd h1 List.not_mem_nil
  · exact h1
section WLI
variable {L : Nat} {xs : Nat → Int32} {k n pc pc' : Nat} {ls : List (Option AV)} {st : List AV} {h : AH}
theorem Wl.iadd {x y : Int32} (hd : DcL pc (.iadd) 1 pc') (k1 : Wl L xs k n pc' ls (vi (x + y) :: st) h) : Wl L xs k n pc ls (vi y :: vi x :: st) h := by
  intro p l e s mid args below meth c D tc ad0 ad H locs LS C SX hW hS hL hE
  obtain ⟨hd1, rfl⟩ := hd
  exact lv_iadd C.1 C.2.1 hd1 (k1 p l e s mid args below meth c D tc ad0 ad H locs LS C SX hW hS hL hE)
theorem Wl.isub {x y : Int32} (hd : DcL pc (.isub) 1 pc') (k1 : Wl L xs k n pc' ls (vi (x - y) :: st) h) : Wl L xs k n pc ls (vi y :: vi x :: st) h := by
  intro p l e s mid args below meth c D tc ad0 ad H locs LS C SX hW hS hL hE
  obtain ⟨hd1, rfl⟩ := hd
  exact lv_isub C.1 C.2.1 hd1 (k1 p l e s mid args below meth c D tc ad0 ad H locs LS C SX hW hS hL hE)
theorem Wl.iand {x y : Int32} (hd : DcL pc (.iand) 1 pc') (k1 : Wl L xs k n pc' ls (vi (x &&& y) :: st) h) : Wl L xs k n pc ls (vi y :: vi x :: st) h := by
  intro p l e s mid args below meth c D tc ad0 ad H locs LS C SX hW hS hL hE
  obtain ⟨hd1, rfl⟩ := hd
  exact lv_iand C.1 C.2.1 hd1 (k1 p l e s mid args below meth c D tc ad0 ad H locs LS C SX hW hS hL hE)
theorem Wl.i2l {x : Int32} (hd : DcL pc (.i2l) 1 pc') (k1 : Wl L xs k n pc' ls (vl x.toInt64 :: st) h) : Wl L xs k n pc ls (vi x :: st) h := by
  intro p l e s mid args below meth c D tc ad0 ad H locs LS C SX hW hS hL hE
  obtain ⟨hd1, rfl⟩ := hd
  exact lv_i2l C.1 C.2.1 hd1 rfl (k1 p l e s mid args below meth c D tc ad0 ad H locs LS C SX hW hS hL hE)
theorem Wl.lshl {x : Int64} {y : Int32} (hd : DcL pc (.lshl) 1 pc') (k1 : Wl L xs k n pc' ls (vl (x <<< (y.toInt64 &&& 63)) :: st) h) : Wl L xs k n pc ls (vi y :: vl x :: st) h := by
  intro p l e s mid args below meth c D tc ad0 ad H locs LS C SX hW hS hL hE
  obtain ⟨hd1, rfl⟩ := hd
  exact lv_lshl C.1 C.2.1 hd1 rfl (k1 p l e s mid args below meth c D tc ad0 ad H locs LS C SX hW hS hL hE)
theorem Wl.land {x y : Int64} (hd : DcL pc (.land) 1 pc') (k1 : Wl L xs k n pc' ls (vl (x &&& y) :: st) h) : Wl L xs k n pc ls (vl y :: vl x :: st) h := by
  intro p l e s mid args below meth c D tc ad0 ad H locs LS C SX hW hS hL hE
  obtain ⟨hd1, rfl⟩ := hd
  exact lv_land C.1 C.2.1 hd1 (k1 p l e s mid args below meth c D tc ad0 ad H locs LS C SX hW hS hL hE)
theorem Wl.lor {x y : Int64} (hd : DcL pc (.lor) 1 pc') (k1 : Wl L xs k n pc' ls (vl (x ||| y) :: st) h) : Wl L xs k n pc ls (vl y :: vl x :: st) h := by
  intro p l e s mid args below meth c D tc ad0 ad H locs LS C SX hW hS hL hE
  obtain ⟨hd1, rfl⟩ := hd
  exact lv_lor C.1 C.2.1 hd1 (k1 p l e s mid args below meth c D tc ad0 ad H locs LS C SX hW hS hL hE)
theorem Wl.lcmp {x y : Int64} (hd : DcL pc (.lcmp) 1 pc') (k1 : Wl L xs k n pc' ls (vi (lg_cmp x y) :: st) h) : Wl L xs k n pc ls (vl y :: vl x :: st) h := by
  intro p l e s mid args below meth c D tc ad0 ad H locs LS C SX hW hS hL hE
  obtain ⟨hd1, rfl⟩ := hd
  exact W.lcmp C.1 C.2.1 hd1 (k1 p l e s mid args below meth c D tc ad0 ad H locs LS C SX hW hS hL hE)
theorem Wl.iconst {z : Int} {v : Int32} (hd : DcL pc (.iconst z) 1 pc') (hv : Int32.ofInt z = v) (k1 : Wl L xs k n pc' ls (vi v :: st) h) : Wl L xs k n pc ls st h := by
  intro p l e s mid args below meth c D tc ad0 ad H locs LS C SX hW hS hL hE
  obtain ⟨hd1, rfl⟩ := hd
  exact lv_iconst C.1 C.2.1 hd1 hv (k1 p l e s mid args below meth c D tc ad0 ad H locs LS C SX hW hS hL hE)
theorem Wl.bipush {z : Int} {v : Int32} (hd : DcL pc (.bipush z) 2 pc') (hv : (Int8.ofInt z).toInt32 = v) (k1 : Wl L xs k n pc' ls (vi v :: st) h) : Wl L xs k n pc ls st h := by
  intro p l e s mid args below meth c D tc ad0 ad H locs LS C SX hW hS hL hE
  obtain ⟨hd1, rfl⟩ := hd
  exact lv_bipush C.1 C.2.1 hd1 hv (k1 p l e s mid args below meth c D tc ad0 ad H locs LS C SX hW hS hL hE)
theorem Wl.ldc2 {ix : Nat} {v : Int64} (hd : DcL pc (.ldc2_w ix) 3 pc') (hw : Cond.constantLong R_law ix v ∈ lw_g) (k1 : Wl L xs k n pc' ls (vl v :: st) h) : Wl L xs k n pc ls st h := by
  intro p l e s mid args below meth c D tc ad0 ad H locs LS C SX hW hS hL hE
  obtain ⟨hd1, rfl⟩ := hd
  exact lv_ldc2 C.1 C.2.1 C.2.2.2.2.1 (C.2.2.2.2.2.1 _ hw) hd1 (k1 p l e s mid args below meth c D tc ad0 ad H locs LS C SX hW hS hL hE)
theorem Wl.dup {v : AV} (hd : DcL pc (.dup) 1 pc') (hv : ct v = 1) (k1 : Wl L xs k n pc' ls (v :: v :: st) h) : Wl L xs k n pc ls (v :: st) h := by
  intro p l e s mid args below meth c D tc ad0 ad H locs LS C SX hW hS hL hE
  obtain ⟨hd1, rfl⟩ := hd
  exact lv_dup C.1 C.2.1 hd1 ((cv_cat ad v).trans hv) (k1 p l e s mid args below meth c D tc ad0 ad H locs LS C SX hW hS hL hE)
theorem Wl.iload_n {i : Fin 4} {x : Int32} (hd : DcL pc (.iload_n i) 1 pc') (hv : ls[(i : Nat)]? = some (some (vi x))) (k1 : Wl L xs k n pc' ls (vi x :: st) h) : Wl L xs k n pc ls st h := by
  intro p l e s mid args below meth c D tc ad0 ad H locs LS C SX hW hS hL hE
  obtain ⟨hd1, rfl⟩ := hd
  exact lv_iload_n C.1 C.2.1 hd1 rfl (hL.2.2.2 _ _ hv) (k1 p l e s mid args below meth c D tc ad0 ad H locs LS C SX hW hS hL hE)
theorem Wl.aload_n {i : Fin 4} {q r : Nat} (hd : DcL pc (.aload_n i) 1 pc') (hv : ls[(i : Nat)]? = some (some (vr q r))) (k1 : Wl L xs k n pc' ls (vr q r :: st) h) : Wl L xs k n pc ls st h := by
  intro p l e s mid args below meth c D tc ad0 ad H locs LS C SX hW hS hL hE
  obtain ⟨hd1, rfl⟩ := hd
  exact lv_aload_n C.1 C.2.1 hd1 rfl (hL.2.2.2 _ _ hv) (k1 p l e s mid args below meth c D tc ad0 ad H locs LS C SX hW hS hL hE)
theorem Wl.istore_n {i : Fin 4} {x : Int32} (hd : DcL pc (.istore_n i) 1 pc') (hi : (i : Nat) < 4) (k1 : Wl L xs k n pc' (st1 (i : Nat) (vi x) ls) st h) : Wl L xs k n pc ls (vi x :: st) h := by
  intro p l e s mid args below meth c D tc ad0 ad H locs LS C SX hW hS hL hE
  obtain ⟨hd1, rfl⟩ := hd
  exact lv_istore_n C.1 C.2.1 hd1 rfl hL.has hi rfl (fun LS' hl' => k1 p l e s mid args below meth c D tc ad0 ad H locs LS' C SX hW hS (hL.s1 (v := vi x) hi hl') hE)
theorem Wl.astore_n {i : Fin 4} {q r : Nat} (hd : DcL pc (.astore_n i) 1 pc') (hi : (i : Nat) < 4) (k1 : Wl L xs k n pc' (st1 (i : Nat) (vr q r) ls) st h) : Wl L xs k n pc ls (vr q r :: st) h := by
  intro p l e s mid args below meth c D tc ad0 ad H locs LS C SX hW hS hL hE
  obtain ⟨hd1, rfl⟩ := hd
  exact lv_astore_n C.1 C.2.1 hd1 rfl hL.has hi rfl (fun LS' hl' => k1 p l e s mid args below meth c D tc ad0 ad H locs LS' C SX hW hS (hL.s1 (v := vr q r) hi hl') hE)
theorem Wl.iinc {i : Nat} {z : Int} {x v : Int32} (hd : DcL pc (.iinc i z) 3 pc') (hv : ls[i]? = some (some (vi x))) (hx : x + Int32.ofInt z = v) (hi : i < 4) (k1 : Wl L xs k n pc' (st1 i (vi v) ls) st h) : Wl L xs k n pc ls st h := by
  intro p l e s mid args below meth c D tc ad0 ad H locs LS C SX hW hS hL hE
  obtain ⟨hd1, rfl⟩ := hd
  obtain ⟨j, hj⟩ := List.getElem?_of_mem (prs_in (ad := ad) hv)
  exact lv_iinc (k := j) (v := v) C.1 C.2.1 hd1 hL.has hj hx hi rfl (fun LS' hl' => k1 p l e s mid args below meth c D tc ad0 ad H locs LS' C SX hW hS (hL.s1 (v := vi v) hi hl') hE)
theorem Wl.if_eq {x : Int32} {off : Int} {tgt : Nat} (hd : DcL pc (.ifCond .eq off) 3 pc') (ht : (pc : Int) + off = (tgt : Int)) (kt : x = 0 → Wl L xs k n tgt ls st h) (kf : ¬ (x = 0) → Wl L xs k n pc' ls st h) : Wl L xs k n pc ls (vi x :: st) h := by
  intro p l e s mid args below meth c D tc ad0 ad H locs LS C SX hW hS hL hE
  obtain ⟨hd1, rfl⟩ := hd
  exact lv_if_eq C.1 C.2.1 hd1 ht (fun q => kt q p l e s mid args below meth c D tc ad0 ad H locs LS C SX hW hS hL hE) (fun q => kf q p l e s mid args below meth c D tc ad0 ad H locs LS C SX hW hS hL hE)
theorem Wl.icmp_gt {x y : Int32} {off : Int} {tgt : Nat} (hd : DcL pc (.if_icmp .gt off) 3 pc') (ht : (pc : Int) + off = (tgt : Int)) (kt : y < x → Wl L xs k n tgt ls st h) (kf : ¬ (y < x) → Wl L xs k n pc' ls st h) : Wl L xs k n pc ls (vi y :: vi x :: st) h := by
  intro p l e s mid args below meth c D tc ad0 ad H locs LS C SX hW hS hL hE
  obtain ⟨hd1, rfl⟩ := hd
  exact lv_icmp_gt C.1 C.2.1 hd1 ht (fun q => kt q p l e s mid args below meth c D tc ad0 ad H locs LS C SX hW hS hL hE) (fun q => kf q p l e s mid args below meth c D tc ad0 ad H locs LS C SX hW hS hL hE)
theorem Wl.icmp_eq {x y : Int32} {off : Int} {tgt : Nat} (hd : DcL pc (.if_icmp .eq off) 3 pc') (ht : (pc : Int) + off = (tgt : Int)) (kt : x = y → Wl L xs k n tgt ls st h) (kf : ¬ (x = y) → Wl L xs k n pc' ls st h) : Wl L xs k n pc ls (vi y :: vi x :: st) h := by
  intro p l e s mid args below meth c D tc ad0 ad H locs LS C SX hW hS hL hE
  obtain ⟨hd1, rfl⟩ := hd
  exact lv_icmp_eq C.1 C.2.1 hd1 ht (fun q => kt q p l e s mid args below meth c D tc ad0 ad H locs LS C SX hW hS hL hE) (fun q => kf q p l e s mid args below meth c D tc ad0 ad H locs LS C SX hW hS hL hE)
theorem Wl.goto {off : Int} {tgt : Nat} (hd : DcL pc (.goto off) 3 pc') (ht : (pc : Int) + off = (tgt : Int)) (k1 : Wl L xs k n tgt ls st h) : Wl L xs k n pc ls st h := by
  intro p l e s mid args below meth c D tc ad0 ad H locs LS C SX hW hS hL hE
  exact lv_goto C.1 C.2.1 hd.1 ht (k1 p l e s mid args below meth c D tc ad0 ad H locs LS C SX hW hS hL hE)
theorem Wl.tswOut {dflt lo hi : Int} {offs : Array Int} {len : Nat} {x : Int32} {tgt : Nat} (hd : DcL pc (.tableswitch dflt lo hi offs) len pc') (hx : x.toInt < lo ∨ hi < x.toInt) (ht : (pc : Int) + dflt = (tgt : Int)) (k1 : Wl L xs k n tgt ls st h) : Wl L xs k n pc ls (vi x :: st) h := by
  intro p l e s mid args below meth c D tc ad0 ad H locs LS C SX hW hS hL hE
  exact lv_tableOut C.1 C.2.1 hd.1 hx ht (k1 p l e s mid args below meth c D tc ad0 ad H locs LS C SX hW hS hL hE)
theorem Wl.tswIn {dflt lo hi off : Int} {offs : Array Int} {len : Nat} {x : Int32} {tgt : Nat} (hd : DcL pc (.tableswitch dflt lo hi offs) len pc') (h1 : ¬ x.toInt < lo) (h2 : ¬ hi < x.toInt) (ho : offs[(x.toInt - lo).toNat]? = some off) (ht : (pc : Int) + off = (tgt : Int)) (k1 : Wl L xs k n tgt ls st h) : Wl L xs k n pc ls (vi x :: st) h := by
  intro p l e s mid args below meth c D tc ad0 ad H locs LS C SX hW hS hL hE
  exact lv_tableIn C.1 C.2.1 hd.1 h1 h2 ho ht (k1 p l e s mid args below meth c D tc ad0 ad H locs LS C SX hW hS hL hE)
theorem Wl.slen (hd : DcL pc .arraylength 1 pc') (k1 : Wl L xs k n pc' ls (vi (nI L) :: st) h) : Wl L xs k n pc ls (vr 90 0 :: st) h := by
  intro p l e s mid args below meth c D tc ad0 ad H locs LS C SX hW hS hL hE
  obtain ⟨hd1, rfl⟩ := hd
  have z := k1 p l e s mid args below meth c D tc ad0 ad H locs LS C SX hW hS hL hE
  have e0 : (vr 90 0 :: st).map (cv ad) = Value.ref (ad0 90 0) :: st.map (cv ad) := by
    show Value.ref (ad 90 0) :: _ = _
    rw [hE.2.2.2 90 0 (by omega)]
  rw [e0]
  exact va_slen C.1 C.2.1 SX.1 SX.2.1 (fun q => Nat.not_le.mpr SX.2.1 (Af0 q)) hS hd1 z
theorem Wl.sld {i : Int32} (hd : DcL pc .iaload 1 pc') (hin : vp_in i L) (k1 : Wl L xs k n pc' ls (vi (xs i.toNatClampNeg) :: st) h) : Wl L xs k n pc ls (vi i :: vr 90 0 :: st) h := by
  intro p l e s mid args below meth c D tc ad0 ad H locs LS C SX hW hS hL hE
  obtain ⟨hd1, rfl⟩ := hd
  have z := k1 p l e s mid args below meth c D tc ad0 ad H locs LS C SX hW hS hL hE
  have e0 : (vi i :: vr 90 0 :: st).map (cv ad) = Value.int i :: Value.ref (ad0 90 0) :: st.map (cv ad) := by
    show Value.int i :: Value.ref (ad 90 0) :: _ = _
    rw [hE.2.2.2 90 0 (by omega)]
  rw [e0]
  exact va_sld C.1 C.2.1 SX.1 SX.2.1 (fun q => Nat.not_le.mpr SX.2.1 (Af0 q)) hS hin hd1 z
theorem Wl.back {mc' ms' : Nat} {Q' : Option AV → AH → Prop} {g : List AV} {rest : List AV}
    (hok : (mc' = 0 ∧ ∀ v h', Q' v h' → h'.1 = h.1) ∨ ((∀ v ∈ rest, ok1 h v) ∧ ∀ v, some v ∈ ls → ok1 h v)) (hpc : pc + 3 = pc')
    (kk : ∀ v h', Q' v h' → Wl L xs (k + mc') (n + ms') pc' ls (v.toList ++ rest) h')
    {p : Program} {l : Launch} {e : Env} {s : State} {mid : MethodId} {args : Array Value} {below : List Frame} {meth : Method} {c : Code} {D : va_G} {tc : Nat → ClassId} {ad0 ad : Nat → Nat → Nat} {H : Heap} {locs : List Loc} {LS : Array Slot}
    (C : Cx D tc (mL meth.name) p s mid args meth c ad0 (Af ad0 hk0 s.heap.size)) (SX : Sx L xs s args ad0) (hW : Wd D tc ad h H (Af ad0 hk0 s.heap.size)) (hS : va_S (Af ad0 hk0 s.heap.size) s.heap H locs) (hL : Lc ad 4 ls LS) (hE : Ex ad0 hk0 ad h)
    {a : Array Value} (hr : va_Run p l e (room_1) s mid args below meth c H locs k n mc' ms' (F0 mid pc LS (g.map (cv ad))) (rest.map (cv ad)) (Pq D tc (Af ad h H.size) ad h Q' a) (Af ad h H.size)) :
    W p l e (room_1) s mid args below meth c H locs k n (lw_Z below args s) (F0 mid pc LS (g.map (cv ad))) := by
  subst hpc
  intro T hT X
  obtain ⟨v, st₀, t, T', L', e0, X', hL', e1, e2, ⟨⟨v1, h1, ad1, hv, hq, hW1, hE1⟩, hF⟩, stp⟩ := hr T hT X
  have hv' : v = v1.map (cv ad1) := by injection hv
  subst hv'
  have hsub := Af_sub hW hS
  have hE2 : Ex ad0 hk0 ad1 h1 := hE.tr hE1
  have hWn : Wd D tc ad1 h1 T'.heap (Af ad0 hk0 s.heap.size) := by rw [e1]; exact hW1.weak hsub
  have hSn : va_S (Af ad0 hk0 s.heap.size) s.heap T'.heap (locs ++ L') := by
    rw [e1]
    obtain ⟨f1, f2⟩ := hF
    rw [e0] at f1 f2
    refine ⟨Nat.le_trans hS.1 f1, fun q hq1 hq2 => ?_, fun z hz => ?_⟩
    · rw [f2 q (Nat.lt_of_lt_of_le hq1 hS.1) (fun z => hq2 (hsub q z)), hS.2.1 q hq1 hq2]
    · rcases List.mem_append.mp hz with z1 | z1
      · exact hS.2.2 z z1
      · exact hsub _ (hL' z z1)
  have agree : (∀ v ∈ rest, cv ad1 v = cv ad v) ∧ ∀ v, some v ∈ ls → cv ad1 v = cv ad v := by
    rcases hok with ⟨-, z⟩ | ⟨z1, z2⟩
    · have : ad1 = ad := hE1.2.2.1 (z _ _ hq)
      subst this
      exact ⟨fun _ _ => rfl, fun _ _ => rfl⟩
    · exact ⟨fun v hv => cv_agree hE1 (z1 v hv), fun v hv => cv_agree hE1 (z2 v hv)⟩
  have hLn : Lc ad1 4 ls LS := ⟨hL.1, hL.2.1, hL.2.2.1, fun i v hi => by rw [agree.2 v (List.mem_of_getElem? hi)]; exact hL.2.2.2 i v hi⟩
  obtain ⟨t2, a1, b1⟩ := kk v1 h1 hq p l e s mid args below meth c D tc ad0 ad1 T'.heap (locs ++ L') LS C SX hWn hSn hLn hE2 T' rfl X'
  refine ⟨t2, stp t2 ?_, b1⟩
  have er : rest.map (cv ad) = rest.map (cv ad1) := List.map_congr_left (fun v hv => (agree.1 v hv).symm)
  have es : (v1.map (cv ad1)).toList ++ rest.map (cv ad) = (v1.toList ++ rest).map (cv ad1) := by
    rw [er, List.map_append]
    cases v1 <;> rfl
  show Steps p.tables e below (T'.setTop (F0 mid (pc + 3) LS ((v1.map (cv ad1)).toList ++ rest.map (cv ad)))) t2
  rw [es]
  exact a1
theorem rmd_law {d' mc' ms' maxL : Nat} (hd : d' ≤ 1000) (hm : maxL ≤ 40) : (rmd d' mc' ms').frames + 1 ≤ room_1.frames ∧ 8 + (maxL + 11) + (rmd d' mc' ms').locals ≤ room_1.locals := by
  refine ⟨?_, ?_⟩
  · show d' + 1 ≤ 2048
    omega
  · show 8 + (maxL + 11) + 64 * d' ≤ 84000
    omega
theorem Wl.call {d' idx kk nn na : Nat} {as : List AV} {m' : MI} {r : AV} {σ σ' : SS} {rest : List AV} (hR : Runs d' 0 0 m' (vr kk nn :: as) (hp σ) (fun v h => v = some r ∧ h = hp σ')) (hd : DcL pc (.invokevirtual idx) 3 pc') (hc : CdV R_law idx m' na kk) (hm : (kk, nn) ∈ OS) (hdd : d' ≤ 1000) (hna : as.length = na) (hst : st = as.reverse ++ vr kk nn :: rest) (hrest : (rest.map ct).sum ≤ 8)
    (hk : k ≤ 600000) (hs : n ≤ 7302250) (k1 : Wl L xs k n pc' ls (r :: rest) (hp σ')) : Wl L xs k n pc ls st (hp σ) := by
  intro p l e s mid args below meth c D tc ad0 ad H locs LS C SX hW hS hL hE
  obtain ⟨hd1, hpc⟩ := hd
  obtain ⟨⟨b1, b2, b3, b4, b5⟩, b6, b7, cT, cN, b8, b9⟩ := hc
  obtain ⟨c1, c2, c3, c4, c5, c6, c7, c8, c9⟩ := id C
  obtain ⟨q0, w1, w2⟩ := wl_at (tc := tc) (ad := ad) (h := hp σ) hm
  have hr := va_runV (p := p) (l := l) (e := e) (R := room_1) (s := s) (m := mid) (args := args) (below := below) (meth := meth) (c := c) (H := H) (locs := locs) (cells := k) (slots := n) (As := as.map (cv ad)) (rest := rest.map (cv ad)) (b := ad kk nn) (g := F0 mid pc LS (st.map (cv ad))) (index := idx) (C := m'.1.cls) (y := m'.1) (bytes := m'.2.1) (maxL := m'.2.2.1) (ret := m'.2.2.2) (ws := wsm m') (n := na)
    ⟨c1, c2, c4, c5, c6⟩ (hR l D tc ad H.size)
    ⟨callB_of (ws' := lw_g) na c6 (wsm_good b1) rfl rfl rfl (c6 _ b2) (c6 _ b3) b4 (rmd_law hdd b5), c6 _ b6, c6 _ b7⟩
    ⟨blind_pc, va_recv c8 hW.1 b8 (by rw [en_obj b9] at w1; exact w1), fun U hU hWm => ⟨rfl, by rw [hU], by rw [hU]; exact hW.weak (fun _ _ => trivial), va_K.moved hWm.alike c8, by rw [hU]; exact ((Xs.warm hWm (c9.2.kept hS.2.1)).narrow (Af_sub hW hS)).ex hE.2.2.2⟩⟩
    rfl (by simpa using hna) hL.1 (by rw [hst]; simp [cv]) (lv_room (by rw [catsum]; exact hrest)) hd1 ⟨hk, hs⟩
  exact Wl.back (k := k) (n := n) (mc' := 0) (ms' := 0) (Q' := fun v h => v = some r ∧ h = hp σ') (Or.inl ⟨rfl, fun v h z => by rw [z.2]; rfl⟩) hpc (fun v h z => by obtain ⟨rfl, rfl⟩ := z; exact k1) C SX hW hS hL hE hr
theorem Wl.callI {d' mc' ms' idx kk nn na : Nat} {as : List AV} {m' : MI} {Q' : Option AV → AH → Prop} {rest : List AV} (hR : Runs d' mc' ms' m' (vr kk nn :: as) h Q') (hd : DcL pc (.invokespecial idx) 3 pc') (hc : CdI R_law idx m' na) (hret : m'.2.2.2 = none) (hdd : d' ≤ 1000) (hna : as.length = na) (hst : st = as.reverse ++ vr kk nn :: rest) (hrest : (rest.map ct).sum ≤ 8)
    (hk : k + mc' ≤ 600000) (hs : n + ms' ≤ 7302250) (hok : (mc' = 0 ∧ ∀ v h', Q' v h' → h'.1 = h.1) ∨ ((∀ v ∈ rest, ok1 h v) ∧ ∀ v, some v ∈ ls → ok1 h v)) (kk1 : ∀ v h', Q' v h' → Wl L xs (k + mc') (n + ms') pc' ls (v.toList ++ rest) h') : Wl L xs k n pc ls st h := by
  intro p l e s mid args below meth c D tc ad0 ad H locs LS C SX hW hS hL hE
  obtain ⟨hd1, hpc⟩ := hd
  obtain ⟨⟨b1, b2, b3, b4, b5⟩, b6, b7⟩ := hc
  obtain ⟨c1, c2, c3, c4, c5, c6, c7, c8, c9⟩ := id C
  have hb1 := b1
  rw [hret] at hb1
  have hr := va_runI (p := p) (l := l) (e := e) (R := room_1) (s := s) (m := mid) (args := args) (below := below) (meth := meth) (c := c) (H := H) (locs := locs) (cells := k) (slots := n) (As := as.map (cv ad)) (rest := rest.map (cv ad)) (b := ad kk nn) (g := F0 mid pc LS (st.map (cv ad))) (index := idx) (y := m'.1) (bytes := m'.2.1) (maxL := m'.2.2.1) (ws := wsm m') (n := na)
    ⟨c1, c2, c4, c5, c6⟩ (hR l D tc ad H.size)
    ⟨callB_of (ws' := lw_g) na c6 (wsm_good b1) (by rw [wsm, hret]) rfl rfl (c6 _ b2) (c6 _ b3) b4 (rmd_law hdd b5), b7, c6 _ b6⟩
    ⟨blind_pc, fun U hU hWm => ⟨rfl, by rw [hU], by rw [hU]; exact hW.weak (fun _ _ => trivial), va_K.moved hWm.alike c8, by rw [hU]; exact ((Xs.warm hWm (c9.2.kept hS.2.1)).narrow (Af_sub hW hS)).ex hE.2.2.2⟩⟩
    rfl (by simpa using hna) hL.1 (by rw [hst]; simp [cv]) (lv_room (by rw [catsum]; exact hrest)) hd1 ⟨hk, hs⟩
  exact Wl.back hok hpc kk1 C SX hW hS hL hE hr
theorem Wl.new {idx : Nat} (kk nn : Nat) (hd : DcL pc (.new idx) 3 pc') (hc : CdN R_law idx kk) (hf : (kk, nn) ∉ h.1) (hv : (∀ v ∈ st, ok1 h v) ∧ ∀ v, some v ∈ ls → ok1 h v) (hk : k + 1 ≤ 600000) (hs : n + nf kk ≤ 7302250) (k1 : Wl L xs (k + 1) (n + nf kk) pc' ls (vr kk nn :: st) (nO h kk nn 0)) : Wl L xs k n pc ls st h := by
  intro p l e s mid args below meth c D tc ad0 ad H locs LS C SX hW hS hL hE
  obtain ⟨hd1, rfl⟩ := hd
  obtain ⟨cC, cT, cty, ⟨q1, q2, q3, q4, q5⟩, q6, q7, q8, q9⟩ := hc
  have hA : ∀ q, s.heap.size ≤ q → Af ad0 hk0 s.heap.size q := fun q z => Or.inr z
  refine va_new (D := D) (cl := vwCl) (tys := tysOf tc) (Ts := lw_g) (ci := kk) (fs := (List.range (nf kk)).map (fun j => cv ad (av (nO h kk nn 0) kk nn j))) C.1 C.2.1 C.2.2.2.2.2.1 q3 cty q4 C.2.2.2.2.1 (C.2.2.2.2.2.1 _ q6) (C.2.2.2.2.2.1 _ q7) (C.2.2.2.2.2.1 _ q8) C.2.2.2.2.2.2.2.1 hW.1 hW.2.1 hS hA q1 (fun j hj => ?_) hk hs hd1 (fun q H1 hP1 hD1 hS1 => ?_)
  · rw [q9 j hj]
    show _ = ((List.range (nf kk)).map (fun j => cv ad (av (nO h kk nn 0) kk nn j))).getD j .null
    have e9 : ((List.range (nf kk)).map (fun j => cv ad (av (nO h kk nn 0) kk nn j))).getD j .null = cv ad (av (nO h kk nn 0) kk nn j) := by simp [hj]
    rw [e9, nO_av]
  · have ew : wl tc (adN ad kk nn q) (nO h kk nn 0) = wl tc ad h ++ [(q, Sum.inr (kk, (List.range (nf kk)).map (fun j => cv ad (av (nO h kk nn 0) kk nn j))))] := by
      have e9 : (List.range (nf kk)).map (fun j => cv (adN ad kk nn q) (av (nO h kk nn 0) kk nn j)) = (List.range (nf kk)).map (fun j => cv ad (av (nO h kk nn 0) kk nn j)) := List.map_congr_left fun j _ => by rw [nO_av, nO_av]
      rw [nO_wl hW.2.2.2 hf, en_obj q2, e9]
    rw [← ew] at hP1 hD1
    have := k1 p l e s mid args below meth c D tc ad0 (adN ad kk nn q) H1 locs LS C SX ⟨hP1, hD1, nO_ok hW.2.2.1 hf, nO_cl hW.2.2.2⟩ hS1 (hL.new hf (by omega) hv.2) (nO_ex hE hf (by omega))
    rw [List.map_cons, st_new hf (by omega) hv.1] at this
    have e3 : cv (adN ad kk nn q) (vr kk nn) = .ref q := by show Value.ref (adN ad kk nn q kk nn) = _; rw [adN_self]
    rw [e3] at this
    exact this
theorem W.drop {p : Program} {l : Launch} {e : Env} {R : Room} {s : State} {mid : MethodId} {args : Array Value} {below : List Frame} {meth : Method} {c : Code} {H : Heap} {locs : List Loc} {Q : State → Prop} {g : JFrame} (hl : ∀ q ∈ locs, s.heap.size ≤ q.base) (k1 : W p l e R s mid args below meth c H [] k n Q g) : W p l e R s mid args below meth c H locs k n Q g := by
  intro T hT X
  refine k1 T hT { X with same := ?_ }
  obtain ⟨h1, h2, h3, h4, h5, h6⟩ := X.same
  refine ⟨h1, h2, h3, h4, h5, fun a c hc => ?_⟩
  obtain ⟨c', g1, g2, g3, g4⟩ := h6 a c hc
  refine ⟨c', g1, g2, g3, fun i _ => g4 i (fun hq => ?_)⟩
  have z : s.heap.size ≤ a := hl _ hq
  exact absurd (Array.getElem?_eq_some_iff.mp hc).1 (Nat.not_lt.mpr z)
theorem Wl.iret (hd : DcL pc .ireturn 1 pc') (hk : k ≤ 600000) (hs : n ≤ 7302250) : Wl L xs k n pc ls [vi 1] h := by
  intro p l e s mid args below meth c D tc ad0 ad H locs LS C SX hW hS hL hE
  obtain ⟨c1, c2, c3, c4, c5, c6, c7, c8, c9⟩ := id C
  obtain ⟨s1, s2, rfl⟩ := SX
  refine W.drop (fun q hq => Af0 (hS.2.2 q hq)) ?_
  refine W.widen hk hs ?_
  exact lw_ret c1 c2 c3 c7 hd.1
/-- a word of the script -/
theorem Wl.arg {i j p1 p2 p3 p4 p5 : Nat} {z : Int} {b0 b1 : Option AV} (hL : L ≤ 3072) (hi : i + 6 ≤ L) (hj : j < 6) (hz : Int32.ofInt z = nI j) (d1 : DcL pc (.aload_n 0) 1 p1) (d2 : DcL p1 (.iload_n 3) 1 p2) (d3 : DcL p2 (.iconst z) 1 p3) (d4 : DcL p3 .iadd 1 p4) (d5 : DcL p4 .iaload 1 p5) (k1 : Wl L xs k n p5 [some (vr 90 0), b0, b1, some (vi (nI i))] (vi (xs (i + j)) :: st) h) : Wl L xs k n pc [some (vr 90 0), b0, b1, some (vi (nI i))] st h := by
  refine Wl.aload_n d1 rfl ?_
  refine Wl.iload_n d2 rfl ?_
  refine Wl.iconst d3 hz ?_
  refine Wl.iadd d4 ?_
  rw [nI_add]
  obtain ⟨g1, g2⟩ := ck_some (ck_nI (show i + j < L by omega) (show L < 2147483648 by omega))
  refine Wl.sld d5 g1 ?_
  rw [g2]
  exact k1
end WLI
