/-! ===== entries and calls over the smaller machine ===== -/
theorem blind_pc {D : va_G} {tc : Nat → ClassId} {ad : Nat → Nat → Nat} {h : AH} {sz : Nat} {as : List Value} : FrameBlind (va_Pc as (fun U => U.heap.size = sz ∧ Wd D tc ad h U.heap (fun _ => True) ∧ va_K D vwCl (tysOf tc) U ∧ Xs ad (Af ad h sz) U U.heap)) :=
  fun a U g mk q => by
    obtain ⟨q0, q1, q2, q3, q4⟩ := q
    exact ⟨q0, q1, q2, va_K.moved (u := U) (U := U.calling g mk a) (Vm.Alike.refl U.vm) q3, Xs.vm (u := U) (U := U.calling g mk a) rfl q4⟩
theorem Wd.weak {D : va_G} {tc : Nat → ClassId} {ad : Nat → Nat → Nat} {h : AH} {H : Heap} {A B : Nat → Prop} (hW : Wd D tc ad h H A) (hAB : ∀ q, A q → B q) : Wd D tc ad h H B := ⟨hW.1, hW.2.1.weaken (fun _ q _ z => hAB q.1 z), hW.2.2⟩
theorem Wd.self {D : va_G} {tc : Nat → ClassId} {ad : Nat → Nat → Nat} {h : AH} {H : Heap} {A : Nat → Prop} (hW : Wd D tc ad h H A) (sz : Nat) : Wd D tc ad h H (Af ad h sz) := by
  refine ⟨hW.1, ⟨hW.2.1.1, fun i q hi => ?_⟩, hW.2.2⟩
  obtain ⟨x, h1, h2⟩ := wl_mem (q := q.1) (e := q.2) ⟨i, hi⟩
  exact Or.inl ⟨x, h1, h2⟩
theorem Runs.of {d mc ms : Nat} {m : MI} {as : List AV} {h : AH} {Q : Option AV → AH → Prop} (hpn : plainName m.1.cls = true) (hl : (lcs as).length ≤ m.2.2.1) (body : Wp d mc ms m Q 0 0 0 (lce m.2.2.1 as) [] h) : Runs d mc ms m as h Q := by
  intro l D tc ad sz
  refine Met.ofW (cc := m.2.1) (maxL := m.2.2.1) (ret := m.2.2.2) hpn rfl ?_
  intro p e s mid args below meth c s₁ B hml hv
  obtain ⟨rfl, hsz, hW, hK, hXs⟩ := hv
  have hts := atoms_spec (ws := wsm m) B.pre
  have hown : s.vm.findClass m.1.cls = some mid.cls := findClass_of_methodNamed B.named
  have hin : meth.name = m.1.name := (name_of_methodNamed B.named B.method).1
  subst hsz
  rw [lg_entry_eq]
  exact body p l e s mid _ below meth c D tc ad ad h s.heap [] _ ⟨B.exec, B.bytes, B.returns, hml, hown, fun w hw => hts w (List.mem_cons_of_mem _ hw), B.notSynchronized, hK, hin, hXs⟩ (hW.self _) va_S.rf (lce_has ad as hl) (Ex.rf ad h)
theorem Runs.mono {d d' mc ms : Nat} {m : MI} {as : List AV} {h : AH} {Q Q' : Option AV → AH → Prop} (hR : Runs d mc ms m as h Q) (hd : d = d') (hQ : ∀ v h', Q v h' → Q' v h') : Runs d' mc ms m as h Q' := by
  subst hd
  intro l D tc ad sz p e ha hc hk s mid args below hf happ hpre hx
  obtain ⟨k, o, h1, h2, h3, ⟨⟨v, h', ad', g1, g2, g3, g4⟩, g5⟩, g6⟩ := hR l D tc ad sz p e ha hc hk s mid args below hf happ hpre hx
  exact ⟨k, o, h1, h2, h3, ⟨⟨v, h', ad', g1, hQ _ _ g2, g3, g4⟩, g5⟩, g6⟩
/-- what the tables say of a call: the callee, how many values it takes beside the receiver -/
def CdB (own : String) (idx : Nat) (m' : MI) (na : Nat) : Prop := Cond.code m'.1 m'.2.1 m'.2.2.1 m'.2.2.2 ∈ lw_g ∧ Cond.initialized m'.1.cls ∈ lw_g ∧ Cond.methodLink own idx m'.1 ∈ lw_g ∧ (m'.1.cls ≠ "java/lang/invoke/MethodHandle" ∧ m'.1.cls ≠ "java/lang/invoke/VarHandle" ∧ (parseMethodDescriptor m'.1.desc).map (fun d => d.parameters.length) = some na) ∧ m'.2.2.1 ≤ 40
def CdV (own : String) (idx : Nat) (m' : MI) (na kk : Nat) : Prop := CdB own idx m' na ∧ Cond.instanceMethod m'.1 ∈ lw_g ∧ Cond.selects m'.1.cls m'.1 m'.1 ∈ lw_g ∧ ∃ (T : u_T) (N : Nat), vwCl[kk]? = some (m'.1.cls, T, N) ∧ kk < 12
def CdS (own : String) (idx : Nat) (m' : MI) (na : Nat) : Prop := CdB own idx m' na ∧ Cond.static m'.1 ∈ lw_g
def CdI (own : String) (idx : Nat) (m' : MI) (na : Nat) : Prop := CdB own idx m' na ∧ Cond.instanceMethod m'.1 ∈ lw_g ∧ m'.1.name = "<init>"
def ok1 (h : AH) : AV → Prop
  | .inr (.inr (.inl q)) => q ∈ h.1 ∨ 90 ≤ q.1
  | _ => True
theorem cv_agree {ad ad' : Nat → Nat → Nat} {h h' : AH} (hE : Ex ad h ad' h') {v : AV} (hv : ok1 h v) : cv ad' v = cv ad v := by
  rcases v with x | x | ⟨a, b⟩ | x
  · rfl
  · rfl
  · show Value.ref (ad' a b) = Value.ref (ad a b)
    rcases hv with z | z
    · rw [hE.2.1 (a, b) z]
    · rw [hE.2.2.2 a b z]
  · rfl
section WPC
variable {d mc ms : Nat} {m : MI} {Q : Option AV → AH → Prop} {k n pc pc' : Nat} {ls : List (Option AV)} {st : List AV} {h : AH}
theorem wsm_good {m' : MI} (hc : Cond.code m'.1 m'.2.1 m'.2.2.1 m'.2.2.2 ∈ lw_g) : GoodIn lw_g (wsm m') := by
  intro w hw
  rcases List.mem_cons.mp hw with rfl | hw
  · exact lw_g_good _ hc
  · exact lw_g_good _ hw
theorem catsum (ad : Nat → Nat → Nat) (st : List AV) : ((st.map (cv ad)).map fun v => v.category).sum = (st.map ct).sum := by
  congr 1
  rw [List.map_map]
  exact List.map_congr_left (fun v _ => cv_cat ad v)
theorem Af_sub {D : va_G} {tc : Nat → ClassId} {ad0 ad : Nat → Nat → Nat} {h0 h : AH} {s : State} {H : Heap} {locs : List Loc} (hW : Wd D tc ad h H (Af ad0 h0 s.heap.size)) (hS : va_S (Af ad0 h0 s.heap.size) s.heap H locs) : ∀ q, Af ad h H.size q → Af ad0 h0 s.heap.size q := by
  rintro q (⟨x, h1, rfl⟩ | h1)
  · exact hW.in h1
  · exact Or.inr (Nat.le_trans hS.1 h1)
/-- behind a call -/
theorem Wp.back {mc' ms' : Nat} {Q' : Option AV → AH → Prop} {g : List AV} {rest : List AV}
    (hk : k + mc' ≤ mc) (hs : n + ms' ≤ ms) (hok : (mc' = 0 ∧ ∀ v h', Q' v h' → h'.1 = h.1) ∨ ((∀ v ∈ rest, ok1 h v) ∧ ∀ v, some v ∈ ls → ok1 h v)) (hpc : pc + 3 = pc')
    (kk : ∀ v h', Q' v h' → Wp d mc ms m Q (k + mc') (n + ms') pc' ls (v.toList ++ rest) h')
    {p : Program} {l : Launch} {e : Env} {s : State} {mid : MethodId} {args : Array Value} {below : List Frame} {meth : Method} {c : Code} {D : va_G} {tc : Nat → ClassId} {ad0 ad : Nat → Nat → Nat} {h0 : AH} {H : Heap} {locs : List Loc} {LS : Array Slot}
    (C : Cx D tc m p s mid args meth c ad0 (Af ad0 h0 s.heap.size)) (hW : Wd D tc ad h H (Af ad0 h0 s.heap.size)) (hS : va_S (Af ad0 h0 s.heap.size) s.heap H locs) (hL : Lc ad m.2.2.1 ls LS) (hE : Ex ad0 h0 ad h)
    {a : Array Value} (hr : va_Run p l e (rmd d mc ms) s mid args below meth c H locs k n mc' ms' (F0 mid pc LS (g.map (cv ad))) (rest.map (cv ad)) (Pq D tc (Af ad h H.size) ad h Q' a) (Af ad h H.size)) :
    W p l e (rmd d mc ms) s mid args below meth c H locs k n (MQ below (Pq D tc (Af ad0 h0 s.heap.size) ad0 h0 Q) args s mc ms (Af ad0 h0 s.heap.size)) (F0 mid pc LS (g.map (cv ad))) := by
  subst hpc
  intro T hT X
  obtain ⟨v, st₀, t, T', L, e0, X', hL', e1, e2, ⟨⟨v1, h1, ad1, hv, hq, hW1, hE1⟩, hF⟩, stp⟩ := hr T hT X
  have hv' : v = v1.map (cv ad1) := by injection hv
  subst hv'
  have hsub := Af_sub hW hS
  have hE2 : Ex ad0 h0 ad1 h1 := hE.tr hE1
  have hWn : Wd D tc ad1 h1 T'.heap (Af ad0 h0 s.heap.size) := by rw [e1]; exact hW1.weak hsub
  have hSn : va_S (Af ad0 h0 s.heap.size) s.heap T'.heap (locs ++ L) := by
    rw [e1]
    obtain ⟨f1, f2⟩ := hF
    rw [e0] at f1 f2
    refine ⟨Nat.le_trans hS.1 f1, fun q hq1 hq2 => ?_, fun z hz => ?_⟩
    · rw [f2 q (Nat.lt_of_lt_of_le hq1 hS.1) (fun z => hq2 (hsub q z)), hS.2.1 q hq1 hq2]
    · rcases List.mem_append.mp hz with z1 | z1
      · exact hS.2.2 z z1
      · exact hsub _ (hL' z z1)
  have agree : (∀ v ∈ rest, cv ad1 v = cv ad v) ∧ ∀ v, some v ∈ ls → cv ad1 v = cv ad v := by
    rcases hok with ⟨-, z⟩ | ⟨z1, z2⟩
    · have : ad1 = ad := hE1.2.2.1 (z _ _ hq)
      subst this
      exact ⟨fun _ _ => rfl, fun _ _ => rfl⟩
    · exact ⟨fun v hv => cv_agree hE1 (z1 v hv), fun v hv => cv_agree hE1 (z2 v hv)⟩
  have hLn : Lc ad1 m.2.2.1 ls LS := ⟨hL.1, hL.2.1, hL.2.2.1, fun i v hi => by rw [agree.2 v (List.mem_of_getElem? hi)]; exact hL.2.2.2 i v hi⟩
  obtain ⟨t2, a1, b1⟩ := kk v1 h1 hq p l e s mid args below meth c D tc ad0 ad1 h0 T'.heap (locs ++ L) LS C hWn hSn hLn hE2 T' rfl X'
  refine ⟨t2, stp t2 ?_, b1⟩
  have er : rest.map (cv ad) = rest.map (cv ad1) := List.map_congr_left (fun v hv => (agree.1 v hv).symm)
  have es : (v1.map (cv ad1)).toList ++ rest.map (cv ad) = (v1.toList ++ rest).map (cv ad1) := by
    rw [er, List.map_append]
    cases v1 <;> rfl
  show Steps p.tables e below (T'.setTop (F0 mid (pc + 3) LS ((v1.map (cv ad1)).toList ++ rest.map (cv ad)))) t2
  rw [es]
  exact a1
theorem rmd_call {d d' mc mc' ms ms' maxL : Nat} (hd : d' + 1 ≤ d) (hm : maxL ≤ 40) : (rmd d' mc' ms').frames + 1 ≤ (rmd d mc ms).frames ∧ 8 + (maxL + 11) + (rmd d' mc' ms').locals ≤ (rmd d mc ms).locals := by
  refine ⟨hd, ?_⟩
  show 8 + (maxL + 11) + 64 * d' ≤ 64 * d
  omega
theorem Wp.callV {d' mc' ms' idx kk nn na : Nat} {as : List AV} {m' : MI} {Q' : Option AV → AH → Prop} {rest : List AV} (hR : Runs d' mc' ms' m' (vr kk nn :: as) h Q') (hd : Dc m pc (.invokevirtual idx) 3 pc') (hc : CdV m.1.cls idx m' na kk) (hm : (kk, nn) ∈ h.1) (hdd : d' + 1 ≤ d) (hna : as.length = na) (hst : st = as.reverse ++ vr kk nn :: rest) (hrest : (rest.map ct).sum ≤ 8)
    (hk : k + mc' ≤ mc) (hs : n + ms' ≤ ms) (hok : (mc' = 0 ∧ ∀ v h', Q' v h' → h'.1 = h.1) ∨ ((∀ v ∈ rest, ok1 h v) ∧ ∀ v, some v ∈ ls → ok1 h v)) (kk1 : ∀ v h', Q' v h' → Wp d mc ms m Q (k + mc') (n + ms') pc' ls (v.toList ++ rest) h') : Wp d mc ms m Q k n pc ls st h := by
  intro p l e s mid args below meth c D tc ad0 ad h0 H locs LS C hW hS hL hE
  obtain ⟨hd1, hpc⟩ := hd
  obtain ⟨⟨b1, b2, b3, b4, b5⟩, b6, b7, cT, cN, b8, b9⟩ := hc
  obtain ⟨c1, c2, c3, c4, c5, c6, c7, c8, c9⟩ := id C
  obtain ⟨q0, w1, w2⟩ := wl_at (tc := tc) (ad := ad) hm
  have hr := va_runV (p := p) (l := l) (e := e) (R := rmd d mc ms) (s := s) (m := mid) (args := args) (below := below) (meth := meth) (c := c) (H := H) (locs := locs) (cells := k) (slots := n) (As := as.map (cv ad)) (rest := rest.map (cv ad)) (b := ad kk nn) (g := F0 mid pc LS (st.map (cv ad))) (index := idx) (C := m'.1.cls) (y := m'.1) (bytes := m'.2.1) (maxL := m'.2.2.1) (ret := m'.2.2.2) (ws := wsm m') (n := na)
    ⟨c1, c2, c4, c5, c6⟩ (hR l D tc ad H.size)
    ⟨callB_of (ws' := lw_g) na c6 (wsm_good b1) rfl rfl rfl (c6 _ b2) (c6 _ b3) b4 (rmd_call hdd b5), c6 _ b6, c6 _ b7⟩
    ⟨blind_pc, va_recv c8 hW.1 b8 (by rw [en_obj b9] at w1; exact w1), fun U hU hWm => ⟨rfl, by rw [hU], by rw [hU]; exact hW.weak (fun _ _ => trivial), va_K.moved hWm.alike c8, by rw [hU]; exact ((Xs.warm hWm (c9.2.kept hS.2.1)).narrow (Af_sub hW hS)).ex hE.2.2.2⟩⟩
    rfl (by simpa using hna) hL.1 (by rw [hst]; simp [cv]) (lv_room (by rw [catsum]; exact hrest)) hd1 ⟨hk, hs⟩
  exact Wp.back hk hs hok hpc kk1 C hW hS hL hE hr
theorem Wp.callS {d' mc' ms' idx na : Nat} {as : List AV} {m' : MI} {Q' : Option AV → AH → Prop} {rest : List AV} (hR : Runs d' mc' ms' m' as h Q') (hd : Dc m pc (.invokestatic idx) 3 pc') (hc : CdS m.1.cls idx m' na) (hdd : d' + 1 ≤ d) (hna : as.length = na) (hst : st = as.reverse ++ rest) (hrest : (rest.map ct).sum ≤ 8)
    (hk : k + mc' ≤ mc) (hs : n + ms' ≤ ms) (hok : (mc' = 0 ∧ ∀ v h', Q' v h' → h'.1 = h.1) ∨ ((∀ v ∈ rest, ok1 h v) ∧ ∀ v, some v ∈ ls → ok1 h v)) (kk1 : ∀ v h', Q' v h' → Wp d mc ms m Q (k + mc') (n + ms') pc' ls (v.toList ++ rest) h') : Wp d mc ms m Q k n pc ls st h := by
  intro p l e s mid args below meth c D tc ad0 ad h0 H locs LS C hW hS hL hE
  obtain ⟨hd1, hpc⟩ := hd
  obtain ⟨⟨b1, b2, b3, b4, b5⟩, b6⟩ := hc
  obtain ⟨c1, c2, c3, c4, c5, c6, c7, c8, c9⟩ := id C
  have hr := va_runS (p := p) (l := l) (e := e) (R := rmd d mc ms) (s := s) (m := mid) (args := args) (below := below) (meth := meth) (c := c) (H := H) (locs := locs) (cells := k) (slots := n) (As := as.map (cv ad)) (rest := rest.map (cv ad)) (g := F0 mid pc LS (st.map (cv ad))) (index := idx) (y := m'.1) (bytes := m'.2.1) (maxL := m'.2.2.1) (ret := m'.2.2.2) (ws := wsm m') (n := na)
    ⟨c1, c2, c4, c5, c6⟩ (hR l D tc ad H.size)
    ⟨callB_of (ws' := lw_g) na c6 (wsm_good b1) rfl rfl rfl (c6 _ b2) (c6 _ b3) b4 (rmd_call hdd b5), c6 _ b6⟩
    ⟨blind_pc, fun U hU hWm => ⟨rfl, by rw [hU], by rw [hU]; exact hW.weak (fun _ _ => trivial), va_K.moved hWm.alike c8, by rw [hU]; exact ((Xs.warm hWm (c9.2.kept hS.2.1)).narrow (Af_sub hW hS)).ex hE.2.2.2⟩⟩
    rfl (by simpa using hna) hL.1 (by rw [hst]; simp) (lv_room (by rw [catsum]; exact hrest)) hd1 ⟨hk, hs⟩
  exact Wp.back hk hs hok hpc kk1 C hW hS hL hE hr
theorem Wp.callI {d' mc' ms' idx kk nn na : Nat} {as : List AV} {m' : MI} {Q' : Option AV → AH → Prop} {rest : List AV} (hR : Runs d' mc' ms' m' (vr kk nn :: as) h Q') (hd : Dc m pc (.invokespecial idx) 3 pc') (hc : CdI m.1.cls idx m' na) (hret : m'.2.2.2 = none) (hdd : d' + 1 ≤ d) (hna : as.length = na) (hst : st = as.reverse ++ vr kk nn :: rest) (hrest : (rest.map ct).sum ≤ 8)
    (hk : k + mc' ≤ mc) (hs : n + ms' ≤ ms) (hok : (mc' = 0 ∧ ∀ v h', Q' v h' → h'.1 = h.1) ∨ ((∀ v ∈ rest, ok1 h v) ∧ ∀ v, some v ∈ ls → ok1 h v)) (kk1 : ∀ v h', Q' v h' → Wp d mc ms m Q (k + mc') (n + ms') pc' ls (v.toList ++ rest) h') : Wp d mc ms m Q k n pc ls st h := by
  intro p l e s mid args below meth c D tc ad0 ad h0 H locs LS C hW hS hL hE
  obtain ⟨hd1, hpc⟩ := hd
  obtain ⟨⟨b1, b2, b3, b4, b5⟩, b6, b7⟩ := hc
  obtain ⟨c1, c2, c3, c4, c5, c6, c7, c8, c9⟩ := id C
  have hb1 := b1
  rw [hret] at hb1
  have hr := va_runI (p := p) (l := l) (e := e) (R := rmd d mc ms) (s := s) (m := mid) (args := args) (below := below) (meth := meth) (c := c) (H := H) (locs := locs) (cells := k) (slots := n) (As := as.map (cv ad)) (rest := rest.map (cv ad)) (b := ad kk nn) (g := F0 mid pc LS (st.map (cv ad))) (index := idx) (y := m'.1) (bytes := m'.2.1) (maxL := m'.2.2.1) (ws := wsm m') (n := na)
    ⟨c1, c2, c4, c5, c6⟩ (hR l D tc ad H.size)
    ⟨callB_of (ws' := lw_g) na c6 (wsm_good b1) (by rw [wsm, hret]) rfl rfl (c6 _ b2) (c6 _ b3) b4 (rmd_call hdd b5), b7, c6 _ b6⟩
    ⟨blind_pc, fun U hU hWm => ⟨rfl, by rw [hU], by rw [hU]; exact hW.weak (fun _ _ => trivial), va_K.moved hWm.alike c8, by rw [hU]; exact ((Xs.warm hWm (c9.2.kept hS.2.1)).narrow (Af_sub hW hS)).ex hE.2.2.2⟩⟩
    rfl (by simpa using hna) hL.1 (by rw [hst]; simp [cv]) (lv_room (by rw [catsum]; exact hrest)) hd1 ⟨hk, hs⟩
  exact Wp.back hk hs hok hpc kk1 C hW hS hL hE hr
end WPC
