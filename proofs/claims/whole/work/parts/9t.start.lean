/-! ===== the law: its start (by program: wip/whole/start.py) ===== -/
theorem iz_0 : Cond.instantiable RX0 14 ∈ lw_g := tb1 122 (by decide +kernel) rfl
theorem iz_1 : Cond.instantiable RX1 1 ∈ lw_g := tb1 94 (by decide +kernel) rfl
theorem iz_2 : Cond.instantiable RX2 5 ∈ lw_g := tb2 14 (by decide +kernel) rfl
theorem iz_3 : Cond.instantiable RX4 3 ∈ lw_g := tb1 35 (by decide +kernel) rfl
theorem iz_4 : Cond.instantiable RX5 9 ∈ lw_g := tb1 60 (by decide +kernel) rfl
theorem iz_5 : Cond.instantiable RX6 2 ∈ lw_g := tb1 29 (by decide +kernel) rfl
theorem iz_6 : Cond.instantiable RX7 12 ∈ lw_g := tb1 197 (by decide +kernel) rfl
theorem iz_7 : Cond.instantiable RX8 1 ∈ lw_g := tb2 2 (by decide +kernel) rfl
theorem iz_8 : Cond.instantiable RX9 4 ∈ lw_g := tb1 128 (by decide +kernel) rfl
theorem iz_9 : Cond.instantiable RX10 3 ∈ lw_g := tb1 104 (by decide +kernel) rfl
theorem iz_10 : Cond.instantiable RX11 14 ∈ lw_g := tb1 21 (by decide +kernel) rfl
theorem iz_11 : Cond.instantiable RX12 50 ∈ lw_g := tb6 206 (by decide +kernel) rfl
theorem known_0 {args : Array Value} {s : State} (c6 : ∀ w ∈ lw_g, w.before args s = true) : ∃ D : va_G, ∀ (c : Nat) (q : vw_C), vwCl[c]? = some q → u_Kn s q.1 q.2.1 q.2.2 (D.1 c) (D.2 c) := by
  obtain ⟨a0, b0, h0⟩ := u_known c6 uw_0 (c6 _ iz_0)
  obtain ⟨a1, b1, h1⟩ := u_known c6 uw_1 (c6 _ iz_1)
  obtain ⟨a2, b2, h2⟩ := u_known c6 uw_2 (c6 _ iz_2)
  obtain ⟨a3, b3, h3⟩ := u_known c6 uw_3 (c6 _ iz_3)
  obtain ⟨a4, b4, h4⟩ := u_known c6 uw_4 (c6 _ iz_4)
  obtain ⟨a5, b5, h5⟩ := u_known c6 uw_5 (c6 _ iz_5)
  obtain ⟨a6, b6, h6⟩ := u_known c6 uw_6 (c6 _ iz_6)
  obtain ⟨a7, b7, h7⟩ := u_known c6 uw_7 (c6 _ iz_7)
  obtain ⟨a8, b8, h8⟩ := u_known c6 uw_8 (c6 _ iz_8)
  obtain ⟨a9, b9, h9⟩ := u_known c6 uw_9 (c6 _ iz_9)
  obtain ⟨a10, b10, h10⟩ := u_known c6 uw_10 (c6 _ iz_10)
  obtain ⟨a11, b11, h11⟩ := u_known c6 uw_11 (c6 _ iz_11)
  refine ⟨(fun c => [a0, a1, a2, a3, a4, a5, a6, a7, a8, a9, a10, a11].getD c a0, fun c => [b0, b1, b2, b3, b4, b5, b6, b7, b8, b9, b10, b11].getD c b0), fun c q hq => ?_⟩
  have hc : c < 12 := (List.getElem?_eq_some_iff.mp hq).1
  have hcc : c = 0 ∨ c = 1 ∨ c = 2 ∨ c = 3 ∨ c = 4 ∨ c = 5 ∨ c = 6 ∨ c = 7 ∨ c = 8 ∨ c = 9 ∨ c = 10 ∨ c = 11 := by omega
  rcases hcc with rfl | rfl | rfl | rfl | rfl | rfl | rfl | rfl | rfl | rfl | rfl | rfl
  · cases hq; exact h0
  · cases hq; exact h1
  · cases hq; exact h2
  · cases hq; exact h3
  · cases hq; exact h4
  · cases hq; exact h5
  · cases hq; exact h6
  · cases hq; exact h7
  · cases hq; exact h8
  · cases hq; exact h9
  · cases hq; exact h10
  · cases hq; exact h11
theorem arr_0 {args : Array Value} {s : State} (c6 : ∀ w ∈ lw_g, w.before args s = true) (ho : (Cond.arrayOver (.object RX0)).before args s = true) : ∃ tc : Nat → ClassId, ∀ (k : Nat) (q : ClassId × FieldType), (tysOf tc)[k]? = some q → ArrOfT s q.1 q.2 ∧ va_RA s q.1 q.2 := by
  obtain ⟨cB, kB, pB, fB, gB, eB⟩ := Cond.arrayClass_spec (c6 _ aw_b)
  obtain ⟨cI, kI, pI, fI, gI, eI⟩ := Cond.arrayClass_spec (c6 _ aw_i)
  obtain ⟨cL, kL, pL, fL, gL, eL⟩ := Cond.arrayClass_spec (c6 _ aw_l)
  obtain ⟨pQ, cQ, kQ, f1, f2, f3, f4, f5⟩ := Cond.arrayOver_spec ho
  refine ⟨fun k => if k = 12 then cB else if k = 13 then cI else if k = 14 then cL else cQ, fun k q hq => ?_⟩
  have hk : k < 4 := (List.getElem?_eq_some_iff.mp hq).1
  have hkk : k = 0 ∨ k = 1 ∨ k = 2 ∨ k = 3 := by omega
  rcases hkk with rfl | rfl | rfl | rfl
  · cases hq
    exact ⟨fun n z => ⟨fun k h => (by cases h), kB, gB, pB, eB⟩, fB⟩
  · cases hq
    exact ⟨fun n z => ⟨fun k h => (by cases h), kI, gI, pI, eI⟩, fI⟩
  · cases hq
    exact ⟨fun n z => ⟨fun k h => (by cases h), kL, gL, pL, eL⟩, fL⟩
  · cases hq
    exact ⟨fun n z => ⟨fun k h => (by cases h), kQ, f3, pQ, f4⟩, kQ, pQ, f3, f4, f1, f5⟩
abbrev tSt : Term := .string RX5 86
abbrev tVl : Term := .field tSt "java/lang/String" "value" "[B"
theorem gv_j : ∀ j, j < 128 → Cond.eq (.elem tVl (.int (Int32.ofNat j))) (.int (WBY.getD j 0)) ∈ flatC (Cond.and given_1 narrow_1) := by decide +kernel
theorem gv_x : Cond.exactly tSt "java/lang/String" ∈ flatC (Cond.and given_1 narrow_1) := by decide +kernel
theorem gv_c : Cond.eq (.field tSt "java/lang/String" "coder" "B") (.int 0) ∈ flatC (Cond.and given_1 narrow_1) := by decide +kernel
theorem gv_a : Cond.arrayOf tVl .byte ∈ flatC (Cond.and given_1 narrow_1) := by decide +kernel
theorem gv_l : Cond.eq (.length tVl) (.int (Int32.ofNat 128)) ∈ flatC (Cond.and given_1 narrow_1) := by decide +kernel
theorem gv_s : Cond.eq (.static "java/lang/String" "COMPACT_STRINGS" "Z") (.int 1) ∈ flatC (Cond.and given_1 narrow_1) := by decide +kernel
theorem gv_p : Cond.isRef (.static PRE "SIOOBE_FORMATTER" "Ljava/util/function/BiFunction;") ∈ flatC (Cond.and given_1 narrow_1) := by decide +kernel
theorem wd_s : Cond.stringRef RX5 86 WTX ∈ lw_tbl := List.mem_append_right _ (List.mem_of_getElem? (i := 461) (by decide +kernel))
theorem wd_o : Cond.arrayOver (.object RX0) ∈ lw_tbl := List.mem_append_right _ (List.mem_of_getElem? (i := 195) (by decide +kernel))
theorem wd_c : Cond.laysStatic "java/lang/String" "COMPACT_STRINGS" "Z" ∈ lw_tbl := List.mem_append_right _ (List.mem_of_getElem? (i := 471) (by decide +kernel))
theorem wd_p : Cond.laysStatic PRE "SIOOBE_FORMATTER" "Ljava/util/function/BiFunction;" ∈ lw_tbl := List.mem_append_right _ (List.mem_of_getElem? (i := 487) (by decide +kernel))
theorem wd_n : ∀ q ∈ nestL, Cond.methodLinkNest q.1 q.2.1 q.2.2.1 q.2.2.2 ∈ tables_1 := by decide +kernel
set_option maxHeartbeats 4000000 in
theorem whole_start {p : Program} {e : Env} {s : State} {m : MethodId} {below : List Frame} {meth : Method} {c : Code} (l : Launch) (hflags : l.flags = flags0) {b L : Nat} {xs : Nat → Int32} (hL : L ≤ 3072) (C0 : lw_At p s m meth c b L xs) : W p l e room_1 s m #[Value.ref b] below meth c s.heap [] 0 0 (lw_Z below #[Value.ref b] s) (entryFrame m ([Value.ref b] : List Value).toArray 4) := by
  obtain ⟨c1, c2, c3, c4, c5, hts, hX, hb, hlk, hg⟩ := C0
  have c6 : ∀ w ∈ lw_g, w.before #[Value.ref b] s = true := fun w hw => hts w (List.mem_filter.mp hw).1
  have hs := flat_of_before _ hg
  obtain ⟨D, hD⟩ := known_0 c6
  obtain ⟨tc, htc⟩ := arr_0 c6 (hts _ wd_o)
  have hA : ∀ a : Nat, a < s.heap.size → ¬ s.heap.size ≤ a := fun a h => Nat.not_le.mpr h
  obtain ⟨adK, adV, hS1, hS2⟩ := vk_Sof (args := #[Value.ref b]) (s := s) (N := 1) (tm := fun _ => tSt) (len := [128]) (byt := [WBY]) (A := fun q => s.heap.size ≤ q)
    (fun i hi => (by rw [show i = 0 by omega]; decide)) (fun _ _ => hs _ gv_x) (fun _ _ => hs _ gv_c) (fun _ _ => hs _ gv_a)
    (fun i hi => (by rw [show i = 0 by omega]; exact hs _ gv_l)) (fun i hi => (by rw [show i = 0 by omega]; exact fun j hj => hs _ (gv_j j hj)))
    (fun i j hi hj hne => absurd (show i = j by omega) hne) hA
  have hZ1 := va_Zof (args := #[Value.ref b]) (A := fun q => s.heap.size ≤ q) (hts _ wd_c) (c6 _ iw_J0) (va_eqt (hs _ gv_s)) hA
  have hZ2 := va_Zqof (args := #[Value.ref b]) (A := fun q => s.heap.size ≤ q) (hts _ wd_p) (c6 _ iw_J3) (hs _ gv_p) hA
  have hfo : ∃ fo : Nat, va_Z PRE "SIOOBE_FORMATTER" "Ljava/util/function/BiFunction;" .null (fun q => s.heap.size ≤ q) s s.heap ∨ va_Z PRE "SIOOBE_FORMATTER" "Ljava/util/function/BiFunction;" (.ref fo) (fun q => s.heap.size ≤ q) s s.heap := by
    rcases hZ2 with z | ⟨t, z⟩
    · exact ⟨0, Or.inl z⟩
    · exact ⟨t, Or.inr z⟩
  obtain ⟨fo, hfo⟩ := hfo
  obtain ⟨ad0, hd⟩ : ∃ ad0 : Nat → Nat → Nat, ad0 90 0 = b ∧ ad0 95 0 = adK 0 ∧ ad0 95 1 = adV 0 ∧ ad0 95 2 = fo :=
    ⟨fun k n => if k = 90 then b else if n = 0 then adK 0 else if n = 1 then adV 0 else fo, rfl, rfl, rfl, rfl⟩
  obtain ⟨d1, d2, d3, d4⟩ := hd
  have hXs : Xs ad0 (fun q => s.heap.size ≤ q) s s.heap := by
    unfold Xs
    rw [d2, d3, d4]
    refine ⟨va_AO.of (hts _ wd_o), fun q hq => va_Nw.of rfl (hts _ (List.mem_append_right _ (wd_n q hq))), vk_R.of (hts _ wd_s) (hS2 0 (by decide)), ⟨fun i hi => ?_, fun i j hi hj _ => by omega⟩, hZ1, hfo⟩
    have h := hS1.1 i hi
    rw [show i = 0 by omega] at h
    rw [show i = 0 by omega]
    exact h
  rw [lg_entry_eq]
  have hLc := lce_has ad0 [vr 90 0] (n := 4) (by decide)
  have e0 : [vr 90 0].map (cv ad0) = [Value.ref b] := by
    show [Value.ref (ad0 90 0)] = _
    rw [d1]
  rw [e0] at hLc
  exact law_all hL p l e s m #[Value.ref b] below meth c D tc ad0 ad0 s.heap [] _ ⟨c1, c2, c3, c4, c5, c6, hlk, ⟨hD, htc⟩, rfl, hXs.narrow (fun q z => Af0 z)⟩ ⟨by rw [d1]; exact hX, by rw [d1]; exact hb, by rw [d1]⟩
    ⟨fun k q h => (by cases h), ⟨fun i j p q h => (by cases h), fun k q h => (by cases h)⟩, List.nodup_nil, fun q h => absurd h List.not_mem_nil⟩ va_S.rf hLc (Ex.rf ad0 hk0)
