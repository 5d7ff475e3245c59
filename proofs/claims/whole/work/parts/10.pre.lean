/-! constants, switches, what may be null (by program: wip/whole/gen.py) -/
theorem bp_6 : (Int8.ofInt (6)).toInt32 = 6 := by decide
theorem bp_7 : (Int8.ofInt (7)).toInt32 = 7 := by decide
theorem bp_8 : (Int8.ofInt (8)).toInt32 = 8 := by decide
theorem bp_9 : (Int8.ofInt (9)).toInt32 = 9 := by decide
theorem bp_10 : (Int8.ofInt (10)).toInt32 = 10 := by decide
theorem bp_11 : (Int8.ofInt (11)).toInt32 = 11 := by decide
theorem bp_12 : (Int8.ofInt (12)).toInt32 = 12 := by decide
theorem bp_13 : (Int8.ofInt (13)).toInt32 = 13 := by decide
theorem bp_14 : (Int8.ofInt (14)).toInt32 = 14 := by decide
theorem bp_15 : (Int8.ofInt (15)).toInt32 = 15 := by decide
theorem bp_16 : (Int8.ofInt (16)).toInt32 = 16 := by decide
theorem bp_17 : (Int8.ofInt (17)).toInt32 = 17 := by decide
theorem bp_18 : (Int8.ofInt (18)).toInt32 = 18 := by decide
theorem bp_19 : (Int8.ofInt (19)).toInt32 = 19 := by decide
theorem bp_20 : (Int8.ofInt (20)).toInt32 = 20 := by decide
theorem bp_21 : (Int8.ofInt (21)).toInt32 = 21 := by decide
theorem bp_22 : (Int8.ofInt (22)).toInt32 = 22 := by decide
theorem bp_23 : (Int8.ofInt (23)).toInt32 = 23 := by decide
theorem bp_24 : (Int8.ofInt (24)).toInt32 = 24 := by decide
theorem bp_30 : (Int8.ofInt (30)).toInt32 = 30 := by decide
theorem bp_32 : (Int8.ofInt (32)).toInt32 = 32 := by decide
theorem bp_40 : (Int8.ofInt (40)).toInt32 = 40 := by decide
theorem bp_44 : (Int8.ofInt (44)).toInt32 = 44 := by decide
theorem bp_48 : (Int8.ofInt (48)).toInt32 = 48 := by decide
theorem bp_52 : (Int8.ofInt (52)).toInt32 = 52 := by decide
theorem bp_56 : (Int8.ofInt (56)).toInt32 = 56 := by decide
theorem bp_57 : (Int8.ofInt (57)).toInt32 = 57 := by decide
theorem bp_59 : (Int8.ofInt (59)).toInt32 = 59 := by decide
theorem bp_60 : (Int8.ofInt (60)).toInt32 = 60 := by decide
theorem bp_61 : (Int8.ofInt (61)).toInt32 = 61 := by decide
theorem bp_62 : (Int8.ofInt (62)).toInt32 = 62 := by decide
theorem bp_63 : (Int8.ofInt (63)).toInt32 = 63 := by decide
theorem bp_84 : (Int8.ofInt (84)).toInt32 = 84 := by decide
theorem bp_97 : (Int8.ofInt (97)).toInt32 = 97 := by decide
theorem bp_99 : (Int8.ofInt (99)).toInt32 = 99 := by decide
theorem bp_100 : (Int8.ofInt (100)).toInt32 = 100 := by decide
theorem bp_101 : (Int8.ofInt (101)).toInt32 = 101 := by decide
theorem bp_102 : (Int8.ofInt (102)).toInt32 = 102 := by decide
theorem bp_103 : (Int8.ofInt (103)).toInt32 = 103 := by decide
theorem bp_104 : (Int8.ofInt (104)).toInt32 = 104 := by decide
theorem bp_105 : (Int8.ofInt (105)).toInt32 = 105 := by decide
theorem bp_107 : (Int8.ofInt (107)).toInt32 = 107 := by decide
theorem bp_108 : (Int8.ofInt (108)).toInt32 = 108 := by decide
theorem bp_109 : (Int8.ofInt (109)).toInt32 = 109 := by decide
theorem bp_110 : (Int8.ofInt (110)).toInt32 = 110 := by decide
theorem bp_111 : (Int8.ofInt (111)).toInt32 = 111 := by decide
theorem bp_112 : (Int8.ofInt (112)).toInt32 = 112 := by decide
theorem bp_114 : (Int8.ofInt (114)).toInt32 = 114 := by decide
theorem bp_115 : (Int8.ofInt (115)).toInt32 = 115 := by decide
theorem bp_116 : (Int8.ofInt (116)).toInt32 = 116 := by decide
theorem bp_117 : (Int8.ofInt (117)).toInt32 = 117 := by decide
theorem bp_119 : (Int8.ofInt (119)).toInt32 = 119 := by decide
theorem bp_122 : (Int8.ofInt (122)).toInt32 = 122 := by decide
theorem bp_127 : (Int8.ofInt (127)).toInt32 = 127 := by decide
theorem ic_m8 : Int32.ofInt (-8) = (-8) := by decide
theorem ic_m1 : Int32.ofInt (-1) = (-1) := by decide
theorem ic_0 : Int32.ofInt (0) = 0 := by decide
theorem ic_1 : Int32.ofInt (1) = 1 := by decide
theorem ic_2 : Int32.ofInt (2) = 2 := by decide
theorem ic_3 : Int32.ofInt (3) = 3 := by decide
theorem ic_4 : Int32.ofInt (4) = 4 := by decide
theorem ic_5 : Int32.ofInt (5) = 5 := by decide
theorem lc_0 : Int64.ofNat ((0 : Fin 2) : Nat) = 0 := by decide
theorem lc_1 : Int64.ofNat ((1 : Fin 2) : Nat) = 1 := by decide
theorem sp_132 : (Int16.ofInt (132)).toInt32 = 132 := by decide
theorem sp_133 : (Int16.ofInt (133)).toInt32 = 133 := by decide
theorem sp_134 : (Int16.ofInt (134)).toInt32 = 134 := by decide
theorem sp_192 : (Int16.ofInt (192)).toInt32 = 192 := by decide
theorem sp_255 : (Int16.ofInt (255)).toInt32 = 255 := by decide
theorem sp_300 : (Int16.ofInt (300)).toInt32 = 300 := by decide
theorem sp_410 : (Int16.ofInt (410)).toInt32 = 410 := by decide
theorem sp_900 : (Int16.ofInt (900)).toInt32 = 900 := by decide
theorem sp_999 : (Int16.ofInt (999)).toInt32 = 999 := by decide
theorem sp_1000 : (Int16.ofInt (1000)).toInt32 = 1000 := by decide
theorem sp_1640 : (Int16.ofInt (1640)).toInt32 = 1640 := by decide
theorem sp_1641 : (Int16.ofInt (1641)).toInt32 = 1641 := by decide
theorem sp_1642 : (Int16.ofInt (1642)).toInt32 = 1642 := by decide
theorem sp_1643 : (Int16.ofInt (1643)).toInt32 = 1643 := by decide
theorem sp_1644 : (Int16.ofInt (1644)).toInt32 = 1644 := by decide
theorem sp_1648 : (Int16.ofInt (1648)).toInt32 = 1648 := by decide
theorem sp_1656 : (Int16.ofInt (1656)).toInt32 = 1656 := by decide
theorem sp_1664 : (Int16.ofInt (1664)).toInt32 = 1664 := by decide
theorem sp_1672 : (Int16.ofInt (1672)).toInt32 = 1672 := by decide
theorem sp_1680 : (Int16.ofInt (1680)).toInt32 = 1680 := by decide
theorem sp_1688 : (Int16.ofInt (1688)).toInt32 = 1688 := by decide
theorem sp_1696 : (Int16.ofInt (1696)).toInt32 = 1696 := by decide
theorem sp_1700 : (Int16.ofInt (1700)).toInt32 = 1700 := by decide
theorem sp_1724 : (Int16.ofInt (1724)).toInt32 = 1724 := by decide
theorem sp_1748 : (Int16.ofInt (1748)).toInt32 = 1748 := by decide
theorem sp_1774 : (Int16.ofInt (1774)).toInt32 = 1774 := by decide
theorem sp_2897 : (Int16.ofInt (2897)).toInt32 = 2897 := by decide
theorem sp_9999 : (Int16.ofInt (9999)).toInt32 = 9999 := by decide
theorem sp_10000 : (Int16.ofInt (10000)).toInt32 = 10000 := by decide
theorem sp_10529 : (Int16.ofInt (10529)).toInt32 = 10529 := by decide
theorem ii {x v : Int32} {z : Int} (h : Int32.ofInt z = v) : x + Int32.ofInt z = x + v := by rw [h]
theorem pn_J6 : plainName RJ6 = true := by decide +kernel
theorem pn_X0 : plainName RX0 = true := by decide +kernel
theorem pn_X1 : plainName RX1 = true := by decide +kernel
theorem pn_X10 : plainName RX10 = true := by decide +kernel
theorem pn_X11 : plainName RX11 = true := by decide +kernel
theorem pn_X12 : plainName RX12 = true := by decide +kernel
theorem pn_X2 : plainName RX2 = true := by decide +kernel
theorem pn_X3 : plainName RX3 = true := by decide +kernel
theorem pn_X4 : plainName RX4 = true := by decide +kernel
theorem pn_X5 : plainName RX5 = true := by decide +kernel
theorem pn_X6 : plainName RX6 = true := by decide +kernel
theorem pn_X7 : plainName RX7 = true := by decide +kernel
theorem pn_X8 : plainName RX8 = true := by decide +kernel
theorem pn_X9 : plainName RX9 = true := by decide +kernel
def gq (b : Nat) (x : Option Nat) : Option Nat := x.bind fun q => if q < b then some q else none
theorem gq_some {b : Nat} {x : Option Nat} {q : Nat} (h : gq b x = some q) : x = some q ∧ q < b := by
  obtain ⟨r, h1, h2⟩ := bnd h
  split at h2
  · rename_i z
    cases h2
    exact ⟨h1, z⟩
  · cases h2
theorem tsw6 {x : Int32} (h0 : ¬ x = 0) (h1 : ¬ x = 1) (h2 : ¬ x = 2) (h3 : ¬ x = 3) (h4 : ¬ x = 4) (h5 : ¬ x = 5) (h6 : ¬ x = 6) : x.toInt < 0 ∨ 6 < x.toInt := by
  have e0 : x.toInt ≠ 0 := fun e => h0 (Int32.toInt_inj.mp e)
  have e1 : x.toInt ≠ 1 := fun e => h1 (Int32.toInt_inj.mp e)
  have e2 : x.toInt ≠ 2 := fun e => h2 (Int32.toInt_inj.mp e)
  have e3 : x.toInt ≠ 3 := fun e => h3 (Int32.toInt_inj.mp e)
  have e4 : x.toInt ≠ 4 := fun e => h4 (Int32.toInt_inj.mp e)
  have e5 : x.toInt ≠ 5 := fun e => h5 (Int32.toInt_inj.mp e)
  have e6 : x.toInt ≠ 6 := fun e => h6 (Int32.toInt_inj.mp e)
  omega
section WPQ
variable {d mc ms : Nat} {m : MI} {Q : Option AV → AH → Prop} {k n pc pc' : Nat} {ls : List (Option AV)} {st : List AV} {h : AH}
theorem Wp.aload_nQ {i : Fin 4} {q : Nat} {x : Option Nat} (hd : Dc m pc (.aload_n i) 1 pc') (hv : ls[(i : Nat)]? = some (some (vq q x))) (k1 : Wp d mc ms m Q k n pc' ls (vq q x :: st) h) : Wp d mc ms m Q k n pc ls st h := by
  cases x with
  | none => exact Wp.aload_nN hd hv k1
  | some r => exact Wp.aload_n hd hv k1
theorem Wp.astore_nQ {i : Fin 4} {q : Nat} {x : Option Nat} (hd : Dc m pc (.astore_n i) 1 pc') (hi : (i : Nat) < m.2.2.1) (k1 : Wp d mc ms m Q k n pc' (st1 (i : Nat) (vq q x) ls) st h) : Wp d mc ms m Q k n pc ls (vq q x :: st) h := by
  cases x with
  | none => exact Wp.astore_nN hd hi k1
  | some r => exact Wp.astore_n hd hi k1
end WPQ
