/-! the methods as functions of the state (by program: wip/whole/gen.py) -/
def X11_mean_l20c  (σ : SS)  (x1 : Int32) (x2 : Int32) (y3 : Int64) (x5 : Int32) : Option ((Int64 × Int32 × SS) ⊕ (Int64 × SS)) :=
  if x2 ≤ x5 then (some (Sum.inr (y3, σ))) else
  ((X0_takeOver σ 1 0).bind fun σ34 =>
    (X2_run σ34 1 (x1 + x5)).bind fun p49 =>
    (X0_secondsSpent p49.2 1).bind fun v58 =>
    (X0_secondsSpent p49.2 0).bind fun v65 =>
    (some (y3 + (Int32.toInt64 (v58 - v65)))).bind fun y3_71 =>
    (some (x5 + 1)).bind fun x5_72 =>
    some (Sum.inl (y3_71, x5_72, p49.2)))
def X11_mean_l20b    (x1 : Int32) (x2 : Int32) : (Int64 × Int32 × SS) → Option ((Int64 × Int32 × SS) ⊕ (Int64 × SS)) := fun ss => X11_mean_l20c  ss.2.2  x1 x2 ss.1 ss.2.1
def X11_mean_l20  (σ : SS)  (x1 : Int32) (x2 : Int32) (y3 : Int64) (x5 : Int32) : Option (Int32 × SS) :=
  (iter (X11_mean_l20b    x1 x2) NF (y3, x5, σ)).bind fun t20 =>
  (X11_tell t20.2 t20.1 (Int32.toInt64 x2)).bind fun p82 =>
    (zb p82.1).bind fun b85 =>
    some (p82.1, p82.2)
def X11_mean_j0  (σ : SS)  (x1 : Int32) (x2 : Int32) : Option (Int32 × SS) :=
  (X11_seedsStatus σ x1 x2).bind fun v4 =>
  (X11_answers σ v4).bind fun p7 =>
  if p7.1 = 0 then (some (0, p7.2)) else
  (X11_mean_l20 p7.2 x1 x2 0 0)
def X11_mean  (σ : SS)  (x1 : Int32) (x2 : Int32) : Option (Int32 × SS) := X11_mean_j0  σ  x1 x2
def X11_odds_j87  (σ : SS)  (x1 : Int32) (x2 : Int32) (x3 : Int32) (x6 : Int32) (s0 : Int64) (s1 : Int64) : Option ((Int64 × Int32 × SS) ⊕ (Int64 × SS)) :=
  (some (s0 + s1)).bind fun y4_88 =>
  (some (x6 + 1)).bind fun x6_90 =>
  some (Sum.inl (y4_88, x6_90, σ))
def X11_odds_l36c  (σ : SS)  (x1 : Int32) (x2 : Int32) (x3 : Int32) (y4 : Int64) (x6 : Int32) : Option ((Int64 × Int32 × SS) ⊕ (Int64 × SS)) :=
  if x3 ≤ x6 then (some (Sum.inr (y4, σ))) else
  ((X0_takeOver σ 1 0).bind fun σ50 =>
    (X2_run σ50 1 (x2 + x6)).bind fun p65 =>
    (X0_isFree p65.2 1 x1).bind fun v76 =>
    X11_odds_j87 p65.2 x1 x2 x3 x6 y4 (if v76 = 0 then 0 else 1))
def X11_odds_l36b    (x1 : Int32) (x2 : Int32) (x3 : Int32) : (Int64 × Int32 × SS) → Option ((Int64 × Int32 × SS) ⊕ (Int64 × SS)) := fun ss => X11_odds_l36c  ss.2.2  x1 x2 x3 ss.1 ss.2.1
def X11_odds_l36  (σ : SS)  (x1 : Int32) (x2 : Int32) (x3 : Int32) (y4 : Int64) (x6 : Int32) : Option (Int32 × SS) :=
  (iter (X11_odds_l36b    x1 x2 x3) NF (y4, x6, σ)).bind fun t36 =>
  (X11_tell t36.2 t36.1 (Int32.toInt64 x3)).bind fun p101 =>
    (zb p101.1).bind fun b104 =>
    some (p101.1, p101.2)
def X11_odds_j22  (σ : SS)  (x1 : Int32) (x2 : Int32) (x3 : Int32) (s1 : Int32) : Option (Int32 × SS) :=
  (X11_answers σ s1).bind fun p22 =>
  if p22.1 = 0 then (some (0, p22.2)) else
  (X11_odds_l36 p22.2 x1 x2 x3 0 0)
def X11_odds_j0  (σ : SS)  (x1 : Int32) (x2 : Int32) (x3 : Int32) : Option (Int32 × SS) :=
  (X0_has σ 0 x1).bind fun v6 =>
  if v6 = 0 then (X11_odds_j22 σ x1 x2 x3 2) else
  ((X11_seedsStatus σ x2 x3).bind fun v15 =>
    X11_odds_j22 σ x1 x2 x3 v15)
def X11_odds  (σ : SS)  (x1 : Int32) (x2 : Int32) (x3 : Int32) : Option (Int32 × SS) := X11_odds_j0  σ  x1 x2 x3
def X11_markAt_j0  (σ : SS)  (x1 : Int32) : Option (Option Nat) :=
  if x1 < 0 then (some (none)) else
  (if (nI (LN 15 0)) ≤ x1 then (some (none)) else
    ((ck (LN 15 0) x1).bind fun j18 =>
      some (some (j18 + 2))))
def X11_markAt  (σ : SS)  (x1 : Int32) : Option (Option Nat) := X11_markAt_j0  σ  x1
def X11_mark_j54  (σ : SS)   : Option (Int32 × SS) :=
  some ((σ.1 10 0 10), σ)
def X11_mark_j15  (σ : SS)  (s1 : Int32) : Option (Int32 × SS) :=
  (X11_answers σ s1).bind fun p15 =>
  if p15.1 = 0 then (some ((-1), p15.2)) else
  ((X11_markAt p15.2 (p15.2.1 10 0 10)).bind fun v28 =>
    match v28 with
    | none => X11_mark_j54 p15.2
    | some q33 => if q33 < 5 then ((X0_takeOver p15.2 q33 0).bind fun σ41 =>
      (some (wI σ41 10 0 10 ((σ41.1 10 0 10) + 1))).bind fun σ51 =>
      X11_mark_j54 σ51) else none)
def X11_mark_j0  (σ : SS)   : Option (Int32 × SS) :=
  X11_mark_j15 σ (if (σ.1 10 0 10) < 3 then 0 else 7)
def X11_mark  (σ : SS)   : Option (Int32 × SS) := X11_mark_j0  σ  
def X11_back_j14  (σ : SS)  (s1 : Int32) : Option (Int32 × SS) :=
  (X11_answers σ s1).bind fun p14 =>
  if p14.1 = 0 then (some ((-1), p14.2)) else
  ((some (wI p14.2 10 0 10 ((p14.2.1 10 0 10) - 1))).bind fun σ29 =>
    (X11_markAt σ29 (σ29.1 10 0 10)).bind fun v41 =>
    (gq 5 v41).bind fun q44_0 =>
    (X0_takeOver σ29 0 q44_0).bind fun σ44 =>
    some ((σ44.1 10 0 10), σ44))
def X11_back_j0  (σ : SS)   : Option (Int32 × SS) :=
  X11_back_j14 σ (if 0 < (σ.1 10 0 10) then 0 else 8)
def X11_back  (σ : SS)   : Option (Int32 × SS) := X11_back_j0  σ  
def X12_status_j0  (σ : SS)   : Option (Int32 × SS) :=
  (some (wI σ 11 0 1 0)).bind fun σ2 =>
  some ((σ2.1 11 0 0), σ2)
def X12_status  (σ : SS)   : Option (Int32 × SS) := X12_status_j0  σ  
def X12_top_j0  (σ : SS)   : Option (Int64 × SS) :=
  (some (wI σ 11 0 1 0)).bind fun σ2 =>
  some ((σ2.2 11 0 2), σ2)
def X12_top  (σ : SS)   : Option (Int64 × SS) := X12_top_j0  σ  
def X12_bottom_j0  (σ : SS)   : Option (Int64 × SS) :=
  (some (wI σ 11 0 1 0)).bind fun σ2 =>
  some ((σ2.2 11 0 3), σ2)
def X12_bottom  (σ : SS)   : Option (Int64 × SS) := X12_bottom_j0  σ  
def X12_refuse_j0  (σ : SS)  (x1 : Int32) : Option (Int32 × SS) :=
  (some (wI σ 11 0 0 x1)).bind fun σ2 =>
  some ((-1), σ2)
def X12_refuse  (σ : SS)  (x1 : Int32) : Option (Int32 × SS) := X12_refuse_j0  σ  x1
def X12_no_j0  (σ : SS)  (x1 : Int32) : Option (Int32 × SS) :=
  (some (wI σ 11 0 0 x1)).bind fun σ2 =>
  some (0, σ2)
def X12_no  (σ : SS)  (x1 : Int32) : Option (Int32 × SS) := X12_no_j0  σ  x1
def X12_isIn_j0  (σ : SS)  (y0 : Int64) (y2 : Int64) (y4 : Int64) : Option (Int32) :=
  if (lg_cmp y0 y2) < 0 then (some 0) else
  (if 0 < (lg_cmp y0 y4) then (some 0) else
    (some 1))
def X12_isIn  (σ : SS)  (y0 : Int64) (y2 : Int64) (y4 : Int64) : Option (Int32) := X12_isIn_j0  σ  y0 y2 y4
def X12_fraction_l9c  (σ : SS)  (y1 : Int64) (y3 : Int64) (y5 : Int64) (y7 : Int64) : Option ((Int64 × Int64) ⊕ (Int64)) :=
  if (lg_cmp y7 0) = 0 then (some (Sum.inr y5)) else
  ((nzL y7).bind fun w20 =>
    (some (y5 - y5 / y7 * y7)).bind fun y9_21 =>
    some (Sum.inl (y7, y9_21)))
def X12_fraction_l9b  (σ : SS)  (y1 : Int64) (y3 : Int64) : (Int64 × Int64) → Option ((Int64 × Int64) ⊕ (Int64)) := fun ss => X12_fraction_l9c  σ  y1 y3 ss.1 ss.2
def X12_fraction_l9  (σ : SS)  (y1 : Int64) (y3 : Int64) (y5 : Int64) (y7 : Int64) : Option (Int32 × SS) :=
  (iter (X12_fraction_l9b  σ  y1 y3) NF (y5, y7)).bind fun t9 =>
  (nzL t9).bind fun w38 =>
    (some (wJ σ 11 0 2 (y1 / t9))).bind fun σ39 =>
    (nzL t9).bind fun w46 =>
    (some (wJ σ39 11 0 3 (y3 / t9))).bind fun σ47 =>
    some (1, σ47)
def X12_fraction_j0  (σ : SS)  (y1 : Int64) (y3 : Int64) : Option (Int32 × SS) :=
  (some (labs y1)).bind fun y5_4 =>
  X12_fraction_l9 σ y1 y3 y5_4 y3
def X12_fraction  (σ : SS)  (y1 : Int64) (y3 : Int64) : Option (Int32 × SS) := X12_fraction_j0  σ  y1 y3
def X12_cut_j0  (σ : SS)  (x0 : Int32) (y1 : Int64) : Option (Int64) :=
  if x0 = 0 then (some (Int32.toInt64 (Int8.toInt32 (Int32.toInt8 (Int64.toInt32 y1))))) else
  (if x0 = 1 then (some (Int32.toInt64 (Int16.toInt32 (Int32.toInt16 (Int64.toInt32 y1))))) else
    (if x0 = 2 then (some (Int32.toInt64 (Int64.toInt32 y1))) else
      (some y1)))
def X12_cut  (σ : SS)  (x0 : Int32) (y1 : Int64) : Option (Int64) := X12_cut_j0  σ  x0 y1
def X12_tray_j28  (σ : SS)   : Option (Int32 × SS) :=
  (X12_no σ 1).bind fun p30 =>
  (zb p30.1).bind fun b33 =>
  some (p30.1, p30.2)
def X12_tray_l74c  (σ : SS)  (x1 : Int32) (x3 : Int32) (x4 : Int32) : Option ((Int32 × SS) ⊕ (SS)) :=
  if x3 ≤ x4 then (some (Sum.inr σ)) else
  ((ck (LN 14 6) ((60 * x1) + x4)).bind fun j92 =>
    (some (wJ σ 14 6 j92 0)).bind fun σ92 =>
    (some (x4 + 1)).bind fun x4_93 =>
    some (Sum.inl (x4_93, σ92)))
def X12_tray_l74b    (x1 : Int32) (x3 : Int32) : (Int32 × SS) → Option ((Int32 × SS) ⊕ (SS)) := fun ss => X12_tray_l74c  ss.2  x1 x3 ss.1
def X12_tray_l74  (σ : SS)  (x1 : Int32) (x3 : Int32) (x4 : Int32) : Option (Int32 × SS) :=
  (iter (X12_tray_l74b    x1 x3) NF (x4, σ)).bind fun t74 =>
  some (1, t74)
def X12_tray_j0  (σ : SS)  (x1 : Int32) (x2 : Int32) (x3 : Int32) : Option (Int32 × SS) :=
  (some (wI σ 11 0 1 0)).bind fun σ2 =>
  (some (wI σ2 11 0 0 0)).bind fun σ7 =>
  if x1 < 0 then (X12_tray_j28 σ7) else
  (if 4 ≤ x1 then (X12_tray_j28 σ7) else
    (if x2 < 0 then (X12_tray_j28 σ7) else
      (if x2 ≤ 3 then (if x3 ≤ 60 then (if 0 ≤ x3 then ((ck (LN 13 32) x1).bind fun j63 =>
              (some (wI σ7 13 32 j63 x2)).bind fun σ63 =>
              (ck (LN 13 33) x1).bind fun j70 =>
              (some (wI σ63 13 33 j70 x3)).bind fun σ70 =>
              X12_tray_l74 σ70 x1 x3 0) else
            ((X12_no σ7 6).bind fun p53 =>
              (zb p53.1).bind fun b56 =>
              some (p53.1, p53.2))) else
          ((X12_no σ7 5).bind fun p42 =>
            (zb p42.1).bind fun b45 =>
            some (p42.1, p42.2))) else
        (X12_tray_j28 σ7))))
def X12_tray  (σ : SS)  (x1 : Int32) (x2 : Int32) (x3 : Int32) : Option (Int32 × SS) := X12_tray_j0  σ  x1 x2 x3
def X12_trayed_j9  (σ : SS)   : Option (Int32) :=
  some 1
def X12_trayed_j0  (σ : SS)  (x1 : Int32) : Option (Int32) :=
  if x1 < 0 then (X12_trayed_j9 σ) else
  (if x1 < 4 then ((ck (LN 13 33) x1).bind fun j18 =>
      if 0 ≤ (σ.1 13 33 j18) then (some 0) else
      (some 3)) else
    (X12_trayed_j9 σ))
def X12_trayed  (σ : SS)  (x1 : Int32) : Option (Int32) := X12_trayed_j0  σ  x1
def X12_placed_j28  (σ : SS)   : Option (Int32) :=
  some 4
def X12_placed_j0  (σ : SS)  (x1 : Int32) (x2 : Int32) : Option (Int32) :=
  (X12_trayed σ x1).bind fun v2 =>
  if v2 ≤ 0 then (if x2 < 0 then (X12_placed_j28 σ) else
    ((ck (LN 13 33) x1).bind fun j24 =>
      if x2 < (σ.1 13 33 j24) then (some 0) else
      (X12_placed_j28 σ))) else
  (some v2)
def X12_placed  (σ : SS)  (x1 : Int32) (x2 : Int32) : Option (Int32) := X12_placed_j0  σ  x1 x2
def X12_write_j0  (σ : SS)  (x1 : Int32) (x2 : Int32) (y3 : Int64) : Option (Int32 × SS) :=
  (some (wI σ 11 0 1 0)).bind fun σ2 =>
  (X12_placed σ2 x1 x2).bind fun v9 =>
  (some (wI σ2 11 0 0 v9)).bind fun σ12 =>
  if (σ12.1 11 0 0) ≤ 0 then ((ck (LN 13 32) x1).bind fun j39 =>
    (X12_cut σ12 (σ12.1 13 32 j39) y3).bind fun v41 =>
    (ck (LN 14 6) ((60 * x1) + x2)).bind fun j44 =>
    (some (wJ σ12 14 6 j44 v41)).bind fun σ44 =>
    some (1, σ44)) else
  (some (0, σ12))
def X12_write  (σ : SS)  (x1 : Int32) (x2 : Int32) (y3 : Int64) : Option (Int32 × SS) := X12_write_j0  σ  x1 x2 y3
def X12_read_j0  (σ : SS)  (x1 : Int32) (x2 : Int32) : Option (Int64 × SS) :=
  (some (wI σ 11 0 1 0)).bind fun σ2 =>
  (X12_placed σ2 x1 x2).bind fun v9 =>
  (some (wI σ2 11 0 0 v9)).bind fun σ12 =>
  if (σ12.1 11 0 0) ≤ 0 then ((ck (LN 14 6) ((60 * x1) + x2)).bind fun j38 =>
    some ((σ12.2 14 6 j38), σ12)) else
  (some ((-1), σ12))
def X12_read  (σ : SS)  (x1 : Int32) (x2 : Int32) : Option (Int64 × SS) := X12_read_j0  σ  x1 x2
def X12_pour_j28  (σ : SS)   : Option (Int32 × SS) :=
  (X12_no σ 1).bind fun p30 =>
  (zb p30.1).bind fun b33 =>
  some (p30.1, p30.2)
def X12_pour_j52  (σ : SS)   : Option (Int32 × SS) :=
  (X12_no σ 3).bind fun p54 =>
  (zb p54.1).bind fun b57 =>
  some (p54.1, p54.2)
def X12_pour_j136  (σ : SS)   : Option (Int32 × SS) :=
  (X12_no σ 4).bind fun p138 =>
  (zb p138.1).bind fun b141 =>
  some (p138.1, p138.2)
def X12_pour_j182  (σ : SS)  (x1 : Int32) (x2 : Int32) (x3 : Int32) (x4 : Int32) (x5 : Int32) (x6 : Int32) (x7 : Int32) (s0 : Int32) : Option ((Int32 × SS) ⊕ (SS)) :=
  (ck (LN 14 6) (((60 * x1) + x2) + s0)).bind fun j211 =>
  (ck (LN 14 6) (((60 * x3) + x4) + s0)).bind fun j212 =>
  (some (wJ σ 14 6 j212 (σ.2 14 6 j211))).bind fun σ212 =>
  (some (x7 + 1)).bind fun x7_213 =>
  some (Sum.inl (x7_213, σ212))
def X12_pour_l158c  (σ : SS)  (x1 : Int32) (x2 : Int32) (x3 : Int32) (x4 : Int32) (x5 : Int32) (x6 : Int32) (x7 : Int32) : Option ((Int32 × SS) ⊕ (SS)) :=
  if x5 ≤ x7 then (some (Sum.inr σ)) else
  (X12_pour_j182 σ x1 x2 x3 x4 x5 x6 x7 (if x6 = 0 then x7 else ((x5 - 1) - x7)))
def X12_pour_l158b    (x1 : Int32) (x2 : Int32) (x3 : Int32) (x4 : Int32) (x5 : Int32) (x6 : Int32) : (Int32 × SS) → Option ((Int32 × SS) ⊕ (SS)) := fun ss => X12_pour_l158c  ss.2  x1 x2 x3 x4 x5 x6 ss.1
def X12_pour_l158  (σ : SS)  (x1 : Int32) (x2 : Int32) (x3 : Int32) (x4 : Int32) (x5 : Int32) (x6 : Int32) (x7 : Int32) : Option (Int32 × SS) :=
  (iter (X12_pour_l158b    x1 x2 x3 x4 x5 x6) NF (x7, σ)).bind fun t158 =>
  some (1, t158)
def X12_pour_j153  (σ : SS)  (x1 : Int32) (x2 : Int32) (x3 : Int32) (x4 : Int32) (x5 : Int32) (s0 : Int32) : Option (Int32 × SS) :=
  X12_pour_l158 σ x1 x2 x3 x4 x5 s0 0
def X12_pour_j0  (σ : SS)  (x1 : Int32) (x2 : Int32) (x3 : Int32) (x4 : Int32) (x5 : Int32) : Option (Int32 × SS) :=
  (some (wI σ 11 0 1 0)).bind fun σ2 =>
  (some (wI σ2 11 0 0 0)).bind fun σ7 =>
  if x1 < 0 then (X12_pour_j28 σ7) else
  (if 4 ≤ x1 then (X12_pour_j28 σ7) else
    (if x3 < 0 then (X12_pour_j28 σ7) else
      (if x3 < 4 then ((ck (LN 13 33) x1).bind fun j39 =>
          if (σ7.1 13 33 j39) < 0 then (X12_pour_j52 σ7) else
          ((ck (LN 13 33) x3).bind fun j48 =>
            if 0 ≤ (σ7.1 13 33 j48) then ((ck (LN 13 32) x1).bind fun j63 =>
              (ck (LN 13 32) x3).bind fun j69 =>
              if (σ7.1 13 32 j63) = (σ7.1 13 32 j69) then (if 0 ≤ x5 then (if x2 < 0 then (X12_pour_j136 σ7) else
                  (if x4 < 0 then (X12_pour_j136 σ7) else
                    ((ck (LN 13 33) x1).bind fun j112 =>
                      if 0 < (lg_cmp ((Int32.toInt64 x2) + (Int32.toInt64 x5)) (Int32.toInt64 (σ7.1 13 33 j112))) then (X12_pour_j136 σ7) else
                      ((ck (LN 13 33) x3).bind fun j130 =>
                        if (lg_cmp ((Int32.toInt64 x4) + (Int32.toInt64 x5)) (Int32.toInt64 (σ7.1 13 33 j130))) ≤ 0 then (X12_pour_j153 σ7 x1 x2 x3 x4 x5 (if x4 ≤ x2 then 0 else 1)) else
                        (X12_pour_j136 σ7))))) else
                ((X12_no σ7 6).bind fun p88 =>
                  (zb p88.1).bind fun b91 =>
                  some (p88.1, p88.2))) else
              ((X12_no σ7 11).bind fun p76 =>
                (zb p76.1).bind fun b79 =>
                some (p76.1, p76.2))) else
            (X12_pour_j52 σ7))) else
        (X12_pour_j28 σ7))))
def X12_pour  (σ : SS)  (x1 : Int32) (x2 : Int32) (x3 : Int32) (x4 : Int32) (x5 : Int32) : Option (Int32 × SS) := X12_pour_j0  σ  x1 x2 x3 x4 x5
def X12_isTray_j0  (σ : SS)  (x1 : Int32) : Option (Int32) :=
  (X12_isIn σ (Int32.toInt64 x1) 0 3).bind fun v6 =>
  (zb v6).bind fun b9 =>
  some v6
def X12_isTray  (σ : SS)  (x1 : Int32) : Option (Int32) := X12_isTray_j0  σ  x1
def X12_has_j0  (σ : SS)  (x0 : Int32) (x1 : Int32) : Option (Int32) :=
  if ((x0 >>> (x1 &&& 31)) &&& 1) = 1 then (some 1) else
  (some 0)
def X12_has  (σ : SS)  (x0 : Int32) (x1 : Int32) : Option (Int32) := X12_has_j0  σ  x0 x1
def X12_sizeOf_j24  (σ : SS)  (x0 : Int32) (x2 : Int32) (s0 : Int32) (s1 : Int32) : Option ((Int32 × Int32) ⊕ (Int32)) :=
  (some (s0 + s1)).bind fun x1_25 =>
  (some (x2 + 1)).bind fun x2_26 =>
  some (Sum.inl (x1_25, x2_26))
def X12_sizeOf_l4c  (σ : SS)  (x0 : Int32) (x1 : Int32) (x2 : Int32) : Option ((Int32 × Int32) ⊕ (Int32)) :=
  if 8 ≤ x2 then (some (Sum.inr x1)) else
  ((X12_has σ x0 x2).bind fun v13 =>
    X12_sizeOf_j24 σ x0 x2 x1 (if v13 = 0 then 0 else 1))
def X12_sizeOf_l4b  (σ : SS)  (x0 : Int32) : (Int32 × Int32) → Option ((Int32 × Int32) ⊕ (Int32)) := fun ss => X12_sizeOf_l4c  σ  x0 ss.1 ss.2
def X12_sizeOf_l4  (σ : SS)  (x0 : Int32) (x1 : Int32) (x2 : Int32) : Option (Int32) :=
  (iter (X12_sizeOf_l4b  σ  x0) NF (x1, x2)).bind fun t4 =>
  some t4
def X12_sizeOf_j0  (σ : SS)  (x0 : Int32) : Option (Int32) :=
  X12_sizeOf_l4 σ x0 0 0
def X12_sizeOf  (σ : SS)  (x0 : Int32) : Option (Int32) := X12_sizeOf_j0  σ  x0
def X12_look2_j0  (σ : SS)  (x1 : Int32) : Option (Int32) :=
  if (σ.1 11 0 9) ≤ x1 then (some 0) else
  ((ck (LN 12 0) x1).bind fun j13 =>
    some ((σ.1 12 0 j13) &&& 255))
def X12_look2  (σ : SS)  (x1 : Int32) : Option (Int32) := X12_look2_j0  σ  x1
def X12_isLetter_j0  (σ : SS)  (x0 : Int32) : Option (Int32) :=
  if x0 < 97 then (some 0) else
  (if 122 < x0 then (some 0) else
    (some 1))
def X12_isLetter  (σ : SS)  (x0 : Int32) : Option (Int32) := X12_isLetter_j0  σ  x0
def X12_isDigit_j0  (σ : SS)  (x0 : Int32) : Option (Int32) :=
  if x0 < 48 then (some 0) else
  (if 57 < x0 then (some 0) else
    (some 1))
def X12_isDigit  (σ : SS)  (x0 : Int32) : Option (Int32) := X12_isDigit_j0  σ  x0
def X12_isSignByte_j24  (σ : SS)   : Option (Int32) :=
  some 1
def X12_isSignByte_j0  (σ : SS)  (x1 : Int32) : Option (Int32) :=
  if x1 = 59 then (X12_isSignByte_j24 σ) else
  (if x1 = 60 then (X12_isSignByte_j24 σ) else
    (if x1 = 62 then (X12_isSignByte_j24 σ) else
      (if x1 = 61 then (X12_isSignByte_j24 σ) else
        (some 0))))
def X12_isSignByte  (σ : SS)  (x1 : Int32) : Option (Int32) := X12_isSignByte_j0  σ  x1
def X12_next_j45  (σ : SS)   : Option ((SS) ⊕ (SS)) :=
  (some (wI σ 11 0 15 ((σ.1 11 0 15) + 1))).bind fun σ52 =>
  some (Sum.inl σ52)
def X12_next_l8c  (σ : SS)    : Option ((SS) ⊕ (SS)) :=
  if (σ.1 11 0 9) ≤ (σ.1 11 0 15) then (some (Sum.inr σ)) else
  ((X12_look2 σ (σ.1 11 0 15)).bind fun v24 =>
    if v24 = 10 then (X12_next_j45 σ) else
    ((X12_look2 σ (σ.1 11 0 15)).bind fun v37 =>
      if v37 = 32 then (X12_next_j45 σ) else
      (some (Sum.inr σ))))
def X12_next_l8b     : (SS) → Option ((SS) ⊕ (SS)) := fun ss => X12_next_l8c  ss   
def X12_next_j327  (σ : SS)  (s1 : Int32) : Option (SS) :=
  (some (wI σ 11 0 14 s1)).bind fun σ327 =>
  some σ327
def X12_next_j260  (σ : SS)   : Option ((SS) ⊕ (SS)) :=
  (some (wI σ 11 0 16 ((σ.1 11 0 16) + 1))).bind fun σ267 =>
  some (Sum.inl σ267)
def X12_next_l210c  (σ : SS)    : Option ((SS) ⊕ (SS)) :=
  (X12_look2 σ (σ.1 11 0 16)).bind fun v215 =>
  (X12_isDigit σ v215).bind fun v218 =>
  if v218 = 0 then (some (Sum.inr σ)) else
  (if 4 ≤ ((σ.1 11 0 16) - (σ.1 11 0 15)) then (X12_next_j260 σ) else
    ((X12_look2 σ (σ.1 11 0 16)).bind fun v250 =>
      (some (wI σ 11 0 17 (((10 * (σ.1 11 0 17)) + v250) - 48))).bind fun σ257 =>
      X12_next_j260 σ257))
def X12_next_l210b     : (SS) → Option ((SS) ⊕ (SS)) := fun ss => X12_next_l210c  ss   
def X12_next_j292  (σ : SS)  (s1 : Int32) : Option (SS) :=
  (some (wI σ 11 0 14 s1)).bind fun σ292 =>
  some σ292
def X12_next_l210  (σ : SS)   : Option (SS) :=
  (iter (X12_next_l210b    ) NF σ).bind fun t210 =>
  X12_next_j292 t210 (if ((t210.1 11 0 16) - (t210.1 11 0 15)) ≤ 4 then 2 else 4)
def X12_next_j166  (σ : SS)  (s1 : Int64) : Option ((SS) ⊕ (SS)) :=
  (some (wJ σ 11 0 19 s1)).bind fun σ166 =>
  (some (wI σ166 11 0 16 ((σ166.1 11 0 16) + 1))).bind fun σ176 =>
  some (Sum.inl σ176)
def X12_next_l109c  (σ : SS)    : Option ((SS) ⊕ (SS)) :=
  (X12_look2 σ (σ.1 11 0 16)).bind fun v114 =>
  (X12_isLetter σ v114).bind fun v117 =>
  if v117 = 0 then (some (Sum.inr σ)) else
  (if 8 ≤ ((σ.1 11 0 16) - (σ.1 11 0 15)) then (X12_next_j166 σ (-1)) else
    ((X12_look2 σ (σ.1 11 0 16)).bind fun v151 =>
      X12_next_j166 σ ((((σ.2 11 0 19) * 32) + (Int32.toInt64 v151)) - 96)))
def X12_next_l109b     : (SS) → Option ((SS) ⊕ (SS)) := fun ss => X12_next_l109c  ss   
def X12_next_l109  (σ : SS)   : Option (SS) :=
  (iter (X12_next_l109b    ) NF σ).bind fun t109 =>
  (some (wI t109 11 0 18 ((t109.1 11 0 16) - (t109.1 11 0 15)))).bind fun σ192 =>
    some σ192
def X12_next_j58  (σ : SS)   : Option (SS) :=
  (some (wI σ 11 0 16 (σ.1 11 0 15))).bind fun σ63 =>
  if (σ63.1 11 0 15) < (σ63.1 11 0 9) then ((X12_look2 σ63 (σ63.1 11 0 15)).bind fun v88 =>
    (X12_isLetter σ63 v88).bind fun v93 =>
    if v93 = 0 then ((X12_isDigit σ63 v88).bind fun v199 =>
      if v199 = 0 then ((some (wI σ63 11 0 16 ((σ63.1 11 0 15) + 1))).bind fun σ305 =>
        (some (wI σ305 11 0 17 v88)).bind fun σ310 =>
        (X12_isSignByte σ310 v88).bind fun v316 =>
        X12_next_j327 σ310 (if v316 = 0 then 4 else 3)) else
      ((some (wI σ63 11 0 17 0)).bind fun σ207 =>
        X12_next_l210 σ207)) else
    ((some (wI σ63 11 0 14 1)).bind fun σ101 =>
      (some (wJ σ101 11 0 19 0)).bind fun σ106 =>
      X12_next_l109 σ106)) else
  ((some (wI σ63 11 0 14 0)).bind fun σ79 =>
    some σ79)
def X12_next_l8  (σ : SS)   : Option (SS) :=
  (iter (X12_next_l8b    ) NF σ).bind fun t8 =>
  X12_next_j58 t8
def X12_next_j0  (σ : SS)   : Option (SS) :=
  (some (wI σ 11 0 15 (σ.1 11 0 16))).bind fun σ5 =>
  X12_next_l8 σ5
def X12_next  (σ : SS)   : Option (SS) := X12_next_j0  σ  
def X12_isSign_j0  (σ : SS)  (x1 : Int32) : Option (Int32) :=
  if (σ.1 11 0 14) = 3 then (if (σ.1 11 0 17) = x1 then (some 1) else
    (some 0)) else
  (some 0)
def X12_isSign  (σ : SS)  (x1 : Int32) : Option (Int32) := X12_isSign_j0  σ  x1
def X12_spelled_j91  (σ : SS)  (x5 : Int32) (s0 : Int64) : Option (Int64) :=
  if x5 ≤ 0 then (some s0) else
  (some (((s0 * 32) + (Int32.toInt64 x5)) - 96))
def X12_spelled_j65  (σ : SS)  (x4 : Int32) (x5 : Int32) (s0 : Int64) : Option (Int64) :=
  X12_spelled_j91 σ x5 (if x4 ≤ 0 then s0 else (((s0 * 32) + (Int32.toInt64 x4)) - 96))
def X12_spelled_j41  (σ : SS)  (x3 : Int32) (x4 : Int32) (x5 : Int32) (s0 : Int64) : Option (Int64) :=
  X12_spelled_j65 σ x4 x5 (if x3 ≤ 0 then s0 else (((s0 * 32) + (Int32.toInt64 x3)) - 96))
def X12_spelled_j0  (σ : SS)  (x0 : Int32) (x1 : Int32) (x2 : Int32) (x3 : Int32) (x4 : Int32) (x5 : Int32) : Option (Int64) :=
  (some (((((Int32.toInt64 x0) - 96) * 32) + (Int32.toInt64 x1)) - 96)).bind fun y6_17 =>
  X12_spelled_j41 σ x3 x4 x5 (if x2 ≤ 0 then y6_17 else (((y6_17 * 32) + (Int32.toInt64 x2)) - 96))
def X12_spelled  (σ : SS)  (x0 : Int32) (x1 : Int32) (x2 : Int32) (x3 : Int32) (x4 : Int32) (x5 : Int32) : Option (Int64) := X12_spelled_j0  σ  x0 x1 x2 x3 x4 x5
def X12_isWord_j0  (σ : SS)  (y1 : Int64) : Option (Int32) :=
  if (σ.1 11 0 14) = 1 then (if (lg_cmp (σ.2 11 0 19) y1) = 0 then (some 1) else
    (some 0)) else
  (some 0)
def X12_isWord  (σ : SS)  (y1 : Int64) : Option (Int32) := X12_isWord_j0  σ  y1
def X12_isLead_j0  (σ : SS)   : Option (Int32) :=
  (X12_spelled σ 108 101 97 100 0 0).bind fun v11 =>
  (X12_isWord σ v11).bind fun v14 =>
  (zb v14).bind fun b17 =>
  some v14
def X12_isLead  (σ : SS)   : Option (Int32) := X12_isLead_j0  σ  
def X12_isLong_j0  (σ : SS)   : Option (Int32) :=
  (X12_spelled σ 108 111 110 103 0 0).bind fun v11 =>
  (X12_isWord σ v11).bind fun v14 =>
  (zb v14).bind fun b17 =>
  some v14
def X12_isLong  (σ : SS)   : Option (Int32) := X12_isLong_j0  σ  
def X12_isStiff_j0  (σ : SS)   : Option (Int32) :=
  (X12_spelled σ 115 116 105 102 102 0).bind fun v12 =>
  (X12_isWord σ v12).bind fun v15 =>
  (zb v15).bind fun b18 =>
  some v15
def X12_isStiff  (σ : SS)   : Option (Int32) := X12_isStiff_j0  σ  
def X12_isEnds_j0  (σ : SS)   : Option (Int32) :=
  (X12_spelled σ 101 110 100 115 0 0).bind fun v11 =>
  (X12_isWord σ v11).bind fun v14 =>
  (zb v14).bind fun b17 =>
  some v14
def X12_isEnds  (σ : SS)   : Option (Int32) := X12_isEnds_j0  σ  
def X12_isCosts_j0  (σ : SS)   : Option (Int32) :=
  (X12_spelled σ 99 111 115 116 115 0).bind fun v12 =>
  (X12_isWord σ v12).bind fun v15 =>
  (zb v15).bind fun b18 =>
  some v15
def X12_isCosts  (σ : SS)   : Option (Int32) := X12_isCosts_j0  σ  
def X12_isUsed_j0  (σ : SS)   : Option (Int32) :=
  (X12_spelled σ 117 115 101 100 0 0).bind fun v11 =>
  (X12_isWord σ v11).bind fun v14 =>
  (zb v14).bind fun b17 =>
  some v14
def X12_isUsed  (σ : SS)   : Option (Int32) := X12_isUsed_j0  σ  
def X12_isClip_j0  (σ : SS)   : Option (Int32) :=
  (X12_spelled σ 99 108 105 112 0 0).bind fun v11 =>
  (X12_isWord σ v11).bind fun v14 =>
  (zb v14).bind fun b17 =>
  some v14
def X12_isClip  (σ : SS)   : Option (Int32) := X12_isClip_j0  σ  
def X12_isCross_j0  (σ : SS)   : Option (Int32) :=
  (X12_spelled σ 99 114 111 115 115 0).bind fun v12 =>
  (X12_isWord σ v12).bind fun v15 =>
  (zb v15).bind fun b18 =>
  some v15
def X12_isCross  (σ : SS)   : Option (Int32) := X12_isCross_j0  σ  
def X12_isLook_j0  (σ : SS)   : Option (Int32) :=
  (X12_spelled σ 108 111 111 107 0 0).bind fun v11 =>
  (X12_isWord σ v11).bind fun v14 =>
  (zb v14).bind fun b17 =>
  some v14
def X12_isLook  (σ : SS)   : Option (Int32) := X12_isLook_j0  σ  
def X12_isFrom_j0  (σ : SS)   : Option (Int32) :=
  (X12_spelled σ 102 114 111 109 0 0).bind fun v11 =>
  (X12_isWord σ v11).bind fun v14 =>
  (zb v14).bind fun b17 =>
  some v14
def X12_isFrom  (σ : SS)   : Option (Int32) := X12_isFrom_j0  σ  
def X12_stateWord_j0  (σ : SS)   : Option (Int32) :=
  (X12_spelled σ 116 104 114 101 97 100).bind fun v13 =>
  (X12_isWord σ ((((v13 * 32) + 5) * 32) + 4)).bind fun v32 =>
  if v32 = 0 then ((X12_spelled σ 116 105 103 104 116 0).bind fun v52 =>
    (X12_isWord σ v52).bind fun v55 =>
    if v55 = 0 then ((X12_spelled σ 107 110 111 116 0 0).bind fun v74 =>
      (X12_isWord σ v74).bind fun v77 =>
      if v77 = 0 then (some 0) else
      (some 3)) else
    (some 2)) else
  (some 1)
def X12_stateWord  (σ : SS)   : Option (Int32) := X12_stateWord_j0  σ  
def X12_stepWord_j0  (σ : SS)   : Option (Int32) :=
  (X12_spelled σ 111 112 101 110 0 0).bind fun v11 =>
  (X12_isWord σ v11).bind fun v14 =>
  if v14 = 0 then ((X12_spelled σ 116 97 107 101 0 0).bind fun v33 =>
    (X12_isWord σ v33).bind fun v36 =>
    if v36 = 0 then ((X12_spelled σ 108 111 111 115 101 110).bind fun v57 =>
      (X12_isWord σ v57).bind fun v60 =>
      if v60 = 0 then ((X12_spelled σ 112 117 108 108 0 0).bind fun v79 =>
        (X12_isWord σ v79).bind fun v82 =>
        if v82 = 0 then ((X12_spelled σ 99 117 116 0 0 0).bind fun v100 =>
          (X12_isWord σ v100).bind fun v103 =>
          if v103 = 0 then ((X12_isClip σ ).bind fun v112 =>
            if v112 = 0 then ((X12_spelled σ 119 104 101 110 0 0).bind fun v131 =>
              (X12_isWord σ v131).bind fun v134 =>
              if v134 = 0 then ((X12_spelled σ 108 111 111 112 0 0).bind fun v154 =>
                (X12_isWord σ v154).bind fun v157 =>
                if v157 = 0 then ((X12_spelled σ 115 116 111 112 0 0).bind fun v177 =>
                  (X12_isWord σ v177).bind fun v180 =>
                  if v180 = 0 then (some (-1)) else
                  (some 8)) else
                (some 7)) else
              (some 6)) else
            (some 5)) else
          (some 4)) else
        (some 3)) else
      (some 2)) else
    (some 1)) else
  (some 0)
def X12_stepWord  (σ : SS)   : Option (Int32) := X12_stepWord_j0  σ  
def X12_testWord_j0  (σ : SS)   : Option (Int32) :=
  (X12_spelled σ 108 117 109 112 0 0).bind fun v11 =>
  (X12_isWord σ v11).bind fun v14 =>
  if v14 = 0 then ((X12_isCross σ ).bind fun v23 =>
    if v23 = 0 then ((X12_spelled σ 102 114 101 101 0 0).bind fun v42 =>
      (X12_isWord σ v42).bind fun v45 =>
      if v45 = 0 then (some (-1)) else
      (some 2)) else
    (some 1)) else
  (some 0)
def X12_testWord  (σ : SS)   : Option (Int32) := X12_testWord_j0  σ  
def X12_isEnd_j0  (σ : SS)   : Option (Int32) :=
  (X12_spelled σ 101 110 100 0 0 0).bind fun v10 =>
  (X12_isWord σ v10).bind fun v13 =>
  (zb v13).bind fun b16 =>
  some v13
def X12_isEnd  (σ : SS)   : Option (Int32) := X12_isEnd_j0  σ  
def X12_isKept_j100  (σ : SS)   : Option (Int32) :=
  some 1
def X12_isKept_j0  (σ : SS)   : Option (Int32) :=
  (X12_isLead σ ).bind fun v1 =>
  if v1 = 0 then ((X12_isLong σ ).bind fun v8 =>
    if v8 = 0 then ((X12_isStiff σ ).bind fun v15 =>
      if v15 = 0 then ((X12_isEnds σ ).bind fun v22 =>
        if v22 = 0 then ((X12_isCosts σ ).bind fun v29 =>
          if v29 = 0 then ((X12_isUsed σ ).bind fun v36 =>
            if v36 = 0 then ((X12_isClip σ ).bind fun v43 =>
              if v43 = 0 then ((X12_isCross σ ).bind fun v50 =>
                if v50 = 0 then ((X12_isLook σ ).bind fun v57 =>
                  if v57 = 0 then ((X12_isFrom σ ).bind fun v64 =>
                    if v64 = 0 then ((X12_stateWord σ ).bind fun v73 =>
                      if 0 < v73 then (X12_isKept_j100 σ) else
                      ((X12_stepWord σ ).bind fun v80 =>
                        if 0 ≤ v80 then (X12_isKept_j100 σ) else
                        ((X12_testWord σ ).bind fun v87 =>
                          if 0 ≤ v87 then (X12_isKept_j100 σ) else
                          ((X12_isEnd σ ).bind fun v94 =>
                            if v94 = 0 then (some 0) else
                            (X12_isKept_j100 σ))))) else
                    (some 1)) else
                  (some 1)) else
                (some 1)) else
              (some 1)) else
            (some 1)) else
          (some 1)) else
        (some 1)) else
      (some 1)) else
    (some 1)) else
  (some 1)
def X12_isKept  (σ : SS)   : Option (Int32) := X12_isKept_j0  σ  
def X12_isName_j0  (σ : SS)   : Option (Int32) :=
  if (σ.1 11 0 14) = 1 then (if 8 < (σ.1 11 0 18) then (some 0) else
    ((X12_isKept σ ).bind fun v18 =>
      if v18 = 0 then (some 1) else
      (some 0))) else
  (some 0)
def X12_isName  (σ : SS)   : Option (Int32) := X12_isName_j0  σ  
def X12_fail_j0  (σ : SS)  (x1 : Int32) (x2 : Int32) : Option (SS) :=
  if (σ.1 11 0 12) ≤ 0 then ((some (wI σ 11 0 12 x1)).bind fun σ10 =>
    (some (wI σ10 11 0 13 x2)).bind fun σ15 =>
    some σ15) else
  (some σ)
def X12_fail  (σ : SS)  (x1 : Int32) (x2 : Int32) : Option (SS) := X12_fail_j0  σ  x1 x2
def X12_wrong_j14  (σ : SS)  (s1 : Int32) : Option (SS) :=
  (X12_fail σ s1 (σ.1 11 0 15)).bind fun σ18 =>
  some σ18
def X12_wrong_j0  (σ : SS)   : Option (SS) :=
  X12_wrong_j14 σ (if (σ.1 11 0 14) = 4 then 1 else 2)
def X12_wrong  (σ : SS)   : Option (SS) := X12_wrong_j0  σ  
def X12_must_j0  (σ : SS)  (x1 : Int32) : Option (SS) :=
  if (σ.1 11 0 12) ≤ 0 then (if x1 = 0 then ((X12_wrong σ ).bind fun σ20 =>
      some σ20) else
    ((X12_next σ ).bind fun σ13 =>
      some σ13)) else
  (some σ)
def X12_must  (σ : SS)  (x1 : Int32) : Option (SS) := X12_must_j0  σ  x1
def X12_count_j50  (σ : SS)   : Option (Int32 × SS) :=
  if (σ.1 11 0 12) ≤ 0 then ((some (σ.1 11 0 17)).bind fun x3_63 =>
    (X12_next σ ).bind fun σ65 =>
    some (x3_63, σ65)) else
  (some (0, σ))
def X12_count_j19  (σ : SS)  (x1 : Int32) (x2 : Int32) : Option (Int32 × SS) :=
  if (σ.1 11 0 12) = 0 then ((X12_isIn σ (Int32.toInt64 (σ.1 11 0 17)) (Int32.toInt64 x1) (Int32.toInt64 x2)).bind fun v35 =>
    if v35 = 0 then ((X12_fail σ 4 (σ.1 11 0 15)).bind fun σ47 =>
      X12_count_j50 σ47) else
    (X12_count_j50 σ)) else
  (X12_count_j50 σ)
def X12_count_j0  (σ : SS)  (x1 : Int32) (x2 : Int32) : Option (Int32 × SS) :=
  if (σ.1 11 0 12) = 0 then (if (σ.1 11 0 14) = 2 then (X12_count_j19 σ x1 x2) else
    ((X12_wrong σ ).bind fun σ16 =>
      X12_count_j19 σ16 x1 x2)) else
  (X12_count_j19 σ x1 x2)
def X12_count  (σ : SS)  (x1 : Int32) (x2 : Int32) : Option (Int32 × SS) := X12_count_j0  σ  x1 x2
def X12_lay_l2c  (σ : SS)  (x1 : Int32) (x2 : Int32) : Option ((Int32 × SS) ⊕ (SS)) :=
  if x2 < 0 then (some (Sum.inr σ)) else
  ((ck (LN 12 0) (σ.1 11 0 8)).bind fun j21 =>
    (some (wI σ 12 0 j21 (Int8.toInt32 (Int32.toInt8 (Int8.toInt32 (Int32.toInt8 (x1 >>> ((8 * x2) &&& 31)))))))).bind fun σ21 =>
    (some (wI σ21 11 0 8 ((σ21.1 11 0 8) + 1))).bind fun σ29 =>
    (some (x2 + (-1))).bind fun x2_32 =>
    some (Sum.inl (x2_32, σ29)))
def X12_lay_l2b    (x1 : Int32) : (Int32 × SS) → Option ((Int32 × SS) ⊕ (SS)) := fun ss => X12_lay_l2c  ss.2  x1 ss.1
def X12_lay_l2  (σ : SS)  (x1 : Int32) (x2 : Int32) : Option (SS) :=
  (iter (X12_lay_l2b    x1) NF (x2, σ)).bind fun t2 =>
  some t2
def X12_lay_j0  (σ : SS)  (x1 : Int32) : Option (SS) :=
  X12_lay_l2 σ x1 3
def X12_lay  (σ : SS)  (x1 : Int32) : Option (SS) := X12_lay_j0  σ  x1
def X12_feed_j0  (σ : SS)  (x1 : Int32) (x2 : Int32) (x3 : Int32) (x4 : Int32) (x5 : Int32) : Option (Int32 × SS) :=
  (some (wI σ 11 0 1 0)).bind fun σ2 =>
  if ((σ2.1 11 0 8) + 20) ≤ 900 then ((X12_lay σ2 x1).bind fun σ22 =>
    (X12_lay σ22 x2).bind fun σ27 =>
    (X12_lay σ27 x3).bind fun σ32 =>
    (X12_lay σ32 x4).bind fun σ38 =>
    (X12_lay σ38 x5).bind fun σ44 =>
    some ((σ44.1 11 0 8), σ44)) else
  (some ((-1), σ2))
def X12_feed  (σ : SS)  (x1 : Int32) (x2 : Int32) (x3 : Int32) (x4 : Int32) (x5 : Int32) : Option (Int32 × SS) := X12_feed_j0  σ  x1 x2 x3 x4 x5
def X12_starts_j17  (σ : SS)   : Option (Int32 × SS) :=
  (X12_no σ 5).bind fun p19 =>
  (zb p19.1).bind fun b22 =>
  some (p19.1, p19.2)
def X12_starts_j0  (σ : SS)  (x1 : Int32) (x2 : Int32) : Option (Int32 × SS) :=
  if x1 < 0 then (X12_starts_j17 σ) else
  (if (σ.1 11 0 8) < x1 then (X12_starts_j17 σ) else
    (if x1 ≤ x2 then ((some (wI σ 11 0 9 x1)).bind fun σ25 =>
        (some (wI σ25 11 0 8 0)).bind fun σ30 =>
        (some (wI σ30 11 0 16 0)).bind fun σ35 =>
        (some (wI σ35 11 0 12 0)).bind fun σ40 =>
        (X12_next σ40 ).bind fun σ44 =>
        some (1, σ44)) else
      (X12_starts_j17 σ)))
def X12_starts  (σ : SS)  (x1 : Int32) (x2 : Int32) : Option (Int32 × SS) := X12_starts_j0  σ  x1 x2
def X12_isWell_j43  (σ : SS)   : Option (Int32 × SS) :=
  some (1, σ)
def X12_isWell_j24  (σ : SS)  (s1 : Int32) : Option (Int32 × SS) :=
  (some (wI σ 11 0 11 s1)).bind fun σ24 =>
  if (σ24.1 11 0 12) = 0 then (X12_isWell_j43 σ24) else
  ((X12_no σ24 10).bind fun p37 =>
    if p37.1 = 0 then (some (0, p37.2)) else
    (X12_isWell_j43 p37.2))
def X12_isWell_j0  (σ : SS)   : Option (Int32 × SS) :=
  (some (wI σ 11 0 10 (σ.1 11 0 12))).bind fun σ5 =>
  X12_isWell_j24 σ5 (if (σ5.1 11 0 12) = 0 then (-1) else (σ5.1 11 0 13))
def X12_isWell  (σ : SS)   : Option (Int32 × SS) := X12_isWell_j0  σ  
def X12_fault_j0  (σ : SS)  (x1 : Int32) : Option (Int32 × SS) :=
  (some (wI σ 11 0 1 0)).bind fun σ2 =>
  if x1 = 0 then (some ((σ2.1 11 0 10), σ2)) else
  (if x1 = 1 then (some ((σ2.1 11 0 11), σ2)) else
    (some ((-1), σ2)))
def X12_fault  (σ : SS)  (x1 : Int32) : Option (Int32 × SS) := X12_fault_j0  σ  x1
def X12_leadNamed_l2c  (σ : SS)  (x1 : Int32) (x2 : Int32) : Option ((Int32) ⊕ ((Int32) ⊕ (Unit))) :=
  (ck (LN 13 34) (410 * x1)).bind fun j12 =>
  if (σ.1 13 34 j12) ≤ x2 then (some (Sum.inr (Sum.inr ()))) else
  ((ck (LN 14 7) ((11 * x1) + x2)).bind fun j26 =>
    if (lg_cmp (σ.2 14 7 j26) (σ.2 11 0 19)) = 0 then (some (Sum.inr (Sum.inl x2))) else
    ((some (x2 + 1)).bind fun x2_37 =>
      some (Sum.inl x2_37)))
def X12_leadNamed_l2b  (σ : SS)  (x1 : Int32) : (Int32) → Option ((Int32) ⊕ ((Int32) ⊕ (Unit))) := fun ss => X12_leadNamed_l2c  σ  x1 ss
def X12_leadNamed_l2  (σ : SS)  (x1 : Int32) (x2 : Int32) : Option (Int32) :=
  (iter (X12_leadNamed_l2b  σ  x1) NF x2).bind fun t2 => match t2 with
  | Sum.inl e35 => some e35
  | Sum.inr u35 => (some (-1))
def X12_leadNamed_j0  (σ : SS)  (x1 : Int32) : Option (Int32) :=
  X12_leadNamed_l2 σ x1 0
def X12_leadNamed  (σ : SS)  (x1 : Int32) : Option (Int32) := X12_leadNamed_j0  σ  x1
def X12_isLookNamed_l2c  (σ : SS)   (x1 : Int32) : Option ((Int32) ⊕ ((Unit) ⊕ (Unit))) :=
  (ck (LN 13 34) 1642).bind fun j10 =>
  if (σ.1 13 34 j10) ≤ x1 then (some (Sum.inr (Sum.inr ()))) else
  ((ck (LN 14 7) (52 + x1)).bind fun j22 =>
    if (lg_cmp (σ.2 14 7 j22) (σ.2 11 0 19)) = 0 then (some (Sum.inr (Sum.inl ()))) else
    ((some (x1 + 1)).bind fun x1_33 =>
      some (Sum.inl x1_33)))
def X12_isLookNamed_l2b  (σ : SS)   : (Int32) → Option ((Int32) ⊕ ((Unit) ⊕ (Unit))) := fun ss => X12_isLookNamed_l2c  σ   ss
def X12_isLookNamed_l2  (σ : SS)  (x1 : Int32) : Option (Int32) :=
  (iter (X12_isLookNamed_l2b  σ  ) NF x1).bind fun t2 => match t2 with
  | Sum.inl e31 => some 1
  | Sum.inr u31 => (some 0)
def X12_isLookNamed_j0  (σ : SS)   : Option (Int32) :=
  X12_isLookNamed_l2 σ 0
def X12_isLookNamed  (σ : SS)   : Option (Int32) := X12_isLookNamed_j0  σ  
def X12_readNew_j46  (σ : SS)  (x1 : Int32) : Option (SS) :=
  if (σ.1 11 0 12) ≤ 0 then ((ck (LN 14 7) (44 + x1)).bind fun j66 =>
    (some (wJ σ 14 7 j66 (σ.2 11 0 19))).bind fun σ66 =>
    (X12_next σ66 ).bind fun σ68 =>
    some σ68) else
  (some σ)
def X12_readNew_j37  (σ : SS)  (x1 : Int32) : Option (SS) :=
  (X12_fail σ 3 (σ.1 11 0 15)).bind fun σ43 =>
  X12_readNew_j46 σ43 x1
def X12_readNew_j15  (σ : SS)  (x1 : Int32) : Option (SS) :=
  if (σ.1 11 0 12) = 0 then ((X12_leadNamed σ 4).bind fun v24 =>
    if 0 ≤ v24 then (X12_readNew_j37 σ x1) else
    ((X12_isLookNamed σ ).bind fun v31 =>
      if v31 = 0 then (X12_readNew_j46 σ x1) else
      (X12_readNew_j37 σ x1))) else
  (X12_readNew_j46 σ x1)
def X12_readNew_j0  (σ : SS)  (x1 : Int32) : Option (SS) :=
  (X12_next σ ).bind fun σ1 =>
  (X12_isName σ1 ).bind fun v5 =>
  if v5 = 0 then ((X12_wrong σ1 ).bind fun σ12 =>
    X12_readNew_j15 σ12 x1) else
  (X12_readNew_j15 σ1 x1)
def X12_readNew  (σ : SS)  (x1 : Int32) : Option (SS) := X12_readNew_j0  σ  x1
def X12_told_j46  (σ : SS)  (x2 : Int32) : Option (Int32 × SS) :=
  some ((imax 0 x2), σ)
def X12_told_j18  (σ : SS)  (x1 : Int32) : Option (Int32 × SS) :=
  if (σ.1 11 0 12) ≤ 0 then ((X12_leadNamed σ x1).bind fun v29 =>
    if 0 ≤ v29 then (X12_told_j46 σ v29) else
    ((X12_fail σ 3 (σ.1 11 0 15)).bind fun σ43 =>
      X12_told_j46 σ43 v29)) else
  (some (0, σ))
def X12_told_j0  (σ : SS)  (x1 : Int32) : Option (Int32 × SS) :=
  if (σ.1 11 0 12) = 0 then ((X12_isName σ ).bind fun v8 =>
    if v8 = 0 then ((X12_wrong σ ).bind fun σ15 =>
      X12_told_j18 σ15 x1) else
    (X12_told_j18 σ x1)) else
  (X12_told_j18 σ x1)
def X12_told  (σ : SS)  (x1 : Int32) : Option (Int32 × SS) := X12_told_j0  σ  x1
def X12_readTold_j0  (σ : SS)  (x1 : Int32) : Option (Int32 × SS) :=
  (X12_told σ x1).bind fun p2 =>
  (X12_must p2.2 1).bind fun σ8 =>
  some (p2.1, σ8)
def X12_readTold  (σ : SS)  (x1 : Int32) : Option (Int32 × SS) := X12_readTold_j0  σ  x1
def X12_readLead_j275  (σ : SS)  (x1 : Int32) : Option (SS) :=
  if (σ.1 11 0 12) ≤ 0 then ((ck (LN 13 34) 1643).bind fun j291 =>
    (ck (LN 13 34) 1643).bind fun j296 =>
    (some (wI σ 13 34 j296 ((σ.1 13 34 j291) ||| (1 <<< (x1 &&& 31))))).bind fun σ296 =>
    (ck (LN 13 34) 1640).bind fun j305 =>
    (ck (LN 13 34) 1640).bind fun j308 =>
    (some (wI σ296 13 34 j308 ((σ296.1 13 34 j305) + 1))).bind fun σ308 =>
    some σ308) else
  (some σ)
def X12_readLead_j243  (σ : SS)  (x1 : Int32) : Option (SS) :=
  if (σ.1 11 0 12) = 0 then ((X12_isClip σ ).bind fun v251 =>
    if v251 = 0 then (X12_readLead_j275 σ x1) else
    ((ck (LN 13 34) 1644).bind fun j265 =>
      (ck (LN 13 34) 1644).bind fun j270 =>
      (some (wI σ 13 34 j270 ((σ.1 13 34 j265) ||| (1 <<< (x1 &&& 31))))).bind fun σ270 =>
      (X12_next σ270 ).bind fun σ272 =>
      X12_readLead_j275 σ272 x1)) else
  (X12_readLead_j275 σ x1)
def X12_readLead_j208  (σ : SS)  (x1 : Int32) : Option (SS) :=
  if (σ.1 11 0 12) = 0 then ((X12_isUsed σ ).bind fun v216 =>
    if v216 = 0 then (X12_readLead_j243 σ x1) else
    ((X12_next σ ).bind fun σ223 =>
      (X12_count σ223 0 16).bind fun p239 =>
      (ck (LN 13 34) (1688 + x1)).bind fun j242 =>
      (some (wI p239.2 13 34 j242 p239.1)).bind fun σ242 =>
      X12_readLead_j243 σ242 x1)) else
  (X12_readLead_j243 σ x1)
def X12_readLead_j172  (σ : SS)  (x1 : Int32) : Option (SS) :=
  if (σ.1 11 0 12) = 0 then ((X12_isCosts σ ).bind fun v180 =>
    if v180 = 0 then (X12_readLead_j208 σ x1) else
    ((X12_next σ ).bind fun σ187 =>
      (X12_count σ187 0 999).bind fun p204 =>
      (ck (LN 13 34) (1680 + x1)).bind fun j207 =>
      (some (wI p204.2 13 34 j207 p204.1)).bind fun σ207 =>
      X12_readLead_j208 σ207 x1)) else
  (X12_readLead_j208 σ x1)
def X12_readLead_j120  (σ : SS)  (x1 : Int32) : Option (SS) :=
  if (σ.1 11 0 12) = 0 then ((X12_isEnds σ ).bind fun v128 =>
    if v128 = 0 then (X12_readLead_j172 σ x1) else
    ((X12_next σ ).bind fun σ135 =>
      (X12_count σ135 1 9).bind fun p151 =>
      (ck (LN 13 34) (1664 + x1)).bind fun j154 =>
      (some (wI p151.2 13 34 j154 p151.1)).bind fun σ154 =>
      (X12_count σ154 1 9).bind fun p168 =>
      (ck (LN 13 34) (1672 + x1)).bind fun j171 =>
      (some (wI p168.2 13 34 j171 p168.1)).bind fun σ171 =>
      X12_readLead_j172 σ171 x1)) else
  (X12_readLead_j172 σ x1)
def X12_readLead_j25  (σ : SS)  (x1 : Int32) : Option (SS) :=
  if (σ.1 11 0 12) ≤ 0 then ((X12_readNew σ x1).bind fun σ35 =>
    (X12_isLong σ35 ).bind fun v40 =>
    (X12_must σ35 v40).bind fun σ43 =>
    (X12_count σ43 1 30).bind fun p59 =>
    (ck (LN 13 34) (1648 + x1)).bind fun j62 =>
    (some (wI p59.2 13 34 j62 p59.1)).bind fun σ62 =>
    (ck (LN 13 34) (1664 + x1)).bind fun j73 =>
    (some (wI σ62 13 34 j73 3)).bind fun σ73 =>
    (ck (LN 13 34) (1672 + x1)).bind fun j84 =>
    (some (wI σ73 13 34 j84 3)).bind fun σ84 =>
    if (σ84.1 11 0 12) = 0 then ((X12_isStiff σ84 ).bind fun v93 =>
      if v93 = 0 then (X12_readLead_j120 σ84 x1) else
      ((X12_next σ84 ).bind fun σ100 =>
        (X12_count σ100 0 9).bind fun p116 =>
        (ck (LN 13 34) (1656 + x1)).bind fun j119 =>
        (some (wI p116.2 13 34 j119 p116.1)).bind fun σ119 =>
        X12_readLead_j120 σ119 x1)) else
    (X12_readLead_j120 σ84 x1)) else
  (some σ)
def X12_readLead_j0  (σ : SS)   : Option (SS) :=
  (ck (LN 13 34) 1640).bind fun j7 =>
  (some (σ.1 13 34 j7)).bind fun x1_8 =>
  if x1_8 = 8 then ((X12_fail σ 6 (σ.1 11 0 15)).bind fun σ22 =>
    X12_readLead_j25 σ22 x1_8) else
  (X12_readLead_j25 σ x1_8)
def X12_readLead  (σ : SS)   : Option (SS) := X12_readLead_j0  σ  
def X12_readCross_j148  (σ : SS)  (x1 : Int32) (x2 : Int32) (x3 : Int32) (x4 : Int32) : Option (SS) :=
  if (σ.1 11 0 12) ≤ 0 then ((ck (LN 13 34) (1700 + x1)).bind fun j166 =>
    (some (wI σ 13 34 j166 x2)).bind fun σ166 =>
    (ck (LN 13 34) (1724 + x1)).bind fun j177 =>
    (some (wI σ166 13 34 j177 x3)).bind fun σ177 =>
    (ck (LN 13 34) (1748 + x1)).bind fun j189 =>
    (some (wI σ177 13 34 j189 x4)).bind fun σ189 =>
    (ck (LN 13 34) 1641).bind fun j198 =>
    (ck (LN 13 34) 1641).bind fun j201 =>
    (some (wI σ189 13 34 j201 ((σ189.1 13 34 j198) + 1))).bind fun σ201 =>
    some σ201) else
  (some σ)
def X12_readCross_j121  (σ : SS)  (x1 : Int32) (x2 : Int32) (x3 : Int32) : Option (SS) :=
  (X12_must σ 1).bind fun σ123 =>
  (X12_stateWord σ123 ).bind fun v127 =>
  if (σ123.1 11 0 12) = 0 then (if v127 ≤ 0 then (X12_readCross_j148 σ123 x1 x2 x3 v127) else
    ((X12_next σ123 ).bind fun σ145 =>
      X12_readCross_j148 σ145 x1 x2 x3 v127)) else
  (X12_readCross_j148 σ123 x1 x2 x3 v127)
def X12_readCross_j112  (σ : SS)  (x1 : Int32) (x2 : Int32) (x3 : Int32) : Option (SS) :=
  (X12_fail σ 5 (σ.1 11 0 15)).bind fun σ118 =>
  X12_readCross_j121 σ118 x1 x2 x3
def X12_readCross_j74  (σ : SS)  (x1 : Int32) (x2 : Int32) : Option (SS) :=
  (X12_must σ 1).bind fun σ76 =>
  (X12_told σ76 4).bind fun p81 =>
  if (p81.2.1 11 0 12) = 0 then (if p81.1 = x2 then (X12_readCross_j112 p81.2 x1 x2 p81.1) else
    ((ck (LN 13 34) 1644).bind fun j104 =>
      (X12_has p81.2 (p81.2.1 13 34 j104) p81.1).bind fun v106 =>
      if v106 = 0 then (X12_readCross_j121 p81.2 x1 x2 p81.1) else
      (X12_readCross_j112 p81.2 x1 x2 p81.1))) else
  (X12_readCross_j121 p81.2 x1 x2 p81.1)
def X12_readCross_j25  (σ : SS)  (x1 : Int32) : Option (SS) :=
  if (σ.1 11 0 12) ≤ 0 then ((X12_next σ ).bind fun σ34 =>
    (X12_told σ34 4).bind fun p39 =>
    if (p39.2.1 11 0 12) = 0 then ((ck (LN 13 34) 1644).bind fun j57 =>
      (X12_has p39.2 (p39.2.1 13 34 j57) p39.1).bind fun v59 =>
      if v59 = 0 then (X12_readCross_j74 p39.2 x1 p39.1) else
      ((X12_fail p39.2 5 (p39.2.1 11 0 15)).bind fun σ71 =>
        X12_readCross_j74 σ71 x1 p39.1)) else
    (X12_readCross_j74 p39.2 x1 p39.1)) else
  (some σ)
def X12_readCross_j0  (σ : SS)   : Option (SS) :=
  (ck (LN 13 34) 1641).bind fun j7 =>
  (some (σ.1 13 34 j7)).bind fun x1_8 =>
  if x1_8 = 24 then ((X12_fail σ 6 (σ.1 11 0 15)).bind fun σ22 =>
    X12_readCross_j25 σ22 x1_8) else
  (X12_readCross_j25 σ x1_8)
def X12_readCross  (σ : SS)   : Option (SS) := X12_readCross_j0  σ  
def X12_readLook_j112  (σ : SS)  (x1 : Int32) (x2 : Int32) (s0 : Int32) : Option ((Int32 × Int32 × SS) ⊕ (Int32 × SS)) :=
  some (Sum.inl (x2, s0, σ))
def X12_readLook_j87  (σ : SS)  (x1 : Int32) (x2 : Int32) (x4 : Int32) : Option ((Int32 × Int32 × SS) ⊕ (Int32 × SS)) :=
  (X12_must σ 1).bind fun σ89 =>
  (some (x2 ||| (1 <<< (x4 &&& 31)))).bind fun x2_98 =>
  X12_readLook_j112 σ89 x1 x2_98 (if (σ89.1 11 0 14) = 1 then 1 else 0)
def X12_readLook_l44c  (σ : SS)  (x1 : Int32) (x2 : Int32) (x3 : Int32) : Option ((Int32 × Int32 × SS) ⊕ (Int32 × SS)) :=
  if (σ.1 11 0 12) = 0 then (if x3 = 0 then (some (Sum.inr (x2, σ))) else
    ((X12_told σ 4).bind fun p57 =>
      if (p57.2.1 11 0 12) = 0 then ((X12_has p57.2 x2 p57.1).bind fun v72 =>
        if v72 = 0 then (X12_readLook_j87 p57.2 x1 x2 p57.1) else
        ((X12_fail p57.2 5 (p57.2.1 11 0 15)).bind fun σ84 =>
          X12_readLook_j87 σ84 x1 x2 p57.1)) else
      (X12_readLook_j87 p57.2 x1 x2 p57.1))) else
  (some (Sum.inr (x2, σ)))
def X12_readLook_l44b    (x1 : Int32) : (Int32 × Int32 × SS) → Option ((Int32 × Int32 × SS) ⊕ (Int32 × SS)) := fun ss => X12_readLook_l44c  ss.2.2  x1 ss.1 ss.2.1
def X12_readLook_j116  (σ : SS)  (x1 : Int32) (x2 : Int32) : Option (SS) :=
  if (σ.1 11 0 12) ≤ 0 then ((ck (LN 13 34) (1696 + x1)).bind fun j134 =>
    (some (wI σ 13 34 j134 x2)).bind fun σ134 =>
    (ck (LN 13 34) 1642).bind fun j143 =>
    (ck (LN 13 34) 1642).bind fun j146 =>
    (some (wI σ134 13 34 j146 ((σ134.1 13 34 j143) + 1))).bind fun σ146 =>
    some σ146) else
  (some σ)
def X12_readLook_l44  (σ : SS)  (x1 : Int32) (x2 : Int32) (x3 : Int32) : Option (SS) :=
  (iter (X12_readLook_l44b    x1) NF (x2, x3, σ)).bind fun t44 =>
  X12_readLook_j116 t44.2 x1 t44.1
def X12_readLook_j24  (σ : SS)  (x1 : Int32) : Option (SS) :=
  if (σ.1 11 0 12) ≤ 0 then ((X12_readNew σ (8 + x1)).bind fun σ37 =>
    X12_readLook_l44 σ37 x1 0 1) else
  (some σ)
def X12_readLook_j0  (σ : SS)   : Option (SS) :=
  (ck (LN 13 34) 1642).bind fun j7 =>
  (some (σ.1 13 34 j7)).bind fun x1_8 =>
  if x1_8 = 3 then ((X12_fail σ 6 (σ.1 11 0 15)).bind fun σ21 =>
    X12_readLook_j24 σ21 x1_8) else
  (X12_readLook_j24 σ x1_8)
def X12_readLook  (σ : SS)   : Option (SS) := X12_readLook_j0  σ  
def X12_copy_l2c  (σ : SS)  (x1 : Int32) (x2 : Int32) (x3 : Int32) : Option ((Int32 × SS) ⊕ (SS)) :=
  if 410 ≤ x3 then (some (Sum.inr σ)) else
  ((ck (LN 13 34) ((410 * x1) + x3)).bind fun j31 =>
    (ck (LN 13 34) ((410 * x2) + x3)).bind fun j32 =>
    (some (wI σ 13 34 j32 (σ.1 13 34 j31))).bind fun σ32 =>
    (some (x3 + 1)).bind fun x3_33 =>
    some (Sum.inl (x3_33, σ32)))
def X12_copy_l2b    (x1 : Int32) (x2 : Int32) : (Int32 × SS) → Option ((Int32 × SS) ⊕ (SS)) := fun ss => X12_copy_l2c  ss.2  x1 x2 ss.1
def X12_copy_l41c  (σ : SS)  (x1 : Int32) (x2 : Int32) (x3 : Int32) : Option ((Int32 × SS) ⊕ (SS)) :=
  if 11 ≤ x3 then (some (Sum.inr σ)) else
  ((ck (LN 14 7) ((11 * x1) + x3)).bind fun j67 =>
    (ck (LN 14 7) ((11 * x2) + x3)).bind fun j68 =>
    (some (wJ σ 14 7 j68 (σ.2 14 7 j67))).bind fun σ68 =>
    (some (x3 + 1)).bind fun x3_69 =>
    some (Sum.inl (x3_69, σ68)))
def X12_copy_l41b    (x1 : Int32) (x2 : Int32) : (Int32 × SS) → Option ((Int32 × SS) ⊕ (SS)) := fun ss => X12_copy_l41c  ss.2  x1 x2 ss.1
def X12_copy_l41  (σ : SS)  (x1 : Int32) (x2 : Int32) (x3 : Int32) : Option (SS) :=
  (iter (X12_copy_l41b    x1 x2) NF (x3, σ)).bind fun t41 =>
  some t41
def X12_copy_l2  (σ : SS)  (x1 : Int32) (x2 : Int32) (x3 : Int32) : Option (SS) :=
  (iter (X12_copy_l2b    x1 x2) NF (x3, σ)).bind fun t2 =>
  X12_copy_l41 t2 x1 x2 0
def X12_copy_j0  (σ : SS)  (x1 : Int32) (x2 : Int32) : Option (SS) :=
  X12_copy_l2 σ x1 x2 0
def X12_copy  (σ : SS)  (x1 : Int32) (x2 : Int32) : Option (SS) := X12_copy_j0  σ  x1 x2
def X12_drawer_l25c  (σ : SS)   (x2 : Int32) : Option ((Int32 × SS) ⊕ (SS)) :=
  if 410 ≤ x2 then (some (Sum.inr σ)) else
  ((ck (LN 13 34) (1640 + x2)).bind fun j42 =>
    (some (wI σ 13 34 j42 0)).bind fun σ42 =>
    (some (x2 + 1)).bind fun x2_43 =>
    some (Sum.inl (x2_43, σ42)))
def X12_drawer_l25b     : (Int32 × SS) → Option ((Int32 × SS) ⊕ (SS)) := fun ss => X12_drawer_l25c  ss.2   ss.1
def X12_drawer_j109  (σ : SS)   : Option ((SS) ⊕ (SS)) :=
  (X12_isSign σ 59).bind fun v113 =>
  (X12_must σ v113).bind fun σ116 =>
  some (Sum.inl σ116)
def X12_drawer_l49c  (σ : SS)    : Option ((SS) ⊕ (SS)) :=
  if (σ.1 11 0 12) = 0 then (if (σ.1 11 0 14) = 0 then (some (Sum.inr σ)) else
    ((X12_isLead σ ).bind fun v64 =>
      if v64 = 0 then ((X12_isCross σ ).bind fun v78 =>
        if v78 = 0 then ((X12_isLook σ ).bind fun v92 =>
          if v92 = 0 then ((X12_wrong σ ).bind fun σ106 =>
            X12_drawer_j109 σ106) else
          ((X12_readLook σ ).bind fun σ99 =>
            X12_drawer_j109 σ99)) else
        ((X12_readCross σ ).bind fun σ85 =>
          X12_drawer_j109 σ85)) else
      ((X12_readLead σ ).bind fun σ71 =>
        X12_drawer_j109 σ71))) else
  (some (Sum.inr σ))
def X12_drawer_l49b     : (SS) → Option ((SS) ⊕ (SS)) := fun ss => X12_drawer_l49c  ss   
def X12_drawer_j122  (σ : SS)   : Option (Int32 × SS) :=
  (X12_isWell σ ).bind fun p123 =>
  if p123.1 = 0 then (some ((-1), p123.2)) else
  ((X12_copy p123.2 4 0).bind fun σ134 =>
    (ck (LN 13 34) 0).bind fun j142 =>
    some ((σ134.1 13 34 j142), σ134))
def X12_drawer_l49  (σ : SS)   : Option (Int32 × SS) :=
  (iter (X12_drawer_l49b    ) NF σ).bind fun t49 =>
  X12_drawer_j122 t49
def X12_drawer_l25  (σ : SS)  (x2 : Int32) : Option (Int32 × SS) :=
  (iter (X12_drawer_l25b    ) NF (x2, σ)).bind fun t25 =>
  X12_drawer_l49 t25
def X12_drawer_j0  (σ : SS)  (x1 : Int32) : Option (Int32 × SS) :=
  (some (wI σ 11 0 1 0)).bind fun σ2 =>
  (some (wI σ2 11 0 0 0)).bind fun σ7 =>
  (X12_starts σ7 x1 900).bind fun p15 =>
  if p15.1 = 0 then (some ((-1), p15.2)) else
  (X12_drawer_l25 p15.2 0)
def X12_drawer  (σ : SS)  (x1 : Int32) : Option (Int32 × SS) := X12_drawer_j0  σ  x1
def X12_readTest_j140  (σ : SS)  (s1 : Int32) (s3 : Int32) (s4 : Int32) : Option (SS) :=
  (X12_count σ s3 s4).bind fun p140 =>
  (ck (LN 13 34) s1).bind fun j143 =>
  (some (wI p140.2 13 34 j143 p140.1)).bind fun σ143 =>
  some σ143
def X12_readTest_j117  (σ : SS)  (x1 : Int32) (x2 : Int32) (s1 : Int32) : Option (SS) :=
  (X12_must σ s1).bind fun σ117 =>
  X12_readTest_j140 σ117 (x1 + 2) 0 (if x2 = 0 then 8 else 24)
def X12_readTest_j112  (σ : SS)  (x1 : Int32) (x2 : Int32) : Option (SS) :=
  X12_readTest_j117 σ x1 x2 1
def X12_readTest_j83  (σ : SS)  (x1 : Int32) (x2 : Int32) (s1 : Int32) (s2 : Int32) : Option (SS) :=
  (ck (LN 13 34) s1).bind fun j83 =>
  (some (wI σ 13 34 j83 s2)).bind fun σ83 =>
  (X12_isSign σ83 60).bind fun v88 =>
  if v88 = 0 then ((X12_isSign σ83 62).bind fun v97 =>
    if v97 = 0 then ((X12_isSign σ83 61).bind fun v106 =>
      if v106 = 0 then (X12_readTest_j117 σ83 x1 x2 0) else
      (X12_readTest_j112 σ83 x1 x2)) else
    (X12_readTest_j112 σ83 x1 x2)) else
  (X12_readTest_j112 σ83 x1 x2)
def X12_readTest_j46  (σ : SS)  (x1 : Int32) (x2 : Int32) : Option (SS) :=
  if 0 < (σ.1 11 0 12) then (some σ) else
  (if x2 = 2 then (some σ) else
    (X12_readTest_j83 σ x1 x2 (x1 + 7) (if (σ.1 11 0 14) = 3 then (σ.1 11 0 17) else 0)))
def X12_readTest_j15  (σ : SS)  (x1 : Int32) (x2 : Int32) (s1 : Int32) : Option (SS) :=
  (X12_must σ s1).bind fun σ15 =>
  (ck (LN 13 34) (x1 + 6)).bind fun j27 =>
  (some (wI σ15 13 34 j27 x2)).bind fun σ27 =>
  if x2 = 2 then ((X12_readTold σ27 0).bind fun p42 =>
    (ck (LN 13 34) (x1 + 1)).bind fun j45 =>
    (some (wI p42.2 13 34 j45 p42.1)).bind fun σ45 =>
    X12_readTest_j46 σ45 x1 x2) else
  (X12_readTest_j46 σ27 x1 x2)
def X12_readTest_j0  (σ : SS)  (x1 : Int32) : Option (SS) :=
  (X12_testWord σ ).bind fun v1 =>
  X12_readTest_j15 σ x1 v1 (if v1 < 0 then 0 else 1)
def X12_readTest  (σ : SS)  (x1 : Int32) : Option (SS) := X12_readTest_j0  σ  x1
def X12_readRest_j31  (σ : SS)  (x1 : Int32) : Option (SS) :=
  (X12_count σ 1 99).bind fun p42 =>
  (ck (LN 13 34) (x1 + 1)).bind fun j45 =>
  (some (wI p42.2 13 34 j45 p42.1)).bind fun σ45 =>
  some σ45
def X12_readRest_j0  (σ : SS)  (x1 : Int32) : Option (SS) :=
  (ck (LN 13 34) x1).bind fun j5 =>
  (some (σ.1 13 34 j5)).bind fun x2_6 =>
  if x2_6 = 6 then ((X12_readTest σ x1).bind fun σ15 =>
    some σ15) else
  (if x2_6 = 0 then (X12_readRest_j31 σ x1) else
    (if x2_6 = 7 then (X12_readRest_j31 σ x1) else
      (if x2_6 = 2 then (some σ) else
        (if 6 ≤ x2_6 then (some σ) else
          ((X12_readTold σ 0).bind fun p69 =>
            (ck (LN 13 34) (x1 + 1)).bind fun j72 =>
            (some (wI p69.2 13 34 j72 p69.1)).bind fun σ72 =>
            some σ72)))))
def X12_readRest  (σ : SS)  (x1 : Int32) : Option (SS) := X12_readRest_j0  σ  x1
def X12_readStep_l142c (rec_X12_readStep : SS → Int32 → Option SS) (σ : SS)  (x1 : Int32) (x3 : Int32) (x4 : Int32)  : Option ((SS) ⊕ (SS)) :=
  if x3 = 0 then (some (Sum.inr σ)) else
  (if (σ.1 11 0 12) = 0 then ((X12_isEnd σ ).bind fun v154 =>
      if v154 = 0 then ((rec_X12_readStep σ (x1 + 1)).bind fun σ164 =>
        some (Sum.inl σ164)) else
      (some (Sum.inr σ))) else
    (some (Sum.inr σ)))
def X12_readStep_l142b (rec_X12_readStep : SS → Int32 → Option SS)   (x1 : Int32) (x3 : Int32) (x4 : Int32) : (SS) → Option ((SS) ⊕ (SS)) := fun ss => X12_readStep_l142c rec_X12_readStep ss  x1 x3 x4 
def X12_readStep_j192 (rec_X12_readStep : SS → Int32 → Option SS) (σ : SS)  (x4 : Int32) : Option (SS) :=
  (ck (LN 13 34) (x4 + 8)).bind fun j205 =>
  (some (wI σ 13 34 j205 (σ.1 11 0 24))).bind fun σ205 =>
  some σ205
def X12_readStep_j170 (rec_X12_readStep : SS → Int32 → Option SS) (σ : SS)  (x3 : Int32) (x4 : Int32) : Option (SS) :=
  if x3 = 0 then (X12_readStep_j192 rec_X12_readStep σ x4) else
  ((X12_isEnd σ ).bind fun v176 =>
    (X12_must σ v176).bind fun σ179 =>
    (X12_isSign σ179 59).bind fun v186 =>
    (X12_must σ179 v186).bind fun σ189 =>
    X12_readStep_j192 rec_X12_readStep σ189 x4)
def X12_readStep_l142 (rec_X12_readStep : SS → Int32 → Option SS) (σ : SS)  (x1 : Int32) (x3 : Int32) (x4 : Int32) : Option (SS) :=
  (iter (X12_readStep_l142b rec_X12_readStep   x1 x3 x4) NF σ).bind fun t142 =>
  X12_readStep_j170 rec_X12_readStep t142 x3 x4
def X12_readStep_j83 (rec_X12_readStep : SS → Int32 → Option SS) (σ : SS)  (x1 : Int32) (x2 : Int32) (x3 : Int32) : Option (SS) :=
  if (σ.1 11 0 12) ≤ 0 then ((some (1774 + (9 * (σ.1 11 0 24)))).bind fun x4_102 =>
    (some (wI σ 11 0 24 ((σ.1 11 0 24) + 1))).bind fun σ111 =>
    (X12_next σ111 ).bind fun σ115 =>
    (ck (LN 13 34) x4_102).bind fun j125 =>
    (some (wI σ115 13 34 j125 x2)).bind fun σ125 =>
    (X12_readRest σ125 x4_102).bind fun σ129 =>
    (X12_isSign σ129 59).bind fun v136 =>
    (X12_must σ129 v136).bind fun σ139 =>
    X12_readStep_l142 rec_X12_readStep σ139 x1 x3 x4_102) else
  (some σ)
def X12_readStep_j57 (rec_X12_readStep : SS → Int32 → Option SS) (σ : SS)  (x1 : Int32) (x2 : Int32) (x3 : Int32) : Option (SS) :=
  if (σ.1 11 0 12) = 0 then (if x3 = 0 then (X12_readStep_j83 rec_X12_readStep σ x1 x2 x3) else
    (if x1 = 3 then ((X12_fail σ 7 (σ.1 11 0 15)).bind fun σ80 =>
        X12_readStep_j83 rec_X12_readStep σ80 x1 x2 x3) else
      (X12_readStep_j83 rec_X12_readStep σ x1 x2 x3))) else
  (X12_readStep_j83 rec_X12_readStep σ x1 x2 x3)
def X12_readStep_j31 (rec_X12_readStep : SS → Int32 → Option SS) (σ : SS)  (x1 : Int32) (x2 : Int32) (x3 : Int32) : Option (SS) :=
  if (σ.1 11 0 12) = 0 then (if (σ.1 11 0 24) = 30 then ((X12_fail σ 6 (σ.1 11 0 15)).bind fun σ54 =>
      X12_readStep_j57 rec_X12_readStep σ54 x1 x2 x3) else
    (X12_readStep_j57 rec_X12_readStep σ x1 x2 x3)) else
  (X12_readStep_j57 rec_X12_readStep σ x1 x2 x3)
def X12_readStep_j22 (rec_X12_readStep : SS → Int32 → Option SS) (σ : SS)  (x1 : Int32) (x2 : Int32) (s0 : Int32) : Option (SS) :=
  if 0 ≤ x2 then (X12_readStep_j31 rec_X12_readStep σ x1 x2 s0) else
  ((X12_wrong σ ).bind fun σ28 =>
    X12_readStep_j31 rec_X12_readStep σ28 x1 x2 s0)
def X12_readStep_j17 (rec_X12_readStep : SS → Int32 → Option SS) (σ : SS)  (x1 : Int32) (x2 : Int32) : Option (SS) :=
  X12_readStep_j22 rec_X12_readStep σ x1 x2 1
def X12_readStep_j0 (rec_X12_readStep : SS → Int32 → Option SS) (σ : SS)  (x1 : Int32) : Option (SS) :=
  (X12_stepWord σ ).bind fun v1 =>
  if v1 = 6 then (X12_readStep_j17 rec_X12_readStep σ x1 v1) else
  (if v1 = 7 then (X12_readStep_j17 rec_X12_readStep σ x1 v1) else
    (X12_readStep_j22 rec_X12_readStep σ x1 v1 0))
def X12_readStep (rec_X12_readStep : SS → Int32 → Option SS) (σ : SS)  (x1 : Int32) : Option (SS) := X12_readStep_j0 rec_X12_readStep σ  x1
def X12_readStepN : Nat → SS → Int32 → Option SS
  | 0 => fun _ _ => none
  | n + 1 => X12_readStep (X12_readStepN n)
def X12_years_l28c  (σ : SS)    : Option ((SS) ⊕ (SS)) :=
  if (σ.1 11 0 12) = 0 then (if (σ.1 11 0 14) = 0 then (some (Sum.inr σ)) else
    ((X12_readStepN 5 σ 0).bind fun σ44 =>
      some (Sum.inl σ44))) else
  (some (Sum.inr σ))
def X12_years_l28b     : (SS) → Option ((SS) ⊕ (SS)) := fun ss => X12_years_l28c  ss   
def X12_years_l82c  (σ : SS)   (x2 : Int32) : Option ((Int32 × SS) ⊕ (SS)) :=
  if (9 * (σ.1 11 0 24)) ≤ x2 then (some (Sum.inr σ)) else
  ((ck (LN 13 34) (1774 + x2)).bind fun j111 =>
    (ck (LN 13 34) (134 + x2)).bind fun j112 =>
    (some (wI σ 13 34 j112 (σ.1 13 34 j111))).bind fun σ112 =>
    (some (x2 + 1)).bind fun x2_113 =>
    some (Sum.inl (x2_113, σ112)))
def X12_years_l82b     : (Int32 × SS) → Option ((Int32 × SS) ⊕ (SS)) := fun ss => X12_years_l82c  ss.2   ss.1
def X12_years_l82  (σ : SS)  (x2 : Int32) : Option (Int32 × SS) :=
  (iter (X12_years_l82b    ) NF (x2, σ)).bind fun t82 =>
  some ((t82.1 11 0 24), t82)
def X12_years_j50  (σ : SS)   : Option (Int32 × SS) :=
  (X12_isWell σ ).bind fun p51 =>
  if p51.1 = 0 then (some ((-1), p51.2)) else
  ((ck (LN 13 34) 132).bind fun j67 =>
    (some (wI p51.2 13 34 j67 1)).bind fun σ67 =>
    (ck (LN 13 34) 133).bind fun j79 =>
    (some (wI σ67 13 34 j79 (σ67.1 11 0 24))).bind fun σ79 =>
    X12_years_l82 σ79 0)
def X12_years_l28  (σ : SS)   : Option (Int32 × SS) :=
  (iter (X12_years_l28b    ) NF σ).bind fun t28 =>
  X12_years_j50 t28
def X12_years_j0  (σ : SS)  (x1 : Int32) : Option (Int32 × SS) :=
  (some (wI σ 11 0 1 0)).bind fun σ2 =>
  (some (wI σ2 11 0 0 0)).bind fun σ7 =>
  (X12_starts σ7 x1 300).bind fun p15 =>
  if p15.1 = 0 then (some ((-1), p15.2)) else
  ((some (wI p15.2 11 0 24 0)).bind fun σ25 =>
    X12_years_l28 σ25)
def X12_years  (σ : SS)  (x1 : Int32) : Option (Int32 × SS) := X12_years_j0  σ  x1
def X12_isLeadAt_j0  (σ : SS)  (x1 : Int32) : Option (Int32) :=
  (ck (LN 13 34) 0).bind fun j8 =>
  (X12_isIn σ (Int32.toInt64 x1) 0 (Int32.toInt64 ((σ.1 13 34 j8) - 1))).bind fun v12 =>
  (zb v12).bind fun b15 =>
  some v12
def X12_isLeadAt  (σ : SS)  (x1 : Int32) : Option (Int32) := X12_isLeadAt_j0  σ  x1
def X12_isInside_j0  (σ : SS)  (x1 : Int32) : Option (Int32) :=
  (ck (LN 13 34) 3).bind fun j5 =>
  (X12_has σ (σ.1 13 34 j5) x1).bind fun v7 =>
  (zb v7).bind fun b10 =>
  some v7
def X12_isInside  (σ : SS)  (x1 : Int32) : Option (Int32) := X12_isInside_j0  σ  x1
def X12_isOf_j26  (σ : SS)   : Option (Int32) :=
  some 1
def X12_isOf_j0  (σ : SS)  (x1 : Int32) (x2 : Int32) : Option (Int32) :=
  (ck (LN 13 34) (60 + x1)).bind fun j8 =>
  if (σ.1 13 34 j8) = x2 then (X12_isOf_j26 σ) else
  ((ck (LN 13 34) (84 + x1)).bind fun j21 =>
    if (σ.1 13 34 j21) = x2 then (X12_isOf_j26 σ) else
    (some 0))
def X12_isOf  (σ : SS)  (x1 : Int32) (x2 : Int32) : Option (Int32) := X12_isOf_j0  σ  x1 x2
def X12_crossings_j29  (σ : SS)  (x1 : Int32) (x3 : Int32) (s0 : Int32) (s1 : Int32) : Option ((Int32 × Int32) ⊕ (Int32)) :=
  (some (s0 + s1)).bind fun x2_30 =>
  (some (x3 + 1)).bind fun x3_31 =>
  some (Sum.inl (x2_30, x3_31))
def X12_crossings_l4c  (σ : SS)  (x1 : Int32) (x2 : Int32) (x3 : Int32) : Option ((Int32 × Int32) ⊕ (Int32)) :=
  (ck (LN 13 34) 1).bind fun j10 =>
  if (σ.1 13 34 j10) ≤ x3 then (some (Sum.inr x2)) else
  ((X12_isOf σ x3 x1).bind fun v18 =>
    X12_crossings_j29 σ x1 x3 x2 (if v18 = 0 then 0 else 1))
def X12_crossings_l4b  (σ : SS)  (x1 : Int32) : (Int32 × Int32) → Option ((Int32 × Int32) ⊕ (Int32)) := fun ss => X12_crossings_l4c  σ  x1 ss.1 ss.2
def X12_crossings_l4  (σ : SS)  (x1 : Int32) (x2 : Int32) (x3 : Int32) : Option (Int32) :=
  (iter (X12_crossings_l4b  σ  x1) NF (x2, x3)).bind fun t4 =>
  some t4
def X12_crossings_j0  (σ : SS)  (x1 : Int32) : Option (Int32) :=
  X12_crossings_l4 σ x1 0 0
def X12_crossings  (σ : SS)  (x1 : Int32) : Option (Int32) := X12_crossings_j0  σ  x1
def X12_riskOf_j0  (σ : SS)  (x1 : Int32) : Option (Int32) :=
  (ck (LN 13 34) (8 + x1)).bind fun j11 =>
  (ck (LN 13 34) (16 + x1)).bind fun j22 =>
  some (imax 0 (imin 15 (((σ.1 13 34 j11) / 2) - (σ.1 13 34 j22))))
def X12_riskOf  (σ : SS)  (x1 : Int32) : Option (Int32) := X12_riskOf_j0  σ  x1
def X12_many_j0  (σ : SS)  (x1 : Int32) : Option (Int32 × SS) :=
  (some (wI σ 11 0 1 0)).bind fun σ2 =>
  (some (wI σ2 11 0 0 0)).bind fun σ7 =>
  (X12_isIn σ7 (Int32.toInt64 x1) 0 7).bind fun v16 =>
  if v16 = 0 then ((X12_refuse σ7 5).bind fun p33 =>
    some (p33.1, p33.2)) else
  ((ck (LN 13 34) x1).bind fun j27 =>
    some ((σ7.1 13 34 j27), σ7))
def X12_many  (σ : SS)  (x1 : Int32) : Option (Int32 × SS) := X12_many_j0  σ  x1
def X12_lead_j0  (σ : SS)  (x1 : Int32) (x2 : Int32) : Option (Int32 × SS) :=
  (some (wI σ 11 0 1 0)).bind fun σ2 =>
  (some (wI σ2 11 0 0 0)).bind fun σ7 =>
  (X12_isLeadAt σ7 x1).bind fun v12 =>
  if v12 = 0 then ((X12_refuse σ7 2).bind fun p20 =>
    some (p20.1, p20.2)) else
  ((X12_isIn σ7 (Int32.toInt64 x2) 0 7).bind fun v30 =>
    if v30 = 0 then ((X12_refuse σ7 5).bind fun p38 =>
      some (p38.1, p38.2)) else
    (if x2 = 6 then ((X12_crossings σ7 x1).bind fun v50 =>
        some (v50, σ7)) else
      (if x2 = 7 then ((X12_riskOf σ7 x1).bind fun v64 =>
          some (v64, σ7)) else
        ((ck (LN 13 34) ((8 + (8 * x2)) + x1)).bind fun j83 =>
          some ((σ7.1 13 34 j83), σ7)))))
def X12_lead  (σ : SS)  (x1 : Int32) (x2 : Int32) : Option (Int32 × SS) := X12_lead_j0  σ  x1 x2
def X12_crossing_j0  (σ : SS)  (x1 : Int32) (x2 : Int32) : Option (Int32 × SS) :=
  (some (wI σ 11 0 1 0)).bind fun σ2 =>
  (some (wI σ2 11 0 0 0)).bind fun σ7 =>
  (X12_isIn σ7 (Int32.toInt64 x2) 0 2).bind fun v16 =>
  if v16 = 0 then ((X12_refuse σ7 5).bind fun p24 =>
    some (p24.1, p24.2)) else
  ((ck (LN 13 34) 1).bind fun j36 =>
    (X12_isIn σ7 (Int32.toInt64 x1) 0 (Int32.toInt64 ((σ7.1 13 34 j36) - 1))).bind fun v40 =>
    if v40 = 0 then ((X12_refuse σ7 8).bind fun p66 =>
      some (p66.1, p66.2)) else
    ((ck (LN 13 34) ((60 + (24 * x2)) + x1)).bind fun j59 =>
      some ((σ7.1 13 34 j59), σ7)))
def X12_crossing  (σ : SS)  (x1 : Int32) (x2 : Int32) : Option (Int32 × SS) := X12_crossing_j0  σ  x1 x2
def X12_along_j67  (σ : SS)  (x1 : Int32) (x2 : Int32) (x3 : Int32) (x4 : Int32) : Option ((Int32 × Int32) ⊕ ((Int32) ⊕ (Unit))) :=
  (some (x4 + 1)).bind fun x4_67 =>
  some (Sum.inl (x3, x4_67))
def X12_along_l29c  (σ : SS)  (x1 : Int32) (x2 : Int32) (x3 : Int32) (x4 : Int32) : Option ((Int32 × Int32) ⊕ ((Int32) ⊕ (Unit))) :=
  (ck (LN 13 34) 1).bind fun j36 =>
  if (σ.1 13 34 j36) ≤ x4 then (some (Sum.inr (Sum.inr ()))) else
  (if x2 < 0 then (some (Sum.inr (Sum.inr ()))) else
    ((X12_isOf σ x4 x1).bind fun v48 =>
      if v48 = 0 then (X12_along_j67 σ x1 x2 x3 x4) else
      (if x3 = 0 then (some (Sum.inr (Sum.inl x4))) else
        ((some (x3 + (-1))).bind fun x3_64 =>
          X12_along_j67 σ x1 x2 x3_64 x4))))
def X12_along_l29b  (σ : SS)  (x1 : Int32) (x2 : Int32) : (Int32 × Int32) → Option ((Int32 × Int32) ⊕ ((Int32) ⊕ (Unit))) := fun ss => X12_along_l29c  σ  x1 x2 ss.1 ss.2
def X12_along_j73  (σ : SS)   : Option (Int32 × SS) :=
  (X12_refuse σ 8).bind fun p76 =>
  some (p76.1, p76.2)
def X12_along_l29  (σ : SS)  (x1 : Int32) (x2 : Int32) (x3 : Int32) (x4 : Int32) : Option (Int32 × SS) :=
  (iter (X12_along_l29b  σ  x1 x2) NF (x3, x4)).bind fun t29 => match t29 with
  | Sum.inl e61 => some (e61, σ)
  | Sum.inr u61 => (X12_along_j73 σ)
def X12_along_j0  (σ : SS)  (x1 : Int32) (x2 : Int32) : Option (Int32 × SS) :=
  (some (wI σ 11 0 1 0)).bind fun σ2 =>
  (some (wI σ2 11 0 0 0)).bind fun σ7 =>
  (X12_isLeadAt σ7 x1).bind fun v12 =>
  if v12 = 0 then ((X12_refuse σ7 2).bind fun p20 =>
    some (p20.1, p20.2)) else
  (X12_along_l29 σ7 x1 x2 x2 0)
def X12_along  (σ : SS)  (x1 : Int32) (x2 : Int32) : Option (Int32 × SS) := X12_along_j0  σ  x1 x2
def X12_look_j0  (σ : SS)  (x1 : Int32) : Option (Int32 × SS) :=
  (some (wI σ 11 0 1 0)).bind fun σ2 =>
  (some (wI σ2 11 0 0 0)).bind fun σ7 =>
  (ck (LN 13 34) 2).bind fun j18 =>
  (X12_isIn σ7 (Int32.toInt64 x1) 0 (Int32.toInt64 ((σ7.1 13 34 j18) - 1))).bind fun v22 =>
  if v22 = 0 then ((X12_refuse σ7 2).bind fun p42 =>
    some (p42.1, p42.2)) else
  ((ck (LN 13 34) (56 + x1)).bind fun j36 =>
    some ((σ7.1 13 34 j36), σ7))
def X12_look  (σ : SS)  (x1 : Int32) : Option (Int32 × SS) := X12_look_j0  σ  x1
def X12_between_j26  (σ : SS)   : Option (Int32 × SS) :=
  (X12_refuse σ 2).bind fun p28 =>
  some (p28.1, p28.2)
def X12_between_j85  (σ : SS)  (x1 : Int32) (x2 : Int32) (x4 : Int32) (s0 : Int32) (s1 : Int32) : Option ((Int32 × Int32) ⊕ (Int32)) :=
  (some (s0 + s1)).bind fun x3_86 =>
  (some (x4 + 1)).bind fun x4_87 =>
  some (Sum.inl (x3_86, x4_87))
def X12_between_j84  (σ : SS)  (x1 : Int32) (x2 : Int32) (x4 : Int32) (s0 : Int32) : Option ((Int32 × Int32) ⊕ (Int32)) :=
  X12_between_j85 σ x1 x2 x4 s0 0
def X12_between_l48c  (σ : SS)  (x1 : Int32) (x2 : Int32) (x3 : Int32) (x4 : Int32) : Option ((Int32 × Int32) ⊕ (Int32)) :=
  (ck (LN 13 34) 1).bind fun j55 =>
  if (σ.1 13 34 j55) ≤ x4 then (some (Sum.inr x3)) else
  ((X12_isOf σ x4 x1).bind fun v64 =>
    if v64 = 0 then (X12_between_j84 σ x1 x2 x4 x3) else
    ((X12_isOf σ x4 x2).bind fun v74 =>
      if v74 = 0 then (X12_between_j84 σ x1 x2 x4 x3) else
      (X12_between_j85 σ x1 x2 x4 x3 1)))
def X12_between_l48b  (σ : SS)  (x1 : Int32) (x2 : Int32) : (Int32 × Int32) → Option ((Int32 × Int32) ⊕ (Int32)) := fun ss => X12_between_l48c  σ  x1 x2 ss.1 ss.2
def X12_between_l48  (σ : SS)  (x1 : Int32) (x2 : Int32) (x3 : Int32) (x4 : Int32) : Option (Int32 × SS) :=
  (iter (X12_between_l48b  σ  x1 x2) NF (x3, x4)).bind fun t48 =>
  some (t48, σ)
def X12_between_j0  (σ : SS)  (x1 : Int32) (x2 : Int32) : Option (Int32 × SS) :=
  (some (wI σ 11 0 1 0)).bind fun σ2 =>
  (some (wI σ2 11 0 0 0)).bind fun σ7 =>
  (X12_isLeadAt σ7 x1).bind fun v12 =>
  if v12 = 0 then (X12_between_j26 σ7) else
  ((X12_isLeadAt σ7 x2).bind fun v20 =>
    if v20 = 0 then (X12_between_j26 σ7) else
    (if x1 = x2 then ((X12_refuse σ7 5).bind fun p39 =>
        some (p39.1, p39.2)) else
      (X12_between_l48 σ7 x1 x2 0 0)))
def X12_between  (σ : SS)  (x1 : Int32) (x2 : Int32) : Option (Int32 × SS) := X12_between_j0  σ  x1 x2
def X12_copyStates_l62c  (σ : SS)  (x1 : Int32) (x2 : Int32) : Option ((Int32 × SS) ⊕ (SS)) :=
  (ck (LN 13 34) 1).bind fun j68 =>
  if (σ.1 13 34 j68) ≤ x2 then (some (Sum.inr σ)) else
  ((ck (LN 13 34) (108 + x2)).bind fun j90 =>
    (ck (LN 14 6) ((60 * x1) + x2)).bind fun j92 =>
    (some (wJ σ 14 6 j92 (Int32.toInt64 (σ.1 13 34 j90)))).bind fun σ92 =>
    (some (x2 + 1)).bind fun x2_93 =>
    some (Sum.inl (x2_93, σ92)))
def X12_copyStates_l62b    (x1 : Int32) : (Int32 × SS) → Option ((Int32 × SS) ⊕ (SS)) := fun ss => X12_copyStates_l62c  ss.2  x1 ss.1
def X12_copyStates_l62  (σ : SS)  (x1 : Int32) (x2 : Int32) : Option (Int32 × SS) :=
  (iter (X12_copyStates_l62b    x1) NF (x2, σ)).bind fun t62 =>
  (ck (LN 13 34) 1).bind fun j104 =>
    some ((t62.1 13 34 j104), t62)
def X12_copyStates_j0  (σ : SS)  (x1 : Int32) : Option (Int32 × SS) :=
  (some (wI σ 11 0 1 0)).bind fun σ2 =>
  (some (wI σ2 11 0 0 0)).bind fun σ7 =>
  (X12_isTray σ7 x1).bind fun v12 =>
  if v12 = 0 then ((X12_refuse σ7 1).bind fun p20 =>
    some (p20.1, p20.2)) else
  ((ck (LN 13 33) x1).bind fun j29 =>
    if 0 ≤ (σ7.1 13 33 j29) then ((ck (LN 13 33) x1).bind fun j44 =>
      (ck (LN 13 34) 1).bind fun j50 =>
      if (σ7.1 13 34 j50) ≤ (σ7.1 13 33 j44) then (X12_copyStates_l62 σ7 x1 0) else
      ((X12_refuse σ7 4).bind fun p56 =>
        some (p56.1, p56.2))) else
    ((X12_refuse σ7 3).bind fun p35 =>
      some (p35.1, p35.2)))
def X12_copyStates  (σ : SS)  (x1 : Int32) : Option (Int32 × SS) := X12_copyStates_j0  σ  x1
def X12_drops_l2c  (σ : SS)   (x2 : Int32) : Option ((Int32 × SS) ⊕ (SS)) :=
  (ck (LN 13 34) 1).bind fun j8 =>
  if ((σ.1 13 34 j8) - 1) ≤ x2 then (some (Sum.inr σ)) else
  ((ck (LN 13 34) ((60 + x2) + 1)).bind fun j32 =>
    (ck (LN 13 34) (60 + x2)).bind fun j33 =>
    (some (wI σ 13 34 j33 (σ.1 13 34 j32))).bind fun σ33 =>
    (ck (LN 13 34) ((84 + x2) + 1)).bind fun j52 =>
    (ck (LN 13 34) (84 + x2)).bind fun j53 =>
    (some (wI σ33 13 34 j53 (σ33.1 13 34 j52))).bind fun σ53 =>
    (ck (LN 13 34) ((108 + x2) + 1)).bind fun j72 =>
    (ck (LN 13 34) (108 + x2)).bind fun j73 =>
    (some (wI σ53 13 34 j73 (σ53.1 13 34 j72))).bind fun σ73 =>
    (some (x2 + 1)).bind fun x2_74 =>
    some (Sum.inl (x2_74, σ73)))
def X12_drops_l2b     : (Int32 × SS) → Option ((Int32 × SS) ⊕ (SS)) := fun ss => X12_drops_l2c  ss.2   ss.1
def X12_drops_l2  (σ : SS)  (x2 : Int32) : Option (SS) :=
  (iter (X12_drops_l2b    ) NF (x2, σ)).bind fun t2 =>
  (ck (LN 13 34) 1).bind fun j86 =>
    (ck (LN 13 34) 1).bind fun j89 =>
    (some (wI t2 13 34 j89 ((t2.1 13 34 j86) - 1))).bind fun σ89 =>
    some σ89
def X12_drops_j0  (σ : SS)  (x1 : Int32) : Option (SS) :=
  X12_drops_l2 σ x1
def X12_drops  (σ : SS)  (x1 : Int32) : Option (SS) := X12_drops_j0  σ  x1
def X12_dropsAll_j35  (σ : SS)  (x1 : Int32) (x2 : Int32) (x3 : Int32) : Option ((Int32 × Int32 × SS) ⊕ (Int32 × SS)) :=
  (some (x3 + (-1))).bind fun x3_35 =>
  some (Sum.inl (x2, x3_35, σ))
def X12_dropsAll_l11c  (σ : SS)  (x1 : Int32) (x2 : Int32) (x3 : Int32) : Option ((Int32 × Int32 × SS) ⊕ (Int32 × SS)) :=
  if x3 < 0 then (some (Sum.inr (x2, σ))) else
  ((X12_isOf σ x3 x1).bind fun v18 =>
    if v18 = 0 then (X12_dropsAll_j35 σ x1 x2 x3) else
    ((X12_drops σ x3).bind fun σ29 =>
      (some (x2 + 1)).bind fun x2_32 =>
      X12_dropsAll_j35 σ29 x1 x2_32 x3))
def X12_dropsAll_l11b    (x1 : Int32) : (Int32 × Int32 × SS) → Option ((Int32 × Int32 × SS) ⊕ (Int32 × SS)) := fun ss => X12_dropsAll_l11c  ss.2.2  x1 ss.1 ss.2.1
def X12_dropsAll_l11  (σ : SS)  (x1 : Int32) (x2 : Int32) (x3 : Int32) : Option (Int32 × SS) :=
  (iter (X12_dropsAll_l11b    x1) NF (x2, x3, σ)).bind fun t11 =>
  some (t11.1, t11.2)
def X12_dropsAll_j0  (σ : SS)  (x1 : Int32) : Option (Int32 × SS) :=
  (ck (LN 13 34) 1).bind fun j7 =>
  (some ((σ.1 13 34 j7) - 1)).bind fun x3_10 =>
  X12_dropsAll_l11 σ x1 0 x3_10
def X12_dropsAll  (σ : SS)  (x1 : Int32) : Option (Int32 × SS) := X12_dropsAll_j0  σ  x1
def X12_secondsOf_j0  (σ : SS)  (x0 : Int32) : Option (Int32) :=
  if x0 = 0 then (some 1) else
  (if x0 = 1 then (some 3) else
    (if x0 = 2 then (some 6) else
      (some 15)))
def X12_secondsOf  (σ : SS)  (x0 : Int32) : Option (Int32) := X12_secondsOf_j0  σ  x0
def X12_costOf_j52  (σ : SS)  (s0 : Int32) (s2 : Int32) (s3 : Int32) : Option (Int32) :=
  (ck (LN 13 34) (s2 + s3)).bind fun j53 =>
  some (s0 + (σ.1 13 34 j53))
def X12_costOf_j0  (σ : SS)  (x1 : Int32) (x2 : Int32) : Option (Int32) :=
  (ck (LN 13 34) (108 + x1)).bind fun j8 =>
  (X12_secondsOf σ (σ.1 13 34 j8)).bind fun v9 =>
  (ck (LN 13 34) (60 + x1)).bind fun j26 =>
  if (σ.1 13 34 j26) = x2 then ((ck (LN 13 34) (84 + x1)).bind fun j39 =>
    X12_costOf_j52 σ v9 16 (σ.1 13 34 j39)) else
  ((ck (LN 13 34) (60 + x1)).bind fun j51 =>
    X12_costOf_j52 σ v9 16 (σ.1 13 34 j51))
def X12_costOf  (σ : SS)  (x1 : Int32) (x2 : Int32) : Option (Int32) := X12_costOf_j0  σ  x1 x2
def X12_nearest_j38  (σ : SS)  (x1 : Int32) (x2 : Int32) (x3 : Int32) (x4 : Int32) : Option ((Int32 × Int32) ⊕ (Int32)) :=
  (some (x4 + 1)).bind fun x4_38 =>
  some (Sum.inl (x3, x4_38))
def X12_nearest_j35  (σ : SS)  (x1 : Int32) (x2 : Int32) (x4 : Int32) : Option ((Int32 × Int32) ⊕ (Int32)) :=
  X12_nearest_j38 σ x1 x2 x4 x4
def X12_nearest_l5c  (σ : SS)  (x1 : Int32) (x2 : Int32) (x3 : Int32) (x4 : Int32) : Option ((Int32 × Int32) ⊕ (Int32)) :=
  (ck (LN 13 34) 1).bind fun j12 =>
  if (σ.1 13 34 j12) ≤ x4 then (some (Sum.inr x3)) else
  ((X12_isOf σ x4 x1).bind fun v20 =>
    if v20 = 0 then (X12_nearest_j38 σ x1 x2 x3 x4) else
    (if x3 < 0 then (X12_nearest_j35 σ x1 x2 x4) else
      (if x2 = 1 then (X12_nearest_j35 σ x1 x2 x4) else
        (X12_nearest_j38 σ x1 x2 x3 x4))))
def X12_nearest_l5b  (σ : SS)  (x1 : Int32) (x2 : Int32) : (Int32 × Int32) → Option ((Int32 × Int32) ⊕ (Int32)) := fun ss => X12_nearest_l5c  σ  x1 x2 ss.1 ss.2
def X12_nearest_l5  (σ : SS)  (x1 : Int32) (x2 : Int32) (x3 : Int32) (x4 : Int32) : Option (Int32) :=
  (iter (X12_nearest_l5b  σ  x1 x2) NF (x3, x4)).bind fun t5 =>
  some t5
def X12_nearest_j0  (σ : SS)  (x1 : Int32) (x2 : Int32) : Option (Int32) :=
  X12_nearest_l5 σ x1 x2 (-1) 0
def X12_nearest  (σ : SS)  (x1 : Int32) (x2 : Int32) : Option (Int32) := X12_nearest_j0  σ  x1 x2
def X12_followsOne_j0  (σ : SS)  (x1 : Int32) (x2 : Int32) : Option (Int32 × SS) :=
  (X12_nearest σ x1 x2).bind fun v3 =>
  (X12_costOf σ v3 x1).bind fun v10 =>
  (ck (LN 13 34) 5).bind fun j21 =>
  (ck (LN 13 34) 5).bind fun j25 =>
  (some (wI σ 13 34 j25 ((σ.1 13 34 j21) + v10))).bind fun σ25 =>
  (X12_drops σ25 v3).bind fun σ28 =>
  some (v10, σ28)
def X12_followsOne  (σ : SS)  (x1 : Int32) (x2 : Int32) : Option (Int32 × SS) := X12_followsOne_j0  σ  x1 x2
def X12_follow_j0  (σ : SS)  (x1 : Int32) (x2 : Int32) : Option (Int32 × SS) :=
  (some (wI σ 11 0 1 0)).bind fun σ2 =>
  (some (wI σ2 11 0 0 0)).bind fun σ7 =>
  (X12_isLeadAt σ7 x1).bind fun v12 =>
  if v12 = 0 then ((X12_refuse σ7 2).bind fun p20 =>
    some (p20.1, p20.2)) else
  ((X12_isIn σ7 (Int32.toInt64 x2) 0 1).bind fun v28 =>
    if v28 = 0 then ((X12_refuse σ7 5).bind fun p36 =>
      some (p36.1, p36.2)) else
    ((X12_isInside σ7 x1).bind fun v42 =>
      if v42 = 0 then ((X12_refuse σ7 9).bind fun p51 =>
        some (p51.1, p51.2)) else
      ((X12_nearest σ7 x1 x2).bind fun v58 =>
        if 0 ≤ v58 then ((X12_followsOne σ7 x1 x2).bind fun p76 =>
          some (p76.1, p76.2)) else
        ((X12_refuse σ7 8).bind fun p67 =>
          some (p67.1, p67.2)))))
def X12_follow  (σ : SS)  (x1 : Int32) (x2 : Int32) : Option (Int32 × SS) := X12_follow_j0  σ  x1 x2
def X12_loosensOnce_j71  (σ : SS)  (x1 : Int32) (x2 : Int32) : Option ((Int32 × SS) ⊕ (SS)) :=
  (some (x2 + (-1))).bind fun x2_71 =>
  some (Sum.inl (x2_71, σ))
def X12_loosensOnce_l21c  (σ : SS)  (x1 : Int32) (x2 : Int32) : Option ((Int32 × SS) ⊕ (SS)) :=
  if x2 < 0 then (some (Sum.inr σ)) else
  ((ck (LN 13 34) (108 + x2)).bind fun j33 =>
    if (σ.1 13 34 j33) = 0 then ((X12_drops σ x2).bind fun σ39 =>
      X12_loosensOnce_j71 σ39 x1 x2) else
    ((ck (LN 13 34) (108 + x2)).bind fun j53 =>
      if 3 ≤ (σ.1 13 34 j53) then (X12_loosensOnce_j71 σ x1 x2) else
      ((ck (LN 13 34) (108 + x2)).bind fun j67 =>
        (ck (LN 13 34) (108 + x2)).bind fun j70 =>
        (some (wI σ 13 34 j70 ((σ.1 13 34 j67) - 1))).bind fun σ70 =>
        X12_loosensOnce_j71 σ70 x1 x2)))
def X12_loosensOnce_l21b    (x1 : Int32) : (Int32 × SS) → Option ((Int32 × SS) ⊕ (SS)) := fun ss => X12_loosensOnce_l21c  ss.2  x1 ss.1
def X12_loosensOnce_l21  (σ : SS)  (x1 : Int32) (x2 : Int32) : Option (Int32 × SS) :=
  (iter (X12_loosensOnce_l21b    x1) NF (x2, σ)).bind fun t21 =>
  some (x1, t21)
def X12_loosensOnce_j0  (σ : SS)   : Option (Int32 × SS) :=
  (ck (LN 13 34) 1).bind fun j5 =>
  (some (σ.1 13 34 j5)).bind fun x1_6 =>
  (ck (LN 13 34) 5).bind fun j13 =>
  (ck (LN 13 34) 5).bind fun j16 =>
  (some (wI σ 13 34 j16 ((σ.1 13 34 j13) + x1_6))).bind fun σ16 =>
  (some (x1_6 - 1)).bind fun x2_20 =>
  X12_loosensOnce_l21 σ16 x1_6 x2_20
def X12_loosensOnce  (σ : SS)   : Option (Int32 × SS) := X12_loosensOnce_j0  σ  
def X12_loosen_j0  (σ : SS)   : Option (Int32 × SS) :=
  (some (wI σ 11 0 1 0)).bind fun σ2 =>
  (some (wI σ2 11 0 0 0)).bind fun σ7 =>
  (X12_loosensOnce σ7 ).bind fun p11 =>
  some (p11.1, p11.2)
def X12_loosen  (σ : SS)   : Option (Int32 × SS) := X12_loosen_j0  σ  
def X12_lumpOf_j102  (σ : SS)  (x2 : Int32) (x3 : Int32) (x4 : Int32) : Option ((Int32 × Int32) ⊕ (Int32)) :=
  (some (x4 + 1)).bind fun x4_102 =>
  some (Sum.inl (x3, x4_102))
def X12_lumpOf_j74  (σ : SS)  (x2 : Int32) (x3 : Int32) (x4 : Int32) : Option ((Int32 × Int32) ⊕ (Int32)) :=
  (ck (LN 13 34) (60 + x4)).bind fun j85 =>
  (ck (LN 13 34) (84 + x4)).bind fun j97 =>
  (some (x3 ||| ((1 <<< ((σ.1 13 34 j85) &&& 31)) ||| (1 <<< ((σ.1 13 34 j97) &&& 31))))).bind fun x3_101 =>
  X12_lumpOf_j102 σ x2 x3_101 x4
def X12_lumpOf_l16c  (σ : SS)  (x2 : Int32) (x3 : Int32) (x4 : Int32) : Option ((Int32 × Int32) ⊕ (Int32)) :=
  (ck (LN 13 34) 1).bind fun j23 =>
  if (σ.1 13 34 j23) ≤ x4 then (some (Sum.inr x3)) else
  ((ck (LN 13 34) (108 + x4)).bind fun j36 =>
    if (σ.1 13 34 j36) = 0 then (X12_lumpOf_j102 σ x2 x3 x4) else
    ((ck (LN 13 34) (60 + x4)).bind fun j50 =>
      (X12_has σ x2 (σ.1 13 34 j50)).bind fun v51 =>
      if v51 = 0 then ((ck (LN 13 34) (84 + x4)).bind fun j67 =>
        (X12_has σ x2 (σ.1 13 34 j67)).bind fun v68 =>
        if v68 = 0 then (X12_lumpOf_j102 σ x2 x3 x4) else
        (X12_lumpOf_j74 σ x2 x3 x4)) else
      (X12_lumpOf_j74 σ x2 x3 x4)))
def X12_lumpOf_l16b  (σ : SS)  (x2 : Int32) : (Int32 × Int32) → Option ((Int32 × Int32) ⊕ (Int32)) := fun ss => X12_lumpOf_l16c  σ  x2 ss.1 ss.2
def X12_lumpOf_l16  (σ : SS)  (x2 : Int32) (x3 : Int32) (x4 : Int32) : Option ((Int32 × Int32) ⊕ (Int32)) :=
  (iter (X12_lumpOf_l16b  σ  x2) NF (x3, x4)).bind fun t16 =>
  some (Sum.inl (x2, t16))
def X12_lumpOf_l6c  (σ : SS)   (x2 : Int32) (x3 : Int32) : Option ((Int32 × Int32) ⊕ (Int32)) :=
  if x2 = x3 then (some (Sum.inr x2)) else
  (X12_lumpOf_l16 σ x3 x3 0)
def X12_lumpOf_l6b  (σ : SS)   : (Int32 × Int32) → Option ((Int32 × Int32) ⊕ (Int32)) := fun ss => X12_lumpOf_l6c  σ   ss.1 ss.2
def X12_lumpOf_l6  (σ : SS)  (x2 : Int32) (x3 : Int32) : Option (Int32) :=
  (iter (X12_lumpOf_l6b  σ  ) NF (x2, x3)).bind fun t6 =>
  some t6
def X12_lumpOf_j0  (σ : SS)  (x1 : Int32) : Option (Int32) :=
  (some (1 <<< (x1 &&& 31))).bind fun x3_5 =>
  X12_lumpOf_l6 σ 0 x3_5
def X12_lumpOf  (σ : SS)  (x1 : Int32) : Option (Int32) := X12_lumpOf_j0  σ  x1
def X12_pulls_j98  (σ : SS)  (x1 : Int32) (x2 : Int32) : Option ((Int32 × SS) ⊕ (SS)) :=
  (some (x2 + (-1))).bind fun x2_98 =>
  some (Sum.inl (x2_98, σ))
def X12_pulls_l38c  (σ : SS)  (x1 : Int32) (x2 : Int32) : Option ((Int32 × SS) ⊕ (SS)) :=
  if x2 < 0 then (some (Sum.inr σ)) else
  ((X12_isOf σ x2 x1).bind fun v45 =>
    if v45 = 0 then (X12_pulls_j98 σ x1 x2) else
    ((ck (LN 13 34) (108 + x2)).bind fun j62 =>
      if (σ.1 13 34 j62) = 0 then ((X12_drops σ x2).bind fun σ68 =>
        X12_pulls_j98 σ68 x1 x2) else
      ((ck (LN 13 34) (108 + x2)).bind fun j91 =>
        (ck (LN 13 34) (108 + x2)).bind fun j97 =>
        (some (wI σ 13 34 j97 (imin 3 ((σ.1 13 34 j91) + 1)))).bind fun σ97 =>
        X12_pulls_j98 σ97 x1 x2)))
def X12_pulls_l38b    (x1 : Int32) : (Int32 × SS) → Option ((Int32 × SS) ⊕ (SS)) := fun ss => X12_pulls_l38c  ss.2  x1 ss.1
def X12_pulls_l38  (σ : SS)  (x1 : Int32) (x2 : Int32) : Option (SS) :=
  (iter (X12_pulls_l38b    x1) NF (x2, σ)).bind fun t38 =>
  some t38
def X12_pulls_j0  (σ : SS)  (x1 : Int32) : Option (SS) :=
  (ck (LN 13 34) 5).bind fun j6 =>
  (ck (LN 13 34) 5).bind fun j9 =>
  (some (wI σ 13 34 j9 ((σ.1 13 34 j6) + 2))).bind fun σ9 =>
  (X12_lumpOf σ9 x1).bind fun v12 =>
  (X12_sizeOf σ9 v12).bind fun v15 =>
  if v15 = 1 then ((X12_dropsAll σ9 x1).bind fun p24 =>
    some p24.2) else
  ((ck (LN 13 34) 1).bind fun j34 =>
    (some ((σ9.1 13 34 j34) - 1)).bind fun x2_37 =>
    X12_pulls_l38 σ9 x1 x2_37)
def X12_pulls  (σ : SS)  (x1 : Int32) : Option (SS) := X12_pulls_j0  σ  x1
def X12_pull_j0  (σ : SS)  (x1 : Int32) : Option (Int32 × SS) :=
  (some (wI σ 11 0 1 0)).bind fun σ2 =>
  (some (wI σ2 11 0 0 0)).bind fun σ7 =>
  (X12_isLeadAt σ7 x1).bind fun v12 =>
  if v12 = 0 then ((X12_refuse σ7 2).bind fun p20 =>
    some (p20.1, p20.2)) else
  ((X12_isInside σ7 x1).bind fun v26 =>
    if v26 = 0 then ((X12_refuse σ7 9).bind fun p35 =>
      some (p35.1, p35.2)) else
    ((X12_lumpOf σ7 x1).bind fun v41 =>
      (X12_sizeOf σ7 v41).bind fun v44 =>
      (X12_pulls σ7 x1).bind fun σ50 =>
      some (v44, σ50)))
def X12_pull  (σ : SS)  (x1 : Int32) : Option (Int32 × SS) := X12_pull_j0  σ  x1
def X12_cuts_j0  (σ : SS)  (x1 : Int32) : Option (Int32 × SS) :=
  (ck (LN 13 34) 6).bind fun j7 =>
  (ck (LN 13 34) (40 + x1)).bind fun j16 =>
  (ck (LN 13 34) 6).bind fun j18 =>
  (some (wI σ 13 34 j18 ((σ.1 13 34 j7) + (σ.1 13 34 j16)))).bind fun σ18 =>
  (ck (LN 13 34) 3).bind fun j25 =>
  (ck (LN 13 34) 3).bind fun j32 =>
  (some (wI σ18 13 34 j32 ((σ18.1 13 34 j25) &&& ((1 <<< (x1 &&& 31)) ^^^ (-1))))).bind fun σ32 =>
  (ck (LN 13 34) 4).bind fun j39 =>
  (ck (LN 13 34) 4).bind fun j46 =>
  (some (wI σ32 13 34 j46 ((σ32.1 13 34 j39) &&& ((1 <<< (x1 &&& 31)) ^^^ (-1))))).bind fun σ46 =>
  (X12_dropsAll σ46 x1).bind fun p49 =>
  some (p49.1, p49.2)
def X12_cuts  (σ : SS)  (x1 : Int32) : Option (Int32 × SS) := X12_cuts_j0  σ  x1
def X12_cut__j0  (σ : SS)  (x1 : Int32) : Option (Int32 × SS) :=
  (some (wI σ 11 0 1 0)).bind fun σ2 =>
  (some (wI σ2 11 0 0 0)).bind fun σ7 =>
  (X12_isLeadAt σ7 x1).bind fun v12 =>
  if v12 = 0 then ((X12_refuse σ7 2).bind fun p20 =>
    some (p20.1, p20.2)) else
  ((X12_isInside σ7 x1).bind fun v26 =>
    if v26 = 0 then ((X12_refuse σ7 9).bind fun p43 =>
      some (p43.1, p43.2)) else
    ((X12_cuts σ7 x1).bind fun p34 =>
      some (p34.1, p34.2)))
def X12_cut_  (σ : SS)  (x1 : Int32) : Option (Int32 × SS) := X12_cut__j0  σ  x1
def X12_clips2_j0  (σ : SS)  (x1 : Int32) : Option (Int32 × SS) :=
  (X12_isInside σ x1).bind fun v2 =>
  if v2 = 0 then (some (0, σ)) else
  ((ck (LN 13 34) 4).bind fun j13 =>
    (X12_has σ (σ.1 13 34 j13) x1).bind fun v15 =>
    if v15 = 0 then ((X12_crossings σ x1).bind fun v23 =>
      if v23 ≤ 0 then ((ck (LN 13 34) 4).bind fun j37 =>
        (ck (LN 13 34) 4).bind fun j42 =>
        (some (wI σ 13 34 j42 ((σ.1 13 34 j37) ||| (1 <<< (x1 &&& 31))))).bind fun σ42 =>
        (ck (LN 13 34) 5).bind fun j49 =>
        (ck (LN 13 34) 5).bind fun j53 =>
        (some (wI σ42 13 34 j53 ((σ42.1 13 34 j49) + 12))).bind fun σ53 =>
        some (1, σ53)) else
      (some (0, σ))) else
    (some (0, σ)))
def X12_clips2  (σ : SS)  (x1 : Int32) : Option (Int32 × SS) := X12_clips2_j0  σ  x1
def X12_clip_j41  (σ : SS)   : Option (Int32 × SS) :=
  some (1, σ)
def X12_clip_j0  (σ : SS)  (x1 : Int32) : Option (Int32 × SS) :=
  (some (wI σ 11 0 1 0)).bind fun σ2 =>
  (some (wI σ2 11 0 0 0)).bind fun σ7 =>
  (X12_isLeadAt σ7 x1).bind fun v12 =>
  if v12 = 0 then ((X12_no σ7 2).bind fun p20 =>
    (zb p20.1).bind fun b23 =>
    some (p20.1, p20.2)) else
  ((X12_clips2 σ7 x1).bind fun p26 =>
    if p26.1 = 0 then ((X12_no p26.2 9).bind fun p35 =>
      if p35.1 = 0 then (some (0, p35.2)) else
      (X12_clip_j41 p35.2)) else
    (X12_clip_j41 p26.2))
def X12_clip  (σ : SS)  (x1 : Int32) : Option (Int32 × SS) := X12_clip_j0  σ  x1
def X12_unclip_j45  (σ : SS)   : Option (Int32 × SS) :=
  (X12_no σ 9).bind fun p48 =>
  (zb p48.1).bind fun b51 =>
  some (p48.1, p48.2)
def X12_unclip_j0  (σ : SS)  (x1 : Int32) : Option (Int32 × SS) :=
  (some (wI σ 11 0 1 0)).bind fun σ2 =>
  (some (wI σ2 11 0 0 0)).bind fun σ7 =>
  (X12_isLeadAt σ7 x1).bind fun v12 =>
  if v12 = 0 then ((X12_no σ7 2).bind fun p20 =>
    (zb p20.1).bind fun b23 =>
    some (p20.1, p20.2)) else
  ((X12_isInside σ7 x1).bind fun v26 =>
    if v26 = 0 then (X12_unclip_j45 σ7) else
    ((ck (LN 13 34) 4).bind fun j37 =>
      (X12_has σ7 (σ7.1 13 34 j37) x1).bind fun v39 =>
      if v39 = 0 then (X12_unclip_j45 σ7) else
      ((ck (LN 13 34) 4).bind fun j58 =>
        (ck (LN 13 34) 4).bind fun j65 =>
        (some (wI σ7 13 34 j65 ((σ7.1 13 34 j58) &&& ((1 <<< (x1 &&& 31)) ^^^ (-1))))).bind fun σ65 =>
        some (1, σ65))))
def X12_unclip  (σ : SS)  (x1 : Int32) : Option (Int32 × SS) := X12_unclip_j0  σ  x1
def X12_crossable_j0  (σ : SS)   : Option (Int32) :=
  (ck (LN 13 34) 3).bind fun j5 =>
  (ck (LN 13 34) 4).bind fun j11 =>
  some ((σ.1 13 34 j5) &&& ((σ.1 13 34 j11) ^^^ (-1)))
def X12_crossable  (σ : SS)   : Option (Int32) := X12_crossable_j0  σ  
def X12_crosses_j0  (σ : SS)  (x1 : Int32) (x2 : Int32) (x3 : Int32) : Option (SS) :=
  (ck (LN 13 34) 1).bind fun j5 =>
  (some (σ.1 13 34 j5)).bind fun x4_6 =>
  (ck (LN 13 34) (60 + x4_6)).bind fun j18 =>
  (some (wI σ 13 34 j18 x1)).bind fun σ18 =>
  (ck (LN 13 34) (84 + x4_6)).bind fun j29 =>
  (some (wI σ18 13 34 j29 x2)).bind fun σ29 =>
  (ck (LN 13 34) (108 + x4_6)).bind fun j40 =>
  (some (wI σ29 13 34 j40 x3)).bind fun σ40 =>
  (ck (LN 13 34) 1).bind fun j47 =>
  (ck (LN 13 34) 1).bind fun j50 =>
  (some (wI σ40 13 34 j50 ((σ40.1 13 34 j47) + 1))).bind fun σ50 =>
  some σ50
def X12_crosses  (σ : SS)  (x1 : Int32) (x2 : Int32) (x3 : Int32) : Option (SS) := X12_crosses_j0  σ  x1 x2 x3
def X12_cross_j26  (σ : SS)   : Option (Int32 × SS) :=
  (X12_refuse σ 2).bind fun p28 =>
  some (p28.1, p28.2)
def X12_cross_j49  (σ : SS)   : Option (Int32 × SS) :=
  (X12_refuse σ 5).bind fun p51 =>
  some (p51.1, p51.2)
def X12_cross_j95  (σ : SS)   : Option (Int32 × SS) :=
  (X12_refuse σ 9).bind fun p98 =>
  some (p98.1, p98.2)
def X12_cross_j0  (σ : SS)  (x1 : Int32) (x2 : Int32) (x3 : Int32) : Option (Int32 × SS) :=
  (some (wI σ 11 0 1 0)).bind fun σ2 =>
  (some (wI σ2 11 0 0 0)).bind fun σ7 =>
  (X12_isLeadAt σ7 x1).bind fun v12 =>
  if v12 = 0 then (X12_cross_j26 σ7) else
  ((X12_isLeadAt σ7 x2).bind fun v20 =>
    if v20 = 0 then (X12_cross_j26 σ7) else
    (if x1 = x2 then (X12_cross_j49 σ7) else
      ((X12_isIn σ7 (Int32.toInt64 x3) 0 3).bind fun v43 =>
        if v43 = 0 then (X12_cross_j49 σ7) else
        ((ck (LN 13 34) 1).bind fun j60 =>
          if (σ7.1 13 34 j60) = 24 then ((X12_refuse σ7 7).bind fun p69 =>
            some (p69.1, p69.2)) else
          ((X12_crossable σ7 ).bind fun v74 =>
            (X12_has σ7 v74 x1).bind fun v78 =>
            if v78 = 0 then (X12_cross_j95 σ7) else
            ((X12_crossable σ7 ).bind fun v85 =>
              (X12_has σ7 v85 x2).bind fun v89 =>
              if v89 = 0 then (X12_cross_j95 σ7) else
              ((X12_crosses σ7 x1 x2 x3).bind fun σ106 =>
                (ck (LN 13 34) 1).bind fun j114 =>
                some ((σ106.1 13 34 j114), σ106))))))))
def X12_cross  (σ : SS)  (x1 : Int32) (x2 : Int32) (x3 : Int32) : Option (Int32 × SS) := X12_cross_j0  σ  x1 x2 x3
def X12_draw_j0  (σ : SS)  (x1 : Int32) : Option (Int32 × SS) :=
  (some (wI σ 11 0 25 ((((σ.1 11 0 25) * 2897) + 10529) - (((σ.1 11 0 25) * 2897) + 10529) / 65536 * 65536))).bind fun σ17 =>
  (nz x1).bind fun w28 =>
  some ((((σ17.1 11 0 25) / 8) - ((σ17.1 11 0 25) / 8) / x1 * x1), σ17)
def X12_draw  (σ : SS)  (x1 : Int32) : Option (Int32 × SS) := X12_draw_j0  σ  x1
def X12_opens_j197  (σ : SS)  (x1 : Int32) (x2 : Int32) : Option ((Int32 × Int32 × SS) ⊕ (Int32 × SS)) :=
  (some (x2 + 1)).bind fun x2_197 =>
  some (Sum.inl (x1, x2_197, σ))
def X12_opens_j114  (σ : SS)  (x1 : Int32) (x2 : Int32) (x3 : Int32) (x5 : Int32) (s0 : Int32) (s1 : Int32) : Option ((Int32 × Int32) ⊕ (Int32)) :=
  (some (s0 - s1)).bind fun x4_115 =>
  (some (x5 + 1)).bind fun x5_117 =>
  some (Sum.inl (x4_115, x5_117))
def X12_opens_j98  (σ : SS)  (x1 : Int32) (x2 : Int32) (x3 : Int32) (x4 : Int32) (x5 : Int32) : Option ((Int32 × Int32) ⊕ (Int32)) :=
  (X12_has σ x3 x5).bind fun v103 =>
  X12_opens_j114 σ x1 x2 x3 x5 x4 (if v103 = 0 then 0 else 1)
def X12_opens_l84c  (σ : SS)  (x1 : Int32) (x2 : Int32) (x3 : Int32) (x4 : Int32) (x5 : Int32) : Option ((Int32 × Int32) ⊕ (Int32)) :=
  (X12_has σ x3 x5).bind fun v87 =>
  if v87 = 0 then (X12_opens_j98 σ x1 x2 x3 x4 x5) else
  (if x4 ≤ 0 then (some (Sum.inr x5)) else
    (X12_opens_j98 σ x1 x2 x3 x4 x5))
def X12_opens_l84b  (σ : SS)  (x1 : Int32) (x2 : Int32) (x3 : Int32) : (Int32 × Int32) → Option ((Int32 × Int32) ⊕ (Int32)) := fun ss => X12_opens_l84c  σ  x1 x2 x3 ss.1 ss.2
def X12_opens_j191  (σ : SS)  (x1 : Int32) (x2 : Int32) (s1 : Int32) (s2 : Int32) (s3 : Int32) : Option ((Int32 × Int32 × SS) ⊕ (Int32 × SS)) :=
  (X12_crosses σ s1 s2 s3).bind fun σ191 =>
  (some (x1 + 1)).bind fun x1_194 =>
  X12_opens_j197 σ191 x1_194 x2
def X12_opens_l84  (σ : SS)  (x1 : Int32) (x2 : Int32) (x3 : Int32) (x4 : Int32) (x5 : Int32) : Option ((Int32 × Int32 × SS) ⊕ (Int32 × SS)) :=
  (iter (X12_opens_l84b  σ  x1 x2 x3) NF (x4, x5)).bind fun t84 =>
  (ck (LN 13 34) 1).bind fun j128 =>
    if (σ.1 13 34 j128) = 24 then (X12_opens_j197 σ x1 x2) else
    ((ck (LN 13 34) (24 + x2)).bind fun j145 =>
      (ck (LN 13 34) (32 + x2)).bind fun j154 =>
      (some (imin (σ.1 13 34 j145) (σ.1 13 34 j154))).bind fun x6_158 =>
      (ck (LN 13 34) (16 + t84)).bind fun j177 =>
      X12_opens_j191 σ x1 x2 x2 t84 (if (imin 9 ((σ.1 13 34 j177) + 2)) ≤ x6_158 then 0 else 1))
def X12_opens_l15c  (σ : SS)   (x1 : Int32) (x2 : Int32) : Option ((Int32 × Int32 × SS) ⊕ (Int32 × SS)) :=
  (ck (LN 13 34) 0).bind fun j21 =>
  if (σ.1 13 34 j21) ≤ x2 then (some (Sum.inr (x1, σ))) else
  ((X12_crossable σ ).bind fun v26 =>
    (X12_has σ v26 x2).bind fun v30 =>
    if v30 = 0 then (X12_opens_j197 σ x1 x2) else
    ((X12_draw σ 16).bind fun p39 =>
      (X12_riskOf p39.2 x2).bind fun v44 =>
      if p39.1 < v44 then ((X12_crossable p39.2 ).bind fun v54 =>
        (some (v54 &&& ((1 <<< (x2 &&& 31)) ^^^ (-1)))).bind fun x3_63 =>
        if x3_63 = 0 then (X12_opens_j197 p39.2 x1 x2) else
        ((X12_sizeOf p39.2 x3_63).bind fun v73 =>
          (X12_draw p39.2 v73).bind fun p76 =>
          X12_opens_l84 p76.2 x1 x2 x3_63 p76.1 0)) else
      (X12_opens_j197 p39.2 x1 x2)))
def X12_opens_l15b     : (Int32 × Int32 × SS) → Option ((Int32 × Int32 × SS) ⊕ (Int32 × SS)) := fun ss => X12_opens_l15c  ss.2.2   ss.1 ss.2.1
def X12_opens_l15  (σ : SS)  (x1 : Int32) (x2 : Int32) : Option (Int32 × SS) :=
  (iter (X12_opens_l15b    ) NF (x1, x2, σ)).bind fun t15 =>
  some (t15.1, t15.2)
def X12_opens_j0  (σ : SS)   : Option (Int32 × SS) :=
  (ck (LN 13 34) 7).bind fun j7 =>
  (ck (LN 13 34) 7).bind fun j10 =>
  (some (wI σ 13 34 j10 ((σ.1 13 34 j7) + 1))).bind fun σ10 =>
  X12_opens_l15 σ10 0 0
def X12_opens  (σ : SS)   : Option (Int32 × SS) := X12_opens_j0  σ  
def X12_open_j0  (σ : SS)  (x1 : Int32) : Option (Int32 × SS) :=
  (some (wI σ 11 0 1 0)).bind fun σ2 =>
  (some (wI σ2 11 0 0 0)).bind fun σ7 =>
  (X12_isIn σ7 (Int32.toInt64 x1) 0 9999).bind fun v16 =>
  if v16 = 0 then ((X12_refuse σ7 5).bind fun p24 =>
    some (p24.1, p24.2)) else
  ((some (wI σ7 11 0 25 x1)).bind fun σ30 =>
    (X12_opens σ30 ).bind fun p34 =>
    some (p34.1, p34.2))
def X12_open  (σ : SS)  (x1 : Int32) : Option (Int32 × SS) := X12_open_j0  σ  x1
def X12_lump_j0  (σ : SS)  (x1 : Int32) : Option (Int32 × SS) :=
  (some (wI σ 11 0 1 0)).bind fun σ2 =>
  (some (wI σ2 11 0 0 0)).bind fun σ7 =>
  (X12_isLeadAt σ7 x1).bind fun v12 =>
  if v12 = 0 then ((X12_refuse σ7 2).bind fun p20 =>
    some (p20.1, p20.2)) else
  ((X12_isInside σ7 x1).bind fun v26 =>
    if v26 = 0 then ((X12_refuse σ7 9).bind fun p43 =>
      some (p43.1, p43.2)) else
    ((X12_lumpOf σ7 x1).bind fun v34 =>
      some (v34, σ7)))
def X12_lump  (σ : SS)  (x1 : Int32) : Option (Int32 × SS) := X12_lump_j0  σ  x1
def X12_largest_j40  (σ : SS)  (x1 : Int32) (x2 : Int32) (x3 : Int32) : Option ((Int32 × Int32) ⊕ (Int32)) :=
  (some (x3 + 1)).bind fun x3_40 =>
  some (Sum.inl (x2, x3_40))
def X12_largest_l4c  (σ : SS)  (x1 : Int32) (x2 : Int32) (x3 : Int32) : Option ((Int32 × Int32) ⊕ (Int32)) :=
  (ck (LN 13 34) 0).bind fun j10 =>
  if (σ.1 13 34 j10) ≤ x3 then (some (Sum.inr x2)) else
  ((X12_isInside σ x3).bind fun v16 =>
    if v16 = 0 then (X12_largest_j40 σ x1 x2 x3) else
    (if x3 = x1 then (X12_largest_j40 σ x1 x2 x3) else
      ((X12_lumpOf σ x3).bind fun v30 =>
        (X12_sizeOf σ v30).bind fun v33 =>
        (some (imax x2 v33)).bind fun x2_39 =>
        X12_largest_j40 σ x1 x2_39 x3)))
def X12_largest_l4b  (σ : SS)  (x1 : Int32) : (Int32 × Int32) → Option ((Int32 × Int32) ⊕ (Int32)) := fun ss => X12_largest_l4c  σ  x1 ss.1 ss.2
def X12_largest_l4  (σ : SS)  (x1 : Int32) (x2 : Int32) (x3 : Int32) : Option (Int32) :=
  (iter (X12_largest_l4b  σ  x1) NF (x2, x3)).bind fun t4 =>
  some t4
def X12_largest_j0  (σ : SS)  (x1 : Int32) : Option (Int32) :=
  X12_largest_l4 σ x1 0 0
def X12_largest  (σ : SS)  (x1 : Int32) : Option (Int32) := X12_largest_j0  σ  x1
def X12_lumps_j106  (σ : SS)  (x2 : Int32) (x3 : Int32) (x4 : Int32) : Option ((Int32 × Int32 × Int32) ⊕ (Int32)) :=
  (some (x4 + 1)).bind fun x4_106 =>
  some (Sum.inl (x2, x3, x4_106))
def X12_lumps_j104  (σ : SS)  (x3 : Int32) (x4 : Int32) (s0 : Int32) (s1 : Int32) : Option ((Int32 × Int32 × Int32) ⊕ (Int32)) :=
  (some (s0 + s1)).bind fun x2_105 =>
  X12_lumps_j106 σ x2_105 x3 x4
def X12_lumps_l44c  (σ : SS)   (x2 : Int32) (x3 : Int32) (x4 : Int32) : Option ((Int32 × Int32 × Int32) ⊕ (Int32)) :=
  (ck (LN 13 34) 0).bind fun j51 =>
  if (σ.1 13 34 j51) ≤ x4 then (some (Sum.inr x2)) else
  ((X12_isInside σ x4).bind fun v58 =>
    if v58 = 0 then (X12_lumps_j106 σ x2 x3 x4) else
    ((X12_has σ x3 x4).bind fun v67 =>
      if v67 = 0 then ((X12_lumpOf σ x4).bind fun v80 =>
        (some (x3 ||| v80)).bind fun x3_84 =>
        (X12_lumpOf σ x4).bind fun v89 =>
        (X12_sizeOf σ v89).bind fun v92 =>
        X12_lumps_j104 σ x3_84 x4 x2 (if v92 ≤ 1 then 0 else 1)) else
      (X12_lumps_j106 σ x2 x3 x4)))
def X12_lumps_l44b  (σ : SS)   : (Int32 × Int32 × Int32) → Option ((Int32 × Int32 × Int32) ⊕ (Int32)) := fun ss => X12_lumps_l44c  σ   ss.1 ss.2.1 ss.2.2
def X12_lumps_l44  (σ : SS)  (x2 : Int32) (x3 : Int32) (x4 : Int32) : Option (Int32 × SS) :=
  (iter (X12_lumps_l44b  σ  ) NF (x2, x3, x4)).bind fun t44 =>
  some (t44, σ)
def X12_lumps_j0  (σ : SS)  (x1 : Int32) : Option (Int32 × SS) :=
  (some (wI σ 11 0 1 0)).bind fun σ2 =>
  (some (wI σ2 11 0 0 0)).bind fun σ7 =>
  (X12_isIn σ7 (Int32.toInt64 x1) 0 1).bind fun v14 =>
  if v14 = 0 then ((X12_refuse σ7 5).bind fun p22 =>
    some (p22.1, p22.2)) else
  (if x1 = 1 then ((X12_largest σ7 (-1)).bind fun v33 =>
      some (v33, σ7)) else
    (X12_lumps_l44 σ7 0 0 0))
def X12_lumps  (σ : SS)  (x1 : Int32) : Option (Int32 × SS) := X12_lumps_j0  σ  x1
def X12_comes_j0  (σ : SS)  (x1 : Int32) : Option (Int32 × SS) :=
  (some (wI σ 11 0 1 0)).bind fun σ2 =>
  (some (wI σ2 11 0 0 0)).bind fun σ7 =>
  (X12_isLeadAt σ7 x1).bind fun v12 =>
  if v12 = 0 then ((X12_refuse σ7 2).bind fun p20 =>
    some (p20.1, p20.2)) else
  ((X12_isInside σ7 x1).bind fun v26 =>
    if v26 = 0 then ((X12_refuse σ7 9).bind fun p35 =>
      some (p35.1, p35.2)) else
    ((X12_lumpOf σ7 x1).bind fun v41 =>
      (X12_sizeOf σ7 v41).bind fun v44 =>
      if v44 = 1 then (some (1, σ7)) else
      (some (0, σ7))))
def X12_comes  (σ : SS)  (x1 : Int32) : Option (Int32 × SS) := X12_comes_j0  σ  x1
def X12_easy_j52  (σ : SS)  (x2 : Int32) (s0 : Int32) (s1 : Int32) : Option ((Int32 × Int32) ⊕ (Int32)) :=
  (some (s0 ||| s1)).bind fun x1_53 =>
  (some (x2 + 1)).bind fun x2_54 =>
  some (Sum.inl (x1_53, x2_54))
def X12_easy_j51  (σ : SS)  (x2 : Int32) (s0 : Int32) : Option ((Int32 × Int32) ⊕ (Int32)) :=
  X12_easy_j52 σ x2 s0 0
def X12_easy_l14c  (σ : SS)   (x1 : Int32) (x2 : Int32) : Option ((Int32 × Int32) ⊕ (Int32)) :=
  (ck (LN 13 34) 0).bind fun j20 =>
  if (σ.1 13 34 j20) ≤ x2 then (some (Sum.inr x1)) else
  ((X12_isInside σ x2).bind fun v27 =>
    if v27 = 0 then (X12_easy_j51 σ x2 x1) else
    ((X12_lumpOf σ x2).bind fun v35 =>
      (X12_sizeOf σ v35).bind fun v38 =>
      if v38 = 1 then (X12_easy_j52 σ x2 x1 (1 <<< (x2 &&& 31))) else
      (X12_easy_j51 σ x2 x1)))
def X12_easy_l14b  (σ : SS)   : (Int32 × Int32) → Option ((Int32 × Int32) ⊕ (Int32)) := fun ss => X12_easy_l14c  σ   ss.1 ss.2
def X12_easy_l14  (σ : SS)  (x1 : Int32) (x2 : Int32) : Option (Int32 × SS) :=
  (iter (X12_easy_l14b  σ  ) NF (x1, x2)).bind fun t14 =>
  some (t14, σ)
def X12_easy_j0  (σ : SS)   : Option (Int32 × SS) :=
  (some (wI σ 11 0 1 0)).bind fun σ2 =>
  (some (wI σ2 11 0 0 0)).bind fun σ7 =>
  X12_easy_l14 σ7 0 0
def X12_easy  (σ : SS)   : Option (Int32 × SS) := X12_easy_j0  σ  
def X12_isFree_j0  (σ : SS)  (x1 : Int32) : Option (Int32) :=
  (X12_isInside σ x1).bind fun v2 =>
  if v2 = 0 then (some 0) else
  ((X12_crossings σ x1).bind fun v10 =>
    if v10 = 0 then (some 1) else
    (some 0))
def X12_isFree  (σ : SS)  (x1 : Int32) : Option (Int32) := X12_isFree_j0  σ  x1
def X12_free_j0  (σ : SS)  (x1 : Int32) : Option (Int32 × SS) :=
  (some (wI σ 11 0 1 0)).bind fun σ2 =>
  (some (wI σ2 11 0 0 0)).bind fun σ7 =>
  (X12_isLeadAt σ7 x1).bind fun v12 =>
  if v12 = 0 then ((X12_refuse σ7 2).bind fun p20 =>
    some (p20.1, p20.2)) else
  ((X12_isFree σ7 x1).bind fun v26 =>
    if v26 = 0 then (some (0, σ7)) else
    (some (1, σ7)))
def X12_free  (σ : SS)  (x1 : Int32) : Option (Int32 × SS) := X12_free_j0  σ  x1
def X12_stateMany_j33  (σ : SS)  (x1 : Int32) (x3 : Int32) (s0 : Int32) (s1 : Int32) : Option ((Int32 × Int32) ⊕ (Int32)) :=
  (some (s0 + s1)).bind fun x2_34 =>
  (some (x3 + 1)).bind fun x3_35 =>
  some (Sum.inl (x2_34, x3_35))
def X12_stateMany_l4c  (σ : SS)  (x1 : Int32) (x2 : Int32) (x3 : Int32) : Option ((Int32 × Int32) ⊕ (Int32)) :=
  (ck (LN 13 34) 1).bind fun j10 =>
  if (σ.1 13 34 j10) ≤ x3 then (some (Sum.inr x2)) else
  ((ck (LN 13 34) (108 + x3)).bind fun j23 =>
    X12_stateMany_j33 σ x1 x3 x2 (if (σ.1 13 34 j23) = x1 then 1 else 0))
def X12_stateMany_l4b  (σ : SS)  (x1 : Int32) : (Int32 × Int32) → Option ((Int32 × Int32) ⊕ (Int32)) := fun ss => X12_stateMany_l4c  σ  x1 ss.1 ss.2
def X12_stateMany_l4  (σ : SS)  (x1 : Int32) (x2 : Int32) (x3 : Int32) : Option (Int32) :=
  (iter (X12_stateMany_l4b  σ  x1) NF (x2, x3)).bind fun t4 =>
  some t4
def X12_stateMany_j0  (σ : SS)  (x1 : Int32) : Option (Int32) :=
  X12_stateMany_l4 σ x1 0 0
def X12_stateMany  (σ : SS)  (x1 : Int32) : Option (Int32) := X12_stateMany_j0  σ  x1
def X12_inState_j0  (σ : SS)  (x1 : Int32) : Option (Int32 × SS) :=
  (some (wI σ 11 0 1 0)).bind fun σ2 =>
  (some (wI σ2 11 0 0 0)).bind fun σ7 =>
  (X12_isIn σ7 (Int32.toInt64 x1) 0 3).bind fun v16 =>
  if v16 = 0 then ((X12_refuse σ7 5).bind fun p32 =>
    some (p32.1, p32.2)) else
  ((X12_stateMany σ7 x1).bind fun v24 =>
    some (v24, σ7))
def X12_inState  (σ : SS)  (x1 : Int32) : Option (Int32 × SS) := X12_inState_j0  σ  x1
def X12_keeps_l2c  (σ : SS)   (x1 : Int32) : Option ((Int32 × SS) ⊕ (SS)) :=
  if 132 ≤ x1 then (some (Sum.inr σ)) else
  ((ck (LN 13 34) x1).bind fun j19 =>
    (ck (LN 13 35) x1).bind fun j20 =>
    (some (wI σ 13 35 j20 (σ.1 13 34 j19))).bind fun σ20 =>
    (some (x1 + 1)).bind fun x1_21 =>
    some (Sum.inl (x1_21, σ20)))
def X12_keeps_l2b     : (Int32 × SS) → Option ((Int32 × SS) ⊕ (SS)) := fun ss => X12_keeps_l2c  ss.2   ss.1
def X12_keeps_l2  (σ : SS)  (x1 : Int32) : Option (SS) :=
  (iter (X12_keeps_l2b    ) NF (x1, σ)).bind fun t2 =>
  some t2
def X12_keeps_j0  (σ : SS)   : Option (SS) :=
  X12_keeps_l2 σ 0
def X12_keeps  (σ : SS)   : Option (SS) := X12_keeps_j0  σ  
def X12_gives_l2c  (σ : SS)   (x1 : Int32) : Option ((Int32 × SS) ⊕ (SS)) :=
  if 132 ≤ x1 then (some (Sum.inr σ)) else
  ((ck (LN 13 35) x1).bind fun j19 =>
    (ck (LN 13 34) x1).bind fun j20 =>
    (some (wI σ 13 34 j20 (σ.1 13 35 j19))).bind fun σ20 =>
    (some (x1 + 1)).bind fun x1_21 =>
    some (Sum.inl (x1_21, σ20)))
def X12_gives_l2b     : (Int32 × SS) → Option ((Int32 × SS) ⊕ (SS)) := fun ss => X12_gives_l2c  ss.2   ss.1
def X12_gives_l2  (σ : SS)  (x1 : Int32) : Option (SS) :=
  (iter (X12_gives_l2b    ) NF (x1, σ)).bind fun t2 =>
  some t2
def X12_gives_j0  (σ : SS)   : Option (SS) :=
  X12_gives_l2 σ 0
def X12_gives  (σ : SS)   : Option (SS) := X12_gives_j0  σ  
def X12_worse_j0  (σ : SS)  (x1 : Int32) (x2 : Int32) : Option (Int32 × SS) :=
  (some (wI σ 11 0 1 0)).bind fun σ2 =>
  (some (wI σ2 11 0 0 0)).bind fun σ7 =>
  (X12_isLeadAt σ7 x1).bind fun v12 =>
  if v12 = 0 then ((X12_refuse σ7 2).bind fun p20 =>
    some (p20.1, p20.2)) else
  ((X12_isIn σ7 (Int32.toInt64 x2) 0 3).bind fun v30 =>
    if v30 = 0 then ((X12_refuse σ7 5).bind fun p38 =>
      some (p38.1, p38.2)) else
    ((X12_isInside σ7 x1).bind fun v44 =>
      if v44 = 0 then ((X12_refuse σ7 9).bind fun p53 =>
        some (p53.1, p53.2)) else
      ((X12_stateMany σ7 x2).bind fun v59 =>
        (X12_keeps σ7 ).bind fun σ64 =>
        (X12_pulls σ64 x1).bind fun σ69 =>
        (X12_stateMany σ69 x2).bind fun v74 =>
        (X12_gives σ69 ).bind fun σ80 =>
        some ((v74 - v59), σ80))))
def X12_worse  (σ : SS)  (x1 : Int32) (x2 : Int32) : Option (Int32 × SS) := X12_worse_j0  σ  x1 x2
def X12_worst_j51  (σ : SS)  (x1 : Int32) (x2 : Int32) : Option ((Int32 × Int32) ⊕ (Int32)) :=
  (some (x2 + 1)).bind fun x2_51 =>
  some (Sum.inl (x1, x2_51))
def X12_worst_j49  (σ : SS)  (x2 : Int32) : Option ((Int32 × Int32) ⊕ (Int32)) :=
  X12_worst_j51 σ x2 x2
def X12_worst_l14c  (σ : SS)   (x1 : Int32) (x2 : Int32) : Option ((Int32 × Int32) ⊕ (Int32)) :=
  (ck (LN 13 34) 0).bind fun j20 =>
  if (σ.1 13 34 j20) ≤ x2 then (some (Sum.inr x1)) else
  ((X12_isInside σ x2).bind fun v26 =>
    if v26 = 0 then (X12_worst_j51 σ x1 x2) else
    (if x1 < 0 then (X12_worst_j49 σ x2) else
      ((X12_crossings σ x2).bind fun v38 =>
        (X12_crossings σ x1).bind fun v43 =>
        if v38 ≤ v43 then (X12_worst_j51 σ x1 x2) else
        (X12_worst_j49 σ x2))))
def X12_worst_l14b  (σ : SS)   : (Int32 × Int32) → Option ((Int32 × Int32) ⊕ (Int32)) := fun ss => X12_worst_l14c  σ   ss.1 ss.2
def X12_worst_l14  (σ : SS)  (x1 : Int32) (x2 : Int32) : Option (Int32 × SS) :=
  (iter (X12_worst_l14b  σ  ) NF (x1, x2)).bind fun t14 =>
  if 0 ≤ t14 then (some (t14, σ)) else
    ((X12_refuse σ 8).bind fun p64 =>
      some (p64.1, p64.2))
def X12_worst_j0  (σ : SS)   : Option (Int32 × SS) :=
  (some (wI σ 11 0 1 0)).bind fun σ2 =>
  (some (wI σ2 11 0 0 0)).bind fun σ7 =>
  X12_worst_l14 σ7 (-1) 0
def X12_worst  (σ : SS)   : Option (Int32 × SS) := X12_worst_j0  σ  
def X12_key_j73  (σ : SS)  (x1 : Int32) (x2 : Int32) (x3 : Int32) : Option ((Int32 × Int32 × Int32 × SS) ⊕ (Int32 × SS)) :=
  (some (x3 + 1)).bind fun x3_73 =>
  some (Sum.inl (x1, x2, x3_73, σ))
def X12_key_l17c  (σ : SS)   (x1 : Int32) (x2 : Int32) (x3 : Int32) : Option ((Int32 × Int32 × Int32 × SS) ⊕ (Int32 × SS)) :=
  (ck (LN 13 34) 0).bind fun j23 =>
  if (σ.1 13 34 j23) ≤ x3 then (some (Sum.inr (x1, σ))) else
  ((X12_isInside σ x3).bind fun v29 =>
    if v29 = 0 then (X12_key_j73 σ x1 x2 x3) else
    ((X12_keeps σ ).bind fun σ39 =>
      (X12_cuts σ39 x3).bind fun p44 =>
      (X12_largest p44.2 (-1)).bind fun v50 =>
      (X12_gives p44.2 ).bind fun σ56 =>
      X12_key_j73 σ56 (if v50 < x2 then x3 else x1) (if v50 < x2 then v50 else x2) x3))
def X12_key_l17b     : (Int32 × Int32 × Int32 × SS) → Option ((Int32 × Int32 × Int32 × SS) ⊕ (Int32 × SS)) := fun ss => X12_key_l17c  ss.2.2.2   ss.1 ss.2.1 ss.2.2.1
def X12_key_l17  (σ : SS)  (x1 : Int32) (x2 : Int32) (x3 : Int32) : Option (Int32 × SS) :=
  (iter (X12_key_l17b    ) NF (x1, x2, x3, σ)).bind fun t17 =>
  if 0 ≤ t17.1 then (some (t17.1, t17.2)) else
    ((X12_refuse t17.2 8).bind fun p86 =>
      some (p86.1, p86.2))
def X12_key_j0  (σ : SS)   : Option (Int32 × SS) :=
  (some (wI σ 11 0 1 0)).bind fun σ2 =>
  (some (wI σ2 11 0 0 0)).bind fun σ7 =>
  X12_key_l17 σ7 (-1) 99 0
def X12_key  (σ : SS)   : Option (Int32 × SS) := X12_key_j0  σ  
def X12_alongOf_j35  (σ : SS)  (x1 : Int32) (x4 : Int32) (s0 : Int32) (s1 : Int32) : Option ((Int32 × Int32) ⊕ (Int32)) :=
  (some (s0 - s1)).bind fun x3_36 =>
  (some (x4 + 1)).bind fun x4_37 =>
  some (Sum.inl (x3_36, x4_37))
def X12_alongOf_j19  (σ : SS)  (x1 : Int32) (x3 : Int32) (x4 : Int32) : Option ((Int32 × Int32) ⊕ (Int32)) :=
  (X12_isOf σ x4 x1).bind fun v24 =>
  X12_alongOf_j35 σ x1 x4 x3 (if v24 = 0 then 0 else 1)
def X12_alongOf_l5c  (σ : SS)  (x1 : Int32) (x3 : Int32) (x4 : Int32) : Option ((Int32 × Int32) ⊕ (Int32)) :=
  (X12_isOf σ x4 x1).bind fun v9 =>
  if v9 = 0 then (X12_alongOf_j19 σ x1 x3 x4) else
  (if x3 ≤ 0 then (some (Sum.inr x4)) else
    (X12_alongOf_j19 σ x1 x3 x4))
def X12_alongOf_l5b  (σ : SS)  (x1 : Int32) : (Int32 × Int32) → Option ((Int32 × Int32) ⊕ (Int32)) := fun ss => X12_alongOf_l5c  σ  x1 ss.1 ss.2
def X12_alongOf_l5  (σ : SS)  (x1 : Int32) (x3 : Int32) (x4 : Int32) : Option (Int32) :=
  (iter (X12_alongOf_l5b  σ  x1) NF (x3, x4)).bind fun t5 =>
  some t5
def X12_alongOf_j0  (σ : SS)  (x1 : Int32) (x2 : Int32) : Option (Int32) :=
  X12_alongOf_l5 σ x1 x2 0
def X12_alongOf  (σ : SS)  (x1 : Int32) (x2 : Int32) : Option (Int32) := X12_alongOf_j0  σ  x1 x2
def X12_frees_j78  (σ : SS)  (x1 : Int32) (x2 : Int32) (x3 : Int32) (s1 : Int32) (s2 : Int32) : Option ((Int32 × SS) ⊕ (SS)) :=
  (ck (LN 13 37) s1).bind fun j78 =>
  (some (wI σ 13 37 j78 s2)).bind fun σ78 =>
  (some (x3 + 1)).bind fun x3_79 =>
  some (Sum.inl (x3_79, σ78))
def X12_frees_l29c  (σ : SS)  (x1 : Int32) (x2 : Int32) (x3 : Int32) : Option ((Int32 × SS) ⊕ (SS)) :=
  if x2 ≤ x3 then (some (Sum.inr σ)) else
  ((X12_alongOf σ x1 x3).bind fun v43 =>
    (X12_costOf σ v43 x1).bind fun v47 =>
    (ck (LN 13 36) x3).bind fun j50 =>
    (some (wI σ 13 36 j50 v47)).bind fun σ50 =>
    (X12_alongOf σ50 x1 x3).bind fun v65 =>
    (ck (LN 13 34) (108 + v65)).bind fun j69 =>
    X12_frees_j78 σ50 x1 x2 x3 x3 (if (σ50.1 13 34 j69) = 0 then 1 else 0))
def X12_frees_l29b    (x1 : Int32) (x2 : Int32) : (Int32 × SS) → Option ((Int32 × SS) ⊕ (SS)) := fun ss => X12_frees_l29c  ss.2  x1 x2 ss.1
def X12_frees_l102c  (σ : SS)  (x2 : Int32) (x3 : Int32) (x4 : Int32) (x5 : Int32) (x6 : Int32) : Option ((Int32 × Int32) ⊕ (Int32)) :=
  if x4 ≤ x6 then (some (Sum.inr x5)) else
  ((ck (LN 13 36) x6).bind fun j117 =>
    (some (x5 + (σ.1 13 36 j117))).bind fun x5_119 =>
    (some (x6 + 1)).bind fun x6_121 =>
    some (Sum.inl (x5_119, x6_121)))
def X12_frees_l102b  (σ : SS)  (x2 : Int32) (x3 : Int32) (x4 : Int32) : (Int32 × Int32) → Option ((Int32 × Int32) ⊕ (Int32)) := fun ss => X12_frees_l102c  σ  x2 x3 x4 ss.1 ss.2
def X12_frees_j202  (σ : SS)  (x2 : Int32) (x3 : Int32) (x4 : Int32) (x5 : Int32) (x6 : Int32) (x7 : Int32) (x9 : Int32) (s0 : Int32) : Option ((Int32 × Int32) ⊕ (Int32)) :=
  (some (x9 + 1)).bind fun x9_204 =>
  some (Sum.inl (s0, x9_204))
def X12_frees_j201  (σ : SS)  (x2 : Int32) (x3 : Int32) (x4 : Int32) (x5 : Int32) (x6 : Int32) (x7 : Int32) (x9 : Int32) : Option ((Int32 × Int32) ⊕ (Int32)) :=
  X12_frees_j202 σ x2 x3 x4 x5 x6 x7 x9 0
def X12_frees_l172c  (σ : SS)  (x2 : Int32) (x3 : Int32) (x4 : Int32) (x5 : Int32) (x6 : Int32) (x7 : Int32) (x8 : Int32) (x9 : Int32) : Option ((Int32 × Int32) ⊕ (Int32)) :=
  if (x2 - x7) ≤ x9 then (some (Sum.inr x8)) else
  (if x8 = 0 then (X12_frees_j201 σ x2 x3 x4 x5 x6 x7 x9) else
    ((ck (LN 13 37) x9).bind fun j192 =>
      if (σ.1 13 37 j192) = 1 then (X12_frees_j202 σ x2 x3 x4 x5 x6 x7 x9 1) else
      (X12_frees_j201 σ x2 x3 x4 x5 x6 x7 x9)))
def X12_frees_l172b  (σ : SS)  (x2 : Int32) (x3 : Int32) (x4 : Int32) (x5 : Int32) (x6 : Int32) (x7 : Int32) : (Int32 × Int32) → Option ((Int32 × Int32) ⊕ (Int32)) := fun ss => X12_frees_l172c  σ  x2 x3 x4 x5 x6 x7 ss.1 ss.2
def X12_frees_j283  (σ : SS)  (x2 : Int32) (x3 : Int32) (x4 : Int32) (x5 : Int32) (x6 : Int32) (x7 : Int32) : Option ((Int32 × Int32 × Int32 × SS) ⊕ (Int32 × SS)) :=
  (some (x7 + 1)).bind fun x7_283 =>
  some (Sum.inl (x3, x6, x7_283, σ))
def X12_frees_j280  (σ : SS)  (x2 : Int32) (x3 : Int32) (x4 : Int32) (x5 : Int32) (x6 : Int32) (x7 : Int32) (s1 : Int32) : Option ((Int32 × Int32 × Int32 × SS) ⊕ (Int32 × SS)) :=
  (some (wI σ 11 0 28 s1)).bind fun σ280 =>
  X12_frees_j283 σ280 x2 x3 x4 x5 x6 x7
def X12_frees_j250  (σ : SS)  (x2 : Int32) (x4 : Int32) (x5 : Int32) (x6 : Int32) (x7 : Int32) (x9 : Int32) : Option ((Int32 × Int32 × Int32 × SS) ⊕ (Int32 × SS)) :=
  (some (wI σ 11 0 26 x4)).bind fun σ256 =>
  (some (wI σ256 11 0 27 x7)).bind fun σ262 =>
  X12_frees_j280 σ262 x2 x9 x4 x5 x6 x7 (if x2 ≤ (x4 + x7) then 0 else 1)
def X12_frees_j229  (σ : SS)  (x2 : Int32) (x3 : Int32) (x4 : Int32) (x5 : Int32) (x6 : Int32) (x7 : Int32) (x8 : Int32) (s0 : Int32) (s1 : Int32) : Option ((Int32 × Int32 × Int32 × SS) ⊕ (Int32 × SS)) :=
  (some (s0 + s1)).bind fun x9_230 =>
  if x8 = 0 then (X12_frees_j283 σ x2 x3 x4 x5 x6 x7) else
  (if x3 < 0 then (X12_frees_j250 σ x2 x4 x5 x6 x7 x9_230) else
    (if x9_230 < x3 then (X12_frees_j250 σ x2 x4 x5 x6 x7 x9_230) else
      (X12_frees_j283 σ x2 x3 x4 x5 x6 x7)))
def X12_frees_l172  (σ : SS)  (x2 : Int32) (x3 : Int32) (x4 : Int32) (x5 : Int32) (x6 : Int32) (x7 : Int32) (x8 : Int32) (x9 : Int32) : Option ((Int32 × Int32 × Int32 × SS) ⊕ (Int32 × SS)) :=
  (iter (X12_frees_l172b  σ  x2 x3 x4 x5 x6 x7) NF (x8, x9)).bind fun t172 =>
  X12_frees_j229 σ x2 x3 x4 x5 x6 x7 t172 (x5 + x6) (if x2 ≤ (x4 + x7) then 0 else 2)
def X12_frees_j162  (σ : SS)  (x2 : Int32) (x3 : Int32) (x4 : Int32) (x5 : Int32) (x7 : Int32) (s0 : Int32) (s1 : Int32) : Option ((Int32 × Int32 × Int32 × SS) ⊕ (Int32 × SS)) :=
  (some (s0 + s1)).bind fun x6_163 =>
  X12_frees_l172 σ x2 x3 x4 x5 x6_163 x7 1 x4
def X12_frees_l133c  (σ : SS)  (x2 : Int32) (x4 : Int32) (x5 : Int32) (x3 : Int32) (x6 : Int32) (x7 : Int32) : Option ((Int32 × Int32 × Int32 × SS) ⊕ (Int32 × SS)) :=
  if (x2 - x4) < x7 then (some (Sum.inr (x3, σ))) else
  (if x7 = 0 then (X12_frees_j162 σ x2 x3 x4 x5 x7 x6 0) else
    ((ck (LN 13 36) (x2 - x7)).bind fun j161 =>
      X12_frees_j162 σ x2 x3 x4 x5 x7 x6 (σ.1 13 36 j161)))
def X12_frees_l133b    (x2 : Int32) (x4 : Int32) (x5 : Int32) : (Int32 × Int32 × Int32 × SS) → Option ((Int32 × Int32 × Int32 × SS) ⊕ (Int32 × SS)) := fun ss => X12_frees_l133c  ss.2.2.2  x2 x4 x5 ss.1 ss.2.1 ss.2.2.1
def X12_frees_l133  (σ : SS)  (x2 : Int32) (x3 : Int32) (x4 : Int32) (x5 : Int32) (x6 : Int32) (x7 : Int32) : Option ((Int32 × Int32 × SS) ⊕ (Int32 × SS)) :=
  (iter (X12_frees_l133b    x2 x4 x5) NF (x3, x6, x7, σ)).bind fun t133 =>
  (some (x4 + 1)).bind fun x4_289 =>
    some (Sum.inl (t133.1, x4_289, t133.2))
def X12_frees_l102  (σ : SS)  (x2 : Int32) (x3 : Int32) (x4 : Int32) (x5 : Int32) (x6 : Int32) : Option ((Int32 × Int32 × SS) ⊕ (Int32 × SS)) :=
  (iter (X12_frees_l102b  σ  x2 x3 x4) NF (x5, x6)).bind fun t102 =>
  X12_frees_l133 σ x2 x3 x4 t102 0 0
def X12_frees_l90c  (σ : SS)  (x2 : Int32) (x3 : Int32) (x4 : Int32) : Option ((Int32 × Int32 × SS) ⊕ (Int32 × SS)) :=
  if x2 < x4 then (some (Sum.inr (x3, σ))) else
  (X12_frees_l102 σ x2 x3 x4 0 0)
def X12_frees_l90b    (x2 : Int32) : (Int32 × Int32 × SS) → Option ((Int32 × Int32 × SS) ⊕ (Int32 × SS)) := fun ss => X12_frees_l90c  ss.2.2  x2 ss.1 ss.2.1
def X12_frees_l90  (σ : SS)  (x2 : Int32) (x3 : Int32) (x4 : Int32) : Option (Int32 × SS) :=
  (iter (X12_frees_l90b    x2) NF (x3, x4, σ)).bind fun t90 =>
  some (t90.1, t90.2)
def X12_frees_l29  (σ : SS)  (x1 : Int32) (x2 : Int32) (x3 : Int32) : Option (Int32 × SS) :=
  (iter (X12_frees_l29b    x1 x2) NF (x3, σ)).bind fun t29 =>
  X12_frees_l90 t29 x2 (-1) 0
def X12_frees_j0  (σ : SS)  (x1 : Int32) : Option (Int32 × SS) :=
  (X12_crossings σ x1).bind fun v2 =>
  (some (wI σ 11 0 26 0)).bind fun σ8 =>
  (some (wI σ8 11 0 27 0)).bind fun σ13 =>
  (some (wI σ13 11 0 28 0)).bind fun σ18 =>
  if v2 = 0 then (some (0, σ18)) else
  (X12_frees_l29 σ18 x1 v2 0)
def X12_frees  (σ : SS)  (x1 : Int32) : Option (Int32 × SS) := X12_frees_j0  σ  x1
def X12_aloneOf_l19c  (σ : SS)  (x1 : Int32) (x2 : Int32) (x3 : Int32) (x4 : Int32) (x5 : Int32) : Option ((Int32 × Int32 × SS) ⊕ (Int32 × SS)) :=
  if x3 ≤ x5 then (some (Sum.inr (x4, σ))) else
  ((X12_loosensOnce σ ).bind fun p28 =>
    (some (x4 + p28.1)).bind fun x4_32 =>
    (some (x5 + 1)).bind fun x5_34 =>
    some (Sum.inl (x4_32, x5_34, p28.2)))
def X12_aloneOf_l19b    (x1 : Int32) (x2 : Int32) (x3 : Int32) : (Int32 × Int32 × SS) → Option ((Int32 × Int32 × SS) ⊕ (Int32 × SS)) := fun ss => X12_aloneOf_l19c  ss.2.2  x1 x2 x3 ss.1 ss.2.1
def X12_aloneOf_j107  (σ : SS)  (x1 : Int32) (x2 : Int32) (x3 : Int32) : Option ((Int32 × Int32 × SS) ⊕ (Int32 × SS)) :=
  (some (x3 + 1)).bind fun x3_107 =>
  some (Sum.inl (x2, x3_107, σ))
def X12_aloneOf_j67  (σ : SS)  (x1 : Int32) (x3 : Int32) (x4 : Int32) : Option ((Int32 × Int32 × SS) ⊕ (Int32 × SS)) :=
  (ck (LN 13 38) 0).bind fun j76 =>
  (some (wI σ 13 38 j76 x3)).bind fun σ76 =>
  (ck (LN 13 38) 1).bind fun j86 =>
  (some (wI σ76 13 38 j86 (σ76.1 11 0 26))).bind fun σ86 =>
  (ck (LN 13 38) 2).bind fun j96 =>
  (some (wI σ86 13 38 j96 (σ86.1 11 0 27))).bind fun σ96 =>
  (ck (LN 13 38) 3).bind fun j106 =>
  (some (wI σ96 13 38 j106 (σ96.1 11 0 28))).bind fun σ106 =>
  X12_aloneOf_j107 σ106 x1 x4 x3
def X12_aloneOf_l19  (σ : SS)  (x1 : Int32) (x2 : Int32) (x3 : Int32) (x4 : Int32) (x5 : Int32) : Option ((Int32 × Int32 × SS) ⊕ (Int32 × SS)) :=
  (iter (X12_aloneOf_l19b    x1 x2 x3) NF (x4, x5, σ)).bind fun t19 =>
  (X12_frees t19.2 x1).bind fun p44 =>
    (some (t19.1 + p44.1)).bind fun x4_48 =>
    (X12_gives p44.2 ).bind fun σ51 =>
    if x2 < 0 then (X12_aloneOf_j67 σ51 x1 x3 x4_48) else
    (if x4_48 < x2 then (X12_aloneOf_j67 σ51 x1 x3 x4_48) else
      (X12_aloneOf_j107 σ51 x1 x2 x3))
def X12_aloneOf_l4c  (σ : SS)  (x1 : Int32) (x2 : Int32) (x3 : Int32) : Option ((Int32 × Int32 × SS) ⊕ (Int32 × SS)) :=
  if 4 ≤ x3 then (some (Sum.inr (x2, σ))) else
  ((X12_keeps σ ).bind fun σ10 =>
    X12_aloneOf_l19 σ10 x1 x2 x3 0 0)
def X12_aloneOf_l4b    (x1 : Int32) : (Int32 × Int32 × SS) → Option ((Int32 × Int32 × SS) ⊕ (Int32 × SS)) := fun ss => X12_aloneOf_l4c  ss.2.2  x1 ss.1 ss.2.1
def X12_aloneOf_l4  (σ : SS)  (x1 : Int32) (x2 : Int32) (x3 : Int32) : Option (Int32 × SS) :=
  (iter (X12_aloneOf_l4b    x1) NF (x2, x3, σ)).bind fun t4 =>
  some (t4.1, t4.2)
def X12_aloneOf_j0  (σ : SS)  (x1 : Int32) : Option (Int32 × SS) :=
  X12_aloneOf_l4 σ x1 (-1) 0
def X12_aloneOf  (σ : SS)  (x1 : Int32) : Option (Int32 × SS) := X12_aloneOf_j0  σ  x1
def X12_alone_l47c  (σ : SS)  (x2 : Int32) (x3 : Int32) : Option ((Int32 × SS) ⊕ (SS)) :=
  if 4 ≤ x3 then (some (Sum.inr σ)) else
  ((ck (LN 13 38) x3).bind fun j62 =>
    (ck (LN 13 39) x3).bind fun j63 =>
    (some (wI σ 13 39 j63 (σ.1 13 38 j62))).bind fun σ63 =>
    (some (x3 + 1)).bind fun x3_64 =>
    some (Sum.inl (x3_64, σ63)))
def X12_alone_l47b    (x2 : Int32) : (Int32 × SS) → Option ((Int32 × SS) ⊕ (SS)) := fun ss => X12_alone_l47c  ss.2  x2 ss.1
def X12_alone_l47  (σ : SS)  (x2 : Int32) (x3 : Int32) : Option (Int32 × SS) :=
  (iter (X12_alone_l47b    x2) NF (x3, σ)).bind fun t47 =>
  (some (wI t47 11 0 33 1)).bind fun σ72 =>
    some (x2, σ72)
def X12_alone_j0  (σ : SS)  (x1 : Int32) : Option (Int32 × SS) :=
  (some (wI σ 11 0 1 0)).bind fun σ2 =>
  (some (wI σ2 11 0 0 0)).bind fun σ7 =>
  (X12_isLeadAt σ7 x1).bind fun v12 =>
  if v12 = 0 then ((X12_refuse σ7 2).bind fun p20 =>
    some (p20.1, p20.2)) else
  ((X12_isInside σ7 x1).bind fun v26 =>
    if v26 = 0 then ((X12_refuse σ7 9).bind fun p35 =>
      some (p35.1, p35.2)) else
    ((X12_aloneOf σ7 x1).bind fun p41 =>
      X12_alone_l47 p41.2 p41.1 0))
def X12_alone  (σ : SS)  (x1 : Int32) : Option (Int32 × SS) := X12_alone_j0  σ  x1
def X12_way_j0  (σ : SS)  (x1 : Int32) : Option (Int32 × SS) :=
  (some (wI σ 11 0 1 0)).bind fun σ2 =>
  (some (wI σ2 11 0 0 0)).bind fun σ7 =>
  (X12_isIn σ7 (Int32.toInt64 x1) 0 3).bind fun v16 =>
  if v16 = 0 then ((X12_refuse σ7 5).bind fun p24 =>
    some (p24.1, p24.2)) else
  (if (σ7.1 11 0 33) = 0 then ((X12_refuse σ7 8).bind fun p47 =>
      some (p47.1, p47.2)) else
    ((ck (LN 13 39) x1).bind fun j40 =>
      some ((σ7.1 13 39 j40), σ7)))
def X12_way  (σ : SS)  (x1 : Int32) : Option (Int32 × SS) := X12_way_j0  σ  x1
def X12_follows_j68  (σ : SS)   : Option (Int32 × SS) :=
  (X12_refuse σ 5).bind fun p70 =>
  some (p70.1, p70.2)
def X12_follows_l80c  (σ : SS)  (x1 : Int32) (x2 : Int32) (x3 : Int32) (x4 : Int32) (x5 : Int32) (x6 : Int32) : Option ((Int32 × Int32) ⊕ (Int32)) :=
  if x2 ≤ x6 then (some (Sum.inr x5)) else
  ((X12_alongOf σ x1 x6).bind fun v93 =>
    (X12_costOf σ v93 x1).bind fun v97 =>
    (some (x5 + v97)).bind fun x5_101 =>
    (some (x6 + 1)).bind fun x6_103 =>
    some (Sum.inl (x5_101, x6_103)))
def X12_follows_l80b  (σ : SS)  (x1 : Int32) (x2 : Int32) (x3 : Int32) (x4 : Int32) : (Int32 × Int32) → Option ((Int32 × Int32) ⊕ (Int32)) := fun ss => X12_follows_l80c  σ  x1 x2 x3 x4 ss.1 ss.2
def X12_follows_l112c  (σ : SS)  (x1 : Int32) (x3 : Int32) (x4 : Int32) (x5 : Int32) (x6 : Int32) : Option ((Int32 × Int32) ⊕ (Int32)) :=
  if x3 ≤ x6 then (some (Sum.inr x5)) else
  ((X12_alongOf σ x1 ((x4 - 1) - x6)).bind fun v130 =>
    (X12_costOf σ v130 x1).bind fun v134 =>
    (some (x5 + v134)).bind fun x5_138 =>
    (some (x6 + 1)).bind fun x6_140 =>
    some (Sum.inl (x5_138, x6_140)))
def X12_follows_l112b  (σ : SS)  (x1 : Int32) (x3 : Int32) (x4 : Int32) : (Int32 × Int32) → Option ((Int32 × Int32) ⊕ (Int32)) := fun ss => X12_follows_l112c  σ  x1 x3 x4 ss.1 ss.2
def X12_follows_l112  (σ : SS)  (x1 : Int32) (x3 : Int32) (x4 : Int32) (x5 : Int32) (x6 : Int32) : Option (Int32 × SS) :=
  (iter (X12_follows_l112b  σ  x1 x3 x4) NF (x5, x6)).bind fun t112 =>
  some (t112, σ)
def X12_follows_l80  (σ : SS)  (x1 : Int32) (x2 : Int32) (x3 : Int32) (x4 : Int32) (x5 : Int32) (x6 : Int32) : Option (Int32 × SS) :=
  (iter (X12_follows_l80b  σ  x1 x2 x3 x4) NF (x5, x6)).bind fun t80 =>
  X12_follows_l112 σ x1 x3 x4 t80 0
def X12_follows_j0  (σ : SS)  (x1 : Int32) (x2 : Int32) (x3 : Int32) : Option (Int32 × SS) :=
  (some (wI σ 11 0 1 0)).bind fun σ2 =>
  (some (wI σ2 11 0 0 0)).bind fun σ7 =>
  (X12_isLeadAt σ7 x1).bind fun v12 =>
  if v12 = 0 then ((X12_refuse σ7 2).bind fun p20 =>
    some (p20.1, p20.2)) else
  ((X12_isInside σ7 x1).bind fun v26 =>
    if v26 = 0 then ((X12_refuse σ7 9).bind fun p35 =>
      some (p35.1, p35.2)) else
    ((X12_crossings σ7 x1).bind fun v41 =>
      if x2 < 0 then (X12_follows_j68 σ7) else
      (if x3 < 0 then (X12_follows_j68 σ7) else
        (if v41 < x2 then (X12_follows_j68 σ7) else
          (if x3 ≤ (v41 - x2) then (X12_follows_l80 σ7 x1 x2 x3 v41 0 0) else
            (X12_follows_j68 σ7))))))
def X12_follows  (σ : SS)  (x1 : Int32) (x2 : Int32) (x3 : Int32) : Option (Int32 × SS) := X12_follows_j0  σ  x1 x2 x3
def X12_costAfter_l2c  (σ : SS)  (x1 : Int32) (x2 : Int32) (x3 : Int32) : Option ((Int32 × SS) ⊕ (SS)) :=
  if 132 ≤ x3 then (some (Sum.inr σ)) else
  ((ck (LN 13 34) x3).bind fun j19 =>
    (ck (LN 13 43) x3).bind fun j20 =>
    (some (wI σ 13 43 j20 (σ.1 13 34 j19))).bind fun σ20 =>
    (some (x3 + 1)).bind fun x3_21 =>
    some (Sum.inl (x3_21, σ20)))
def X12_costAfter_l2b    (x1 : Int32) (x2 : Int32) : (Int32 × SS) → Option ((Int32 × SS) ⊕ (SS)) := fun ss => X12_costAfter_l2c  ss.2  x1 x2 ss.1
def X12_costAfter_j53  (σ : SS)  (x1 : Int32) (x2 : Int32) (x3 : Int32) : Option ((Int32 × SS) ⊕ (SS)) :=
  (some (x3 + 1)).bind fun x3_53 =>
  some (Sum.inl (x3_53, σ))
def X12_costAfter_l29c  (σ : SS)  (x1 : Int32) (x2 : Int32) (x3 : Int32) : Option ((Int32 × SS) ⊕ (SS)) :=
  (ck (LN 13 34) 0).bind fun j35 =>
  if (σ.1 13 34 j35) ≤ x3 then (some (Sum.inr σ)) else
  ((X12_has σ x2 x3).bind fun v41 =>
    if v41 = 0 then (X12_costAfter_j53 σ x1 x2 x3) else
    ((X12_dropsAll σ x3).bind fun p49 =>
      X12_costAfter_j53 p49.2 x1 x2 x3))
def X12_costAfter_l29b    (x1 : Int32) (x2 : Int32) : (Int32 × SS) → Option ((Int32 × SS) ⊕ (SS)) := fun ss => X12_costAfter_l29c  ss.2  x1 x2 ss.1
def X12_costAfter_l68c  (σ : SS)  (x3 : Int32) (x4 : Int32) : Option ((Int32 × SS) ⊕ (SS)) :=
  if 132 ≤ x4 then (some (Sum.inr σ)) else
  ((ck (LN 13 43) x4).bind fun j88 =>
    (ck (LN 13 34) x4).bind fun j89 =>
    (some (wI σ 13 34 j89 (σ.1 13 43 j88))).bind fun σ89 =>
    (some (x4 + 1)).bind fun x4_90 =>
    some (Sum.inl (x4_90, σ89)))
def X12_costAfter_l68b    (x3 : Int32) : (Int32 × SS) → Option ((Int32 × SS) ⊕ (SS)) := fun ss => X12_costAfter_l68c  ss.2  x3 ss.1
def X12_costAfter_l68  (σ : SS)  (x3 : Int32) (x4 : Int32) : Option (Int32 × SS) :=
  (iter (X12_costAfter_l68b    x3) NF (x4, σ)).bind fun t68 =>
  some (x3, t68)
def X12_costAfter_l29  (σ : SS)  (x1 : Int32) (x2 : Int32) (x3 : Int32) : Option (Int32 × SS) :=
  (iter (X12_costAfter_l29b    x1 x2) NF (x3, σ)).bind fun t29 =>
  (X12_frees t29 x1).bind fun p61 =>
    X12_costAfter_l68 p61.2 p61.1 0
def X12_costAfter_l2  (σ : SS)  (x1 : Int32) (x2 : Int32) (x3 : Int32) : Option (Int32 × SS) :=
  (iter (X12_costAfter_l2b    x1 x2) NF (x3, σ)).bind fun t2 =>
  X12_costAfter_l29 t2 x1 x2 0
def X12_costAfter_j0  (σ : SS)  (x1 : Int32) (x2 : Int32) : Option (Int32 × SS) :=
  X12_costAfter_l2 σ x1 x2 0
def X12_costAfter  (σ : SS)  (x1 : Int32) (x2 : Int32) : Option (Int32 × SS) := X12_costAfter_j0  σ  x1 x2
def X12_allOf_j102  (σ : SS)  (x1 : Int32) (x2 : Int32) (x3 : Int32) : Option ((Int32 × SS) ⊕ (SS)) :=
  (some (x3 + 1)).bind fun x3_102 =>
  some (Sum.inl (x3_102, σ))
def X12_allOf_l44c  (σ : SS)  (x1 : Int32) (x2 : Int32) (x3 : Int32) : Option ((Int32 × SS) ⊕ (SS)) :=
  (ck (LN 13 34) 0).bind fun j50 =>
  if (σ.1 13 34 j50) ≤ x3 then (some (Sum.inr σ)) else
  ((X12_has σ x1 x3).bind fun v56 =>
    if v56 = 0 then (X12_allOf_j102 σ x1 x2 x3) else
    ((X12_has σ x2 x3).bind fun v64 =>
      if v64 = 0 then ((ck (LN 13 40) x2).bind fun j80 =>
        (X12_costAfter σ x3 x2).bind fun p84 =>
        (ck (LN 13 40) (x2 ||| (1 <<< (x3 &&& 31)))).bind fun j96 =>
        (ck (LN 13 40) x2).bind fun j101 =>
        (some (wI p84.2 13 40 j101 (imin (σ.1 13 40 j80) (p84.1 + (p84.2.1 13 40 j96))))).bind fun σ101 =>
        X12_allOf_j102 σ101 x1 x2 x3) else
      (X12_allOf_j102 σ x1 x2 x3)))
def X12_allOf_l44b    (x1 : Int32) (x2 : Int32) : (Int32 × SS) → Option ((Int32 × SS) ⊕ (SS)) := fun ss => X12_allOf_l44c  ss.2  x1 x2 ss.1
def X12_allOf_j108  (σ : SS)  (x1 : Int32) (x2 : Int32) : Option ((Int32 × SS) ⊕ (SS)) :=
  (some (x2 + (-1))).bind fun x2_108 =>
  some (Sum.inl (x2_108, σ))
def X12_allOf_l44  (σ : SS)  (x1 : Int32) (x2 : Int32) (x3 : Int32) : Option ((Int32 × SS) ⊕ (SS)) :=
  (iter (X12_allOf_l44b    x1 x2) NF (x3, σ)).bind fun t44 =>
  X12_allOf_j108 t44 x1 x2
def X12_allOf_j41  (σ : SS)  (x1 : Int32) (x2 : Int32) (s1 : Int32) (s2 : Int32) : Option ((Int32 × SS) ⊕ (SS)) :=
  (ck (LN 13 40) s1).bind fun j41 =>
  (some (wI σ 13 40 j41 s2)).bind fun σ41 =>
  X12_allOf_l44 σ41 x1 x2 0
def X12_allOf_l9c  (σ : SS)  (x1 : Int32) (x2 : Int32) : Option ((Int32 × SS) ⊕ (SS)) :=
  if x2 < 0 then (some (Sum.inr σ)) else
  (if (x2 &&& (x1 ^^^ (-1))) = 0 then (X12_allOf_j41 σ x1 x2 x2 (if x2 = x1 then 0 else 99999)) else
    (X12_allOf_j108 σ x1 x2))
def X12_allOf_l9b    (x1 : Int32) : (Int32 × SS) → Option ((Int32 × SS) ⊕ (SS)) := fun ss => X12_allOf_l9c  ss.2  x1 ss.1
def X12_allOf_j172  (σ : SS)  (x1 : Int32) (x2 : Int32) (x3 : Int32) (x4 : Int32) : Option ((Int32 × SS) ⊕ (Int32 × SS)) :=
  (some (x4 + 1)).bind fun x4_172 =>
  some (Sum.inl (x4_172, σ))
def X12_allOf_l126c  (σ : SS)  (x1 : Int32) (x2 : Int32) (x3 : Int32) (x4 : Int32) : Option ((Int32 × SS) ⊕ (Int32 × SS)) :=
  (X12_has σ x1 x4).bind fun v129 =>
  if v129 = 0 then (X12_allOf_j172 σ x1 x2 x3 x4) else
  ((X12_has σ x2 x4).bind fun v138 =>
    if v138 = 0 then ((X12_costAfter σ x4 x2).bind fun p148 =>
      (ck (LN 13 40) (x2 ||| (1 <<< (x4 &&& 31)))).bind fun j161 =>
      (ck (LN 13 40) x2).bind fun j168 =>
      if (p148.1 + (p148.2.1 13 40 j161)) = (p148.2.1 13 40 j168) then (some (Sum.inr (x4, p148.2))) else
      (X12_allOf_j172 p148.2 x1 x2 x3 x4)) else
    (X12_allOf_j172 σ x1 x2 x3 x4))
def X12_allOf_l126b    (x1 : Int32) (x2 : Int32) (x3 : Int32) : (Int32 × SS) → Option ((Int32 × SS) ⊕ (Int32 × SS)) := fun ss => X12_allOf_l126c  ss.2  x1 x2 x3 ss.1
def X12_allOf_l126  (σ : SS)  (x1 : Int32) (x2 : Int32) (x3 : Int32) (x4 : Int32) : Option ((Int32 × Int32 × SS) ⊕ (SS)) :=
  (iter (X12_allOf_l126b    x1 x2 x3) NF (x4, σ)).bind fun t126 =>
  (ck (LN 13 41) x3).bind fun j185 =>
    (some (wI t126.2 13 41 j185 t126.1)).bind fun σ185 =>
    (some (x3 + 1)).bind fun x3_186 =>
    (some (x2 ||| (1 <<< (t126.1 &&& 31)))).bind fun x2_195 =>
    some (Sum.inl (x2_195, x3_186, σ185))
def X12_allOf_l118c  (σ : SS)  (x1 : Int32) (x2 : Int32) (x3 : Int32) : Option ((Int32 × Int32 × SS) ⊕ (SS)) :=
  if x2 = x1 then (some (Sum.inr σ)) else
  (X12_allOf_l126 σ x1 x2 x3 0)
def X12_allOf_l118b    (x1 : Int32) : (Int32 × Int32 × SS) → Option ((Int32 × Int32 × SS) ⊕ (SS)) := fun ss => X12_allOf_l118c  ss.2.2  x1 ss.1 ss.2.1
def X12_allOf_l118  (σ : SS)  (x1 : Int32) (x2 : Int32) (x3 : Int32) : Option (Int32 × SS) :=
  (iter (X12_allOf_l118b    x1) NF (x2, x3, σ)).bind fun t118 =>
  (ck (LN 13 40) 0).bind fun j204 =>
    some ((t118.1 13 40 j204), t118)
def X12_allOf_l9  (σ : SS)  (x1 : Int32) (x2 : Int32) : Option (Int32 × SS) :=
  (iter (X12_allOf_l9b    x1) NF (x2, σ)).bind fun t9 =>
  X12_allOf_l118 t9 x1 0 0
def X12_allOf_j0  (σ : SS)   : Option (Int32 × SS) :=
  (ck (LN 13 34) 3).bind fun j5 =>
  (some (σ.1 13 34 j5)).bind fun x1_6 =>
  X12_allOf_l9 σ x1_6 x1_6
def X12_allOf  (σ : SS)   : Option (Int32 × SS) := X12_allOf_j0  σ  
def X12_all_l28c  (σ : SS)  (x1 : Int32) (x2 : Int32) (x3 : Int32) (x4 : Int32) : Option ((Int32 × Int32 × SS) ⊕ (Int32 × SS)) :=
  if x2 ≤ x4 then (some (Sum.inr (x3, σ))) else
  ((X12_loosensOnce σ ).bind fun p36 =>
    (some (x3 + p36.1)).bind fun x3_40 =>
    (some (x4 + 1)).bind fun x4_41 =>
    some (Sum.inl (x3_40, x4_41, p36.2)))
def X12_all_l28b    (x1 : Int32) (x2 : Int32) : (Int32 × Int32 × SS) → Option ((Int32 × Int32 × SS) ⊕ (Int32 × SS)) := fun ss => X12_all_l28c  ss.2.2  x1 x2 ss.1 ss.2.1
def X12_all_l93c  (σ : SS)  (x1 : Int32) (x2 : Int32) (x4 : Int32) : Option ((Int32 × SS) ⊕ (SS)) :=
  if (σ.1 11 0 38) ≤ x4 then (some (Sum.inr σ)) else
  ((ck (LN 13 41) x4).bind fun j114 =>
    (ck (LN 13 42) x4).bind fun j115 =>
    (some (wI σ 13 42 j115 (σ.1 13 41 j114))).bind fun σ115 =>
    (some (x4 + 1)).bind fun x4_116 =>
    some (Sum.inl (x4_116, σ115)))
def X12_all_l93b    (x1 : Int32) (x2 : Int32) : (Int32 × SS) → Option ((Int32 × SS) ⊕ (SS)) := fun ss => X12_all_l93c  ss.2  x1 x2 ss.1
def X12_all_j122  (σ : SS)  (x1 : Int32) (x2 : Int32) : Option ((Int32 × Int32 × SS) ⊕ (Int32 × SS)) :=
  (some (x2 + 1)).bind fun x2_122 =>
  some (Sum.inl (x1, x2_122, σ))
def X12_all_l93  (σ : SS)  (x1 : Int32) (x2 : Int32) (x4 : Int32) : Option ((Int32 × Int32 × SS) ⊕ (Int32 × SS)) :=
  (iter (X12_all_l93b    x1 x2) NF (x4, σ)).bind fun t93 =>
  X12_all_j122 t93 x1 x2
def X12_all_j70  (σ : SS)  (x2 : Int32) (x3 : Int32) : Option ((Int32 × Int32 × SS) ⊕ (Int32 × SS)) :=
  (some (wI σ 11 0 39 x2)).bind fun σ74 =>
  (ck (LN 13 34) 3).bind fun j83 =>
  (X12_sizeOf σ74 (σ74.1 13 34 j83)).bind fun v84 =>
  (some (wI σ74 11 0 38 v84)).bind fun σ87 =>
  X12_all_l93 σ87 x3 x2 0
def X12_all_l28  (σ : SS)  (x1 : Int32) (x2 : Int32) (x3 : Int32) (x4 : Int32) : Option ((Int32 × Int32 × SS) ⊕ (Int32 × SS)) :=
  (iter (X12_all_l28b    x1 x2) NF (x3, x4, σ)).bind fun t28 =>
  (X12_allOf t28.2 ).bind fun p49 =>
    (some (t28.1 + p49.1)).bind fun x3_53 =>
    (X12_gives p49.2 ).bind fun σ55 =>
    if x1 < 0 then (X12_all_j70 σ55 x2 x3_53) else
    (if x3_53 < x1 then (X12_all_j70 σ55 x2 x3_53) else
      (X12_all_j122 σ55 x1 x2))
def X12_all_l14c  (σ : SS)   (x1 : Int32) (x2 : Int32) : Option ((Int32 × Int32 × SS) ⊕ (Int32 × SS)) :=
  if 4 ≤ x2 then (some (Sum.inr (x1, σ))) else
  ((X12_keeps σ ).bind fun σ20 =>
    X12_all_l28 σ20 x1 x2 0 0)
def X12_all_l14b     : (Int32 × Int32 × SS) → Option ((Int32 × Int32 × SS) ⊕ (Int32 × SS)) := fun ss => X12_all_l14c  ss.2.2   ss.1 ss.2.1
def X12_all_l14  (σ : SS)  (x1 : Int32) (x2 : Int32) : Option (Int32 × SS) :=
  (iter (X12_all_l14b    ) NF (x1, x2, σ)).bind fun t14 =>
  some (t14.1, t14.2)
def X12_all_j0  (σ : SS)   : Option (Int32 × SS) :=
  (some (wI σ 11 0 1 0)).bind fun σ2 =>
  (some (wI σ2 11 0 0 0)).bind fun σ7 =>
  X12_all_l14 σ7 (-1) 0
def X12_all  (σ : SS)   : Option (Int32 × SS) := X12_all_j0  σ  
def X12_order_j0  (σ : SS)  (x1 : Int32) : Option (Int32 × SS) :=
  (some (wI σ 11 0 1 0)).bind fun σ2 =>
  (some (wI σ2 11 0 0 0)).bind fun σ7 =>
  (X12_isIn σ7 (Int32.toInt64 x1) 0 (Int32.toInt64 ((σ7.1 11 0 38) - 1))).bind fun v20 =>
  if v20 = 0 then ((X12_refuse σ7 8).bind fun p38 =>
    some (p38.1, p38.2)) else
  ((ck (LN 13 42) x1).bind fun j31 =>
    some ((σ7.1 13 42 j31), σ7))
def X12_order  (σ : SS)  (x1 : Int32) : Option (Int32 × SS) := X12_order_j0  σ  x1
def X12_loosens_j0  (σ : SS)   : Option (Int32 × SS) :=
  (some (wI σ 11 0 1 0)).bind fun σ2 =>
  (some (wI σ2 11 0 0 0)).bind fun σ7 =>
  if 0 ≤ (σ7.1 11 0 38) then (some ((σ7.1 11 0 39), σ7)) else
  ((X12_refuse σ7 8).bind fun p20 =>
    some (p20.1, p20.2))
def X12_loosens  (σ : SS)   : Option (Int32 × SS) := X12_loosens_j0  σ  
def X12_soonest_j62  (σ : SS)  (x1 : Int32) (x2 : Int32) (x3 : Int32) : Option ((Int32 × Int32 × Int32 × SS) ⊕ (Int32 × SS)) :=
  (some (x3 + 1)).bind fun x3_62 =>
  some (Sum.inl (x1, x2, x3_62, σ))
def X12_soonest_j57  (σ : SS)  (x3 : Int32) (x4 : Int32) : Option ((Int32 × Int32 × Int32 × SS) ⊕ (Int32 × SS)) :=
  X12_soonest_j62 σ x3 x4 x3
def X12_soonest_l16c  (σ : SS)   (x1 : Int32) (x2 : Int32) (x3 : Int32) : Option ((Int32 × Int32 × Int32 × SS) ⊕ (Int32 × SS)) :=
  (ck (LN 13 34) 0).bind fun j22 =>
  if (σ.1 13 34 j22) ≤ x3 then (some (Sum.inr (x1, σ))) else
  ((X12_isInside σ x3).bind fun v28 =>
    if v28 = 0 then (X12_soonest_j62 σ x1 x2 x3) else
    ((X12_aloneOf σ x3).bind fun p39 =>
      if x1 < 0 then (X12_soonest_j57 p39.2 x3 p39.1) else
      (if p39.1 < x2 then (X12_soonest_j57 p39.2 x3 p39.1) else
        (X12_soonest_j62 p39.2 x1 x2 x3))))
def X12_soonest_l16b     : (Int32 × Int32 × Int32 × SS) → Option ((Int32 × Int32 × Int32 × SS) ⊕ (Int32 × SS)) := fun ss => X12_soonest_l16c  ss.2.2.2   ss.1 ss.2.1 ss.2.2.1
def X12_soonest_l16  (σ : SS)  (x1 : Int32) (x2 : Int32) (x3 : Int32) : Option (Int32 × SS) :=
  (iter (X12_soonest_l16b    ) NF (x1, x2, x3, σ)).bind fun t16 =>
  if 0 ≤ t16.1 then (some (t16.1, t16.2)) else
    ((X12_refuse t16.2 8).bind fun p75 =>
      some (p75.1, p75.2))
def X12_soonest_j0  (σ : SS)   : Option (Int32 × SS) :=
  (some (wI σ 11 0 1 0)).bind fun σ2 =>
  (some (wI σ2 11 0 0 0)).bind fun σ7 =>
  X12_soonest_l16 σ7 (-1) 0 0
def X12_soonest  (σ : SS)   : Option (Int32 × SS) := X12_soonest_j0  σ  
def X12_fresh_j0  (σ : SS)  (x1 : Int32) (x2 : Int32) : Option (Int32 × SS) :=
  (some (wI σ 11 0 1 0)).bind fun σ2 =>
  (some (wI σ2 11 0 0 0)).bind fun σ7 =>
  (X12_isLeadAt σ7 x1).bind fun v12 =>
  if v12 = 0 then ((X12_no σ7 2).bind fun p20 =>
    (zb p20.1).bind fun b23 =>
    some (p20.1, p20.2)) else
  ((X12_isInside σ7 x1).bind fun v26 =>
    if v26 = 0 then ((X12_no σ7 9).bind fun p35 =>
      (zb p35.1).bind fun b38 =>
      some (p35.1, p35.2)) else
    ((X12_isIn σ7 (Int32.toInt64 x2) 0 999).bind fun v45 =>
      if v45 = 0 then ((X12_no σ7 5).bind fun p53 =>
        (zb p53.1).bind fun b56 =>
        some (p53.1, p53.2)) else
      ((X12_aloneOf σ7 x1).bind fun p60 =>
        (ck (LN 13 34) (40 + x1)).bind fun j78 =>
        (X12_fraction p60.2 (((Int32.toInt64 p60.1) * (Int32.toInt64 x2)) - (60 * (Int32.toInt64 (p60.2.1 13 34 j78)))) 60).bind fun p85 =>
        (zb p85.1).bind fun b88 =>
        some (p85.1, p85.2))))
def X12_fresh  (σ : SS)  (x1 : Int32) (x2 : Int32) : Option (Int32 × SS) := X12_fresh_j0  σ  x1 x2
def X12_growth_j48  (σ : SS)  (x2 : Int32) (s0 : Int32) (s1 : Int32) : Option ((Int32 × Int32) ⊕ (Int32)) :=
  (some (s0 + s1)).bind fun x1_49 =>
  (some (x2 + 1)).bind fun x2_50 =>
  some (Sum.inl (x1_49, x2_50))
def X12_growth_l17c  (σ : SS)   (x1 : Int32) (x2 : Int32) : Option ((Int32 × Int32) ⊕ (Int32)) :=
  (ck (LN 13 34) 0).bind fun j23 =>
  if (σ.1 13 34 j23) ≤ x2 then (some (Sum.inr x1)) else
  ((X12_crossable σ ).bind fun v29 =>
    (X12_has σ v29 x2).bind fun v33 =>
    if v33 = 0 then (X12_growth_j48 σ x2 x1 0) else
    ((X12_riskOf σ x2).bind fun v41 =>
      X12_growth_j48 σ x2 x1 v41))
def X12_growth_l17b  (σ : SS)   : (Int32 × Int32) → Option ((Int32 × Int32) ⊕ (Int32)) := fun ss => X12_growth_l17c  σ   ss.1 ss.2
def X12_growth_l17  (σ : SS)  (x1 : Int32) (x2 : Int32) : Option (Int32) :=
  (iter (X12_growth_l17b  σ  ) NF (x1, x2)).bind fun t17 =>
  some t17
def X12_growth_j0  (σ : SS)   : Option (Int32) :=
  (X12_crossable σ ).bind fun v1 =>
  (X12_sizeOf σ v1).bind fun v4 =>
  if 2 ≤ v4 then (X12_growth_l17 σ 0 0) else
  (some 0)
def X12_growth  (σ : SS)   : Option (Int32) := X12_growth_j0  σ  
def X12_grows_j0  (σ : SS)   : Option (Int32 × SS) :=
  (some (wI σ 11 0 1 0)).bind fun σ2 =>
  (some (wI σ2 11 0 0 0)).bind fun σ7 =>
  (X12_growth σ7 ).bind fun v12 =>
  (X12_fraction σ7 (Int32.toInt64 v12) 16).bind fun p19 =>
  (zb p19.1).bind fun b22 =>
  some (p19.1, p19.2)
def X12_grows  (σ : SS)   : Option (Int32 × SS) := X12_grows_j0  σ  
def X12_clips_l12c  (σ : SS)   (x1 : Int32) : Option ((Int32) ⊕ ((Int32) ⊕ (Unit))) :=
  if 1000 ≤ x1 then (some (Sum.inr (Sum.inr ()))) else
  ((X12_growth σ ).bind fun v21 =>
    (X12_crossable σ ).bind fun v31 =>
    (X12_sizeOf σ v31).bind fun v34 =>
    if ((x1 * v21) * 5) ≤ (192 * v34) then ((some (x1 + 1)).bind fun x1_43 =>
      some (Sum.inl x1_43)) else
    (some (Sum.inr (Sum.inl x1))))
def X12_clips_l12b  (σ : SS)   : (Int32) → Option ((Int32) ⊕ ((Int32) ⊕ (Unit))) := fun ss => X12_clips_l12c  σ   ss
def X12_clips_l12  (σ : SS)  (x1 : Int32) : Option (Int32 × SS) :=
  (iter (X12_clips_l12b  σ  ) NF x1).bind fun t12 => match t12 with
  | Sum.inl e41 => some (e41, σ)
  | Sum.inr u41 => ((X12_refuse σ 8).bind fun p52 =>
      some (p52.1, p52.2))
def X12_clips_j0  (σ : SS)   : Option (Int32 × SS) :=
  (some (wI σ 11 0 1 0)).bind fun σ2 =>
  (some (wI σ2 11 0 0 0)).bind fun σ7 =>
  X12_clips_l12 σ7 1
def X12_clips  (σ : SS)   : Option (Int32 × SS) := X12_clips_j0  σ  
def X12_aheadOf_j81  (σ : SS)  (x1 : Int32) (x2 : Int32) (x4 : Int32) (s0 : Int32) (s1 : Int32) : Option ((Int32 × Int32) ⊕ (Int32)) :=
  (some (s0 + s1)).bind fun x3_82 =>
  (some (x4 + 1)).bind fun x4_83 =>
  some (Sum.inl (x3_82, x4_83))
def X12_aheadOf_j80  (σ : SS)  (x1 : Int32) (x2 : Int32) (x4 : Int32) (s0 : Int32) : Option ((Int32 × Int32) ⊕ (Int32)) :=
  X12_aheadOf_j81 σ x1 x2 x4 s0 0
def X12_aheadOf_j76  (σ : SS)  (x1 : Int32) (x2 : Int32) (x4 : Int32) (s0 : Int32) : Option ((Int32 × Int32) ⊕ (Int32)) :=
  X12_aheadOf_j81 σ x1 x2 x4 s0 1
def X12_aheadOf_l5c  (σ : SS)  (x1 : Int32) (x2 : Int32) (x3 : Int32) (x4 : Int32) : Option ((Int32 × Int32) ⊕ (Int32)) :=
  (ck (LN 13 34) 0).bind fun j12 =>
  if (σ.1 13 34 j12) ≤ x4 then (some (Sum.inr x3)) else
  ((X12_has σ x1 x4).bind fun v20 =>
    if v20 = 0 then (X12_aheadOf_j80 σ x1 x2 x4 x3) else
    ((ck (LN 13 34) (48 + x4)).bind fun j35 =>
      (ck (LN 13 34) (48 + x2)).bind fun j44 =>
      if (σ.1 13 34 j44) < (σ.1 13 34 j35) then (X12_aheadOf_j76 σ x1 x2 x4 x3) else
      ((ck (LN 13 34) (48 + x4)).bind fun j57 =>
        (ck (LN 13 34) (48 + x2)).bind fun j66 =>
        if (σ.1 13 34 j57) = (σ.1 13 34 j66) then (if x2 ≤ x4 then (X12_aheadOf_j80 σ x1 x2 x4 x3) else
          (X12_aheadOf_j76 σ x1 x2 x4 x3)) else
        (X12_aheadOf_j80 σ x1 x2 x4 x3))))
def X12_aheadOf_l5b  (σ : SS)  (x1 : Int32) (x2 : Int32) : (Int32 × Int32) → Option ((Int32 × Int32) ⊕ (Int32)) := fun ss => X12_aheadOf_l5c  σ  x1 x2 ss.1 ss.2
def X12_aheadOf_l5  (σ : SS)  (x1 : Int32) (x2 : Int32) (x3 : Int32) (x4 : Int32) : Option (Int32) :=
  (iter (X12_aheadOf_l5b  σ  x1 x2) NF (x3, x4)).bind fun t5 =>
  some t5
def X12_aheadOf_j0  (σ : SS)  (x1 : Int32) (x2 : Int32) : Option (Int32) :=
  X12_aheadOf_l5 σ x1 x2 0 0
def X12_aheadOf  (σ : SS)  (x1 : Int32) (x2 : Int32) : Option (Int32) := X12_aheadOf_j0  σ  x1 x2
def X12_tries_j131  (σ : SS)  (x2 : Int32) (x3 : Int32) (x4 : Int32) (x5 : Int32) : Option ((Int32 × Int32 × Int32) ⊕ (Int32 × Int32)) :=
  (some (x5 + 1)).bind fun x5_131 =>
  some (Sum.inl (x3, x4, x5_131))
def X12_tries_l70c  (σ : SS)  (x2 : Int32) (x3 : Int32) (x4 : Int32) (x5 : Int32) : Option ((Int32 × Int32 × Int32) ⊕ (Int32 × Int32)) :=
  (ck (LN 13 34) 0).bind fun j77 =>
  if (σ.1 13 34 j77) ≤ x5 then (some (Sum.inr (x3, x4))) else
  ((X12_has σ x2 x5).bind fun v84 =>
    if v84 = 0 then (X12_tries_j131 σ x2 x3 x4 x5) else
    ((ck (LN 13 34) (48 + x5)).bind fun j103 =>
      (some (x3 + (σ.1 13 34 j103))).bind fun x3_105 =>
      (ck (LN 13 34) (48 + x5)).bind fun j117 =>
      (X12_aheadOf σ x2 x5).bind fun v123 =>
      (some (x4 + ((σ.1 13 34 j117) * (1 + v123)))).bind fun x4_129 =>
      X12_tries_j131 σ x2 x3_105 x4_129 x5))
def X12_tries_l70b  (σ : SS)  (x2 : Int32) : (Int32 × Int32 × Int32) → Option ((Int32 × Int32 × Int32) ⊕ (Int32 × Int32)) := fun ss => X12_tries_l70c  σ  x2 ss.1 ss.2.1 ss.2.2
def X12_tries_l70  (σ : SS)  (x2 : Int32) (x3 : Int32) (x4 : Int32) (x5 : Int32) : Option (Int32 × SS) :=
  (iter (X12_tries_l70b  σ  x2) NF (x3, x4, x5)).bind fun t70 =>
  if t70.1 = 0 then ((X12_no σ 9).bind fun p144 =>
      (zb p144.1).bind fun b159 =>
      some (p144.1, p144.2)) else
    ((X12_fraction σ (Int32.toInt64 t70.2) (Int32.toInt64 t70.1)).bind fun p156 =>
      (zb p156.1).bind fun b159 =>
      some (p156.1, p156.2))
def X12_tries_j0  (σ : SS)  (x1 : Int32) : Option (Int32 × SS) :=
  (some (wI σ 11 0 1 0)).bind fun σ2 =>
  (some (wI σ2 11 0 0 0)).bind fun σ7 =>
  (ck (LN 13 34) 2).bind fun j18 =>
  (X12_isIn σ7 (Int32.toInt64 x1) 0 (Int32.toInt64 ((σ7.1 13 34 j18) - 1))).bind fun v22 =>
  if v22 = 0 then ((X12_no σ7 2).bind fun p30 =>
    (zb p30.1).bind fun b33 =>
    some (p30.1, p30.2)) else
  ((ck (LN 13 34) (56 + x1)).bind fun j42 =>
    (ck (LN 13 34) 3).bind fun j48 =>
    (some ((σ7.1 13 34 j42) &&& (σ7.1 13 34 j48))).bind fun x2_50 =>
    if x2_50 = 0 then ((X12_no σ7 8).bind fun p58 =>
      (zb p58.1).bind fun b61 =>
      some (p58.1, p58.2)) else
    (X12_tries_l70 σ7 x2_50 0 0 0))
def X12_tries  (σ : SS)  (x1 : Int32) : Option (Int32 × SS) := X12_tries_j0  σ  x1
def X12_nextTry_j88  (σ : SS)  (x2 : Int32) (x3 : Int32) (x4 : Int32) : Option ((Int32) ⊕ ((Int32) ⊕ (Unit))) :=
  (some (x4 + 1)).bind fun x4_88 =>
  some (Sum.inl x4_88)
def X12_nextTry_l54c  (σ : SS)  (x2 : Int32) (x3 : Int32) (x4 : Int32) : Option ((Int32) ⊕ ((Int32) ⊕ (Unit))) :=
  (ck (LN 13 34) 0).bind fun j61 =>
  if (σ.1 13 34 j61) ≤ x4 then (some (Sum.inr (Sum.inr ()))) else
  ((X12_has σ x3 x4).bind fun v68 =>
    if v68 = 0 then (X12_nextTry_j88 σ x2 x3 x4) else
    ((X12_aheadOf σ x3 x4).bind fun v78 =>
      if v78 = x2 then (some (Sum.inr (Sum.inl x4))) else
      (X12_nextTry_j88 σ x2 x3 x4)))
def X12_nextTry_l54b  (σ : SS)  (x2 : Int32) (x3 : Int32) : (Int32) → Option ((Int32) ⊕ ((Int32) ⊕ (Unit))) := fun ss => X12_nextTry_l54c  σ  x2 x3 ss
def X12_nextTry_l54  (σ : SS)  (x2 : Int32) (x3 : Int32) (x4 : Int32) : Option (Int32 × SS) :=
  (iter (X12_nextTry_l54b  σ  x2 x3) NF x4).bind fun t54 => match t54 with
  | Sum.inl e85 => some (e85, σ)
  | Sum.inr u85 => ((X12_refuse σ 8).bind fun p97 =>
      some (p97.1, p97.2))
def X12_nextTry_j0  (σ : SS)  (x1 : Int32) (x2 : Int32) : Option (Int32 × SS) :=
  (some (wI σ 11 0 1 0)).bind fun σ2 =>
  (some (wI σ2 11 0 0 0)).bind fun σ7 =>
  (ck (LN 13 34) 2).bind fun j18 =>
  (X12_isIn σ7 (Int32.toInt64 x1) 0 (Int32.toInt64 ((σ7.1 13 34 j18) - 1))).bind fun v22 =>
  if v22 = 0 then ((X12_refuse σ7 2).bind fun p30 =>
    some (p30.1, p30.2)) else
  ((ck (LN 13 34) (56 + x1)).bind fun j42 =>
    (ck (LN 13 34) 3).bind fun j48 =>
    (some ((σ7.1 13 34 j42) &&& (σ7.1 13 34 j48))).bind fun x3_50 =>
    X12_nextTry_l54 σ7 x2 x3_50 0)
def X12_nextTry  (σ : SS)  (x1 : Int32) (x2 : Int32) : Option (Int32 × SS) := X12_nextTry_j0  σ  x1 x2
def X12_longOf_j36  (σ : SS)  (x1 : Int32) (x3 : Int32) (s0 : Int32) (s1 : Int32) : Option ((Int32 × Int32) ⊕ (Int32)) :=
  (some (s0 + s1)).bind fun x2_37 =>
  (some (x3 + 1)).bind fun x3_38 =>
  some (Sum.inl (x2_37, x3_38))
def X12_longOf_l4c  (σ : SS)  (x1 : Int32) (x2 : Int32) (x3 : Int32) : Option ((Int32 × Int32) ⊕ (Int32)) :=
  (ck (LN 13 34) 0).bind fun j10 =>
  if (σ.1 13 34 j10) ≤ x3 then (some (Sum.inr x2)) else
  ((X12_has σ x1 x3).bind fun v17 =>
    if v17 = 0 then (X12_longOf_j36 σ x1 x3 x2 0) else
    ((ck (LN 13 34) (8 + x3)).bind fun j31 =>
      X12_longOf_j36 σ x1 x3 x2 (σ.1 13 34 j31)))
def X12_longOf_l4b  (σ : SS)  (x1 : Int32) : (Int32 × Int32) → Option ((Int32 × Int32) ⊕ (Int32)) := fun ss => X12_longOf_l4c  σ  x1 ss.1 ss.2
def X12_longOf_l4  (σ : SS)  (x1 : Int32) (x2 : Int32) (x3 : Int32) : Option (Int32) :=
  (iter (X12_longOf_l4b  σ  x1) NF (x2, x3)).bind fun t4 =>
  some t4
def X12_longOf_j0  (σ : SS)  (x1 : Int32) : Option (Int32) :=
  X12_longOf_l4 σ x1 0 0
def X12_longOf  (σ : SS)  (x1 : Int32) : Option (Int32) := X12_longOf_j0  σ  x1
def X12_boxes_j75  (σ : SS)  (x1 : Int32) (x2 : Int32) (x3 : Int32) : Option ((Int32) ⊕ ((Unit) ⊕ (Unit))) :=
  (some (x3 + 1)).bind fun x3_75 =>
  some (Sum.inl x3_75)
def X12_boxes_l37c  (σ : SS)  (x1 : Int32) (x2 : Int32) (x3 : Int32) : Option ((Int32) ⊕ ((Unit) ⊕ (Unit))) :=
  (ck (LN 13 34) 0).bind fun j43 =>
  if (σ.1 13 34 j43) ≤ x3 then (some (Sum.inr (Sum.inr ()))) else
  ((X12_has σ x2 x3).bind fun v49 =>
    if v49 = 0 then (X12_boxes_j75 σ x1 x2 x3) else
    ((ck (LN 13 34) (8 + x3)).bind fun j63 =>
      if (σ.1 13 34 j63) ≤ x1 then (X12_boxes_j75 σ x1 x2 x3) else
      (some (Sum.inr (Sum.inl ())))))
def X12_boxes_l37b  (σ : SS)  (x1 : Int32) (x2 : Int32) : (Int32) → Option ((Int32) ⊕ ((Unit) ⊕ (Unit))) := fun ss => X12_boxes_l37c  σ  x1 x2 ss
def X12_boxes_j161  (σ : SS)  (x1 : Int32) (x2 : Int32) (x3 : Int32) (x4 : Int32) : Option ((Int32 × SS) ⊕ (SS)) :=
  (some ((x4 - 1) &&& x3)).bind fun x4_167 =>
  some (Sum.inl (x4_167, σ))
def X12_boxes_l118c  (σ : SS)  (x1 : Int32) (x2 : Int32) (x3 : Int32) (x4 : Int32) : Option ((Int32 × SS) ⊕ (SS)) :=
  if x4 ≤ 0 then (some (Sum.inr σ)) else
  ((X12_longOf σ x4).bind fun v126 =>
    if x1 < v126 then (X12_boxes_j161 σ x1 x2 x3 x4) else
    ((ck (LN 13 40) x3).bind fun j143 =>
      (ck (LN 13 40) (x3 &&& (x4 ^^^ (-1)))).bind fun j155 =>
      (ck (LN 13 40) x3).bind fun j160 =>
      (some (wI σ 13 40 j160 (imin (σ.1 13 40 j143) (1 + (σ.1 13 40 j155))))).bind fun σ160 =>
      X12_boxes_j161 σ160 x1 x2 x3 x4))
def X12_boxes_l118b    (x1 : Int32) (x2 : Int32) (x3 : Int32) : (Int32 × SS) → Option ((Int32 × SS) ⊕ (SS)) := fun ss => X12_boxes_l118c  ss.2  x1 x2 x3 ss.1
def X12_boxes_j172  (σ : SS)  (x1 : Int32) (x2 : Int32) (x3 : Int32) : Option ((Int32 × SS) ⊕ (SS)) :=
  (some (x3 + 1)).bind fun x3_172 =>
  some (Sum.inl (x3_172, σ))
def X12_boxes_l118  (σ : SS)  (x1 : Int32) (x2 : Int32) (x3 : Int32) (x4 : Int32) : Option ((Int32 × SS) ⊕ (SS)) :=
  (iter (X12_boxes_l118b    x1 x2 x3) NF (x4, σ)).bind fun t118 =>
  X12_boxes_j172 t118 x1 x2 x3
def X12_boxes_j103  (σ : SS)  (x1 : Int32) (x2 : Int32) (x3 : Int32) (s1 : Int32) (s2 : Int32) : Option ((Int32 × SS) ⊕ (SS)) :=
  (ck (LN 13 40) s1).bind fun j103 =>
  (some (wI σ 13 40 j103 s2)).bind fun σ103 =>
  if (x3 &&& (x2 ^^^ (-1))) = 0 then (X12_boxes_l118 σ103 x1 x2 x3 x3) else
  (X12_boxes_j172 σ103 x1 x2 x3)
def X12_boxes_l83c  (σ : SS)  (x1 : Int32) (x2 : Int32) (x3 : Int32) : Option ((Int32 × SS) ⊕ (SS)) :=
  if x2 < x3 then (some (Sum.inr σ)) else
  (X12_boxes_j103 σ x1 x2 x3 x3 (if x3 = 0 then 0 else 99))
def X12_boxes_l83b    (x1 : Int32) (x2 : Int32) : (Int32 × SS) → Option ((Int32 × SS) ⊕ (SS)) := fun ss => X12_boxes_l83c  ss.2  x1 x2 ss.1
def X12_boxes_l83  (σ : SS)  (x1 : Int32) (x2 : Int32) (x3 : Int32) : Option (Int32 × SS) :=
  (iter (X12_boxes_l83b    x1 x2) NF (x3, σ)).bind fun t83 =>
  (ck (LN 13 40) x2).bind fun j183 =>
    some ((t83.1 13 40 j183), t83)
def X12_boxes_l37  (σ : SS)  (x1 : Int32) (x2 : Int32) (x3 : Int32) : Option (Int32 × SS) :=
  (iter (X12_boxes_l37b  σ  x1 x2) NF x3).bind fun t37 => match t37 with
  | Sum.inl e68 => (X12_refuse σ 9).bind fun p71 =>
      some (p71.1, p71.2)
  | Sum.inr u68 => (X12_boxes_l83 σ x1 x2 0)
def X12_boxes_j0  (σ : SS)  (x1 : Int32) : Option (Int32 × SS) :=
  (some (wI σ 11 0 1 0)).bind fun σ2 =>
  (some (wI σ2 11 0 0 0)).bind fun σ7 =>
  (X12_isIn σ7 (Int32.toInt64 x1) 1 99).bind fun v16 =>
  if v16 = 0 then ((X12_refuse σ7 5).bind fun p24 =>
    some (p24.1, p24.2)) else
  ((ck (LN 13 34) 3).bind fun j33 =>
    (some (σ7.1 13 34 j33)).bind fun x2_34 =>
    X12_boxes_l37 σ7 x1 x2_34 0)
def X12_boxes  (σ : SS)  (x1 : Int32) : Option (Int32 × SS) := X12_boxes_j0  σ  x1
def X12_waste_j90  (σ : SS)  (x1 : Int32) (x3 : Int32) (s0 : Int32) (s1 : Int32) : Option ((Int32 × Int32) ⊕ (Int32)) :=
  (some (s0 ||| s1)).bind fun x2_91 =>
  (some (x3 + 1)).bind fun x3_92 =>
  some (Sum.inl (x2_91, x3_92))
def X12_waste_j89  (σ : SS)  (x1 : Int32) (x3 : Int32) (s0 : Int32) : Option ((Int32 × Int32) ⊕ (Int32)) :=
  X12_waste_j90 σ x1 x3 s0 0
def X12_waste_l32c  (σ : SS)  (x1 : Int32) (x2 : Int32) (x3 : Int32) : Option ((Int32 × Int32) ⊕ (Int32)) :=
  (ck (LN 13 34) 0).bind fun j38 =>
  if (σ.1 13 34 j38) ≤ x3 then (some (Sum.inr x2)) else
  ((X12_isInside σ x3).bind fun v45 =>
    if v45 = 0 then (X12_waste_j89 σ x1 x3 x2) else
    ((ck (LN 13 34) (40 + x3)).bind fun j59 =>
      (ck (LN 13 34) (48 + x3)).bind fun j68 =>
      (X12_crossings σ x3).bind fun v76 =>
      if ((16 * x1) * v76) ≤ ((σ.1 13 34 j59) * (σ.1 13 34 j68)) then (X12_waste_j89 σ x1 x3 x2) else
      (X12_waste_j90 σ x1 x3 x2 (1 <<< (x3 &&& 31)))))
def X12_waste_l32b  (σ : SS)  (x1 : Int32) : (Int32 × Int32) → Option ((Int32 × Int32) ⊕ (Int32)) := fun ss => X12_waste_l32c  σ  x1 ss.1 ss.2
def X12_waste_l32  (σ : SS)  (x1 : Int32) (x2 : Int32) (x3 : Int32) : Option (Int32 × SS) :=
  (iter (X12_waste_l32b  σ  x1) NF (x2, x3)).bind fun t32 =>
  some (t32, σ)
def X12_waste_j0  (σ : SS)  (x1 : Int32) : Option (Int32 × SS) :=
  (some (wI σ 11 0 1 0)).bind fun σ2 =>
  (some (wI σ2 11 0 0 0)).bind fun σ7 =>
  (X12_isIn σ7 (Int32.toInt64 x1) 0 999).bind fun v16 =>
  if v16 = 0 then ((X12_refuse σ7 5).bind fun p24 =>
    some (p24.1, p24.2)) else
  (X12_waste_l32 σ7 x1 0 0)
def X12_waste  (σ : SS)  (x1 : Int32) : Option (Int32 × SS) := X12_waste_j0  σ  x1
def X12_takes_l8c  (σ : SS)  (x1 : Int32) (x2 : Int32) : Option ((Int32 × SS) ⊕ (SS)) :=
  (ck (LN 13 38) 0).bind fun j14 =>
  if (σ.1 13 38 j14) ≤ x2 then (some (Sum.inr σ)) else
  ((X12_loosensOnce σ ).bind fun p19 =>
    (some (x2 + 1)).bind fun x2_23 =>
    some (Sum.inl (x2_23, p19.2)))
def X12_takes_l8b    (x1 : Int32) : (Int32 × SS) → Option ((Int32 × SS) ⊕ (SS)) := fun ss => X12_takes_l8c  ss.2  x1 ss.1
def X12_takes_l31c  (σ : SS)  (x1 : Int32) (x2 : Int32) : Option ((Int32 × SS) ⊕ (SS)) :=
  (ck (LN 13 38) 1).bind fun j37 =>
  if (σ.1 13 38 j37) ≤ x2 then (some (Sum.inr σ)) else
  ((X12_followsOne σ x1 0).bind fun p44 =>
    (some (x2 + 1)).bind fun x2_48 =>
    some (Sum.inl (x2_48, p44.2)))
def X12_takes_l31b    (x1 : Int32) : (Int32 × SS) → Option ((Int32 × SS) ⊕ (SS)) := fun ss => X12_takes_l31c  ss.2  x1 ss.1
def X12_takes_l56c  (σ : SS)  (x1 : Int32) (x2 : Int32) : Option ((Int32 × SS) ⊕ (SS)) :=
  (ck (LN 13 38) 2).bind fun j62 =>
  if (σ.1 13 38 j62) ≤ x2 then (some (Sum.inr σ)) else
  ((X12_followsOne σ x1 1).bind fun p69 =>
    (some (x2 + 1)).bind fun x2_73 =>
    some (Sum.inl (x2_73, p69.2)))
def X12_takes_l56b    (x1 : Int32) : (Int32 × SS) → Option ((Int32 × SS) ⊕ (SS)) := fun ss => X12_takes_l56c  ss.2  x1 ss.1
def X12_takes_j94  (σ : SS)   : Option (SS) :=
  (some (wI σ 11 0 48 ((σ.1 11 0 48) + 1))).bind fun σ101 =>
  some σ101
def X12_takes_l56  (σ : SS)  (x1 : Int32) (x2 : Int32) : Option (SS) :=
  (iter (X12_takes_l56b    x1) NF (x2, σ)).bind fun t56 =>
  (ck (LN 13 38) 3).bind fun j84 =>
    if (t56.1 13 38 j84) = 1 then ((X12_pulls t56 x1).bind fun σ91 =>
      X12_takes_j94 σ91) else
    (X12_takes_j94 t56)
def X12_takes_l31  (σ : SS)  (x1 : Int32) (x2 : Int32) : Option (SS) :=
  (iter (X12_takes_l31b    x1) NF (x2, σ)).bind fun t31 =>
  X12_takes_l56 t31 x1 0
def X12_takes_l8  (σ : SS)  (x1 : Int32) (x2 : Int32) : Option (SS) :=
  (iter (X12_takes_l8b    x1) NF (x2, σ)).bind fun t8 =>
  X12_takes_l31 t8 x1 0
def X12_takes_j0  (σ : SS)  (x1 : Int32) : Option (SS) :=
  (X12_aloneOf σ x1).bind fun p2 =>
  X12_takes_l8 p2.2 x1 0
def X12_takes  (σ : SS)  (x1 : Int32) : Option (SS) := X12_takes_j0  σ  x1
def X12_does_l23c  (σ : SS)  (x3 : Int32) (x4 : Int32) : Option ((Int32 × SS) ⊕ (SS)) :=
  if x3 ≤ x4 then (some (Sum.inr σ)) else
  ((X12_opens σ ).bind fun p35 =>
    (some (wI p35.2 11 0 47 ((σ.1 11 0 47) + p35.1))).bind fun σ39 =>
    (some (x4 + 1)).bind fun x4_42 =>
    some (Sum.inl (x4_42, σ39)))
def X12_does_l23b    (x3 : Int32) : (Int32 × SS) → Option ((Int32 × SS) ⊕ (SS)) := fun ss => X12_does_l23c  ss.2  x3 ss.1
def X12_does_l23  (σ : SS)  (x3 : Int32) (x4 : Int32) : Option (Int32 × SS) :=
  (iter (X12_does_l23b    x3) NF (x4, σ)).bind fun t23 =>
  (some (wI t23 11 0 46 ((t23.1 11 0 46) + x3))).bind fun σ55 =>
    some (1, σ55)
def X12_does_j0  (σ : SS)  (x1 : Int32) : Option (Int32 × SS) :=
  (ck (LN 13 34) x1).bind fun j5 =>
  (some (σ.1 13 34 j5)).bind fun x2_6 =>
  (ck (LN 13 34) (x1 + 1)).bind fun j14 =>
  (some (σ.1 13 34 j14)).bind fun x3_15 =>
  if x2_6 = 0 then (X12_does_l23 σ x3_15 0) else
  (if x2_6 = 2 then ((X12_loosensOnce σ ).bind fun p66 =>
      some (1, p66.2)) else
    ((X12_isInside σ x3_15).bind fun v74 =>
      if v74 = 0 then (some (0, σ)) else
      (if x2_6 = 1 then ((X12_takes σ x3_15).bind fun σ89 =>
          some (1, σ89)) else
        (if x2_6 = 3 then ((X12_pulls σ x3_15).bind fun σ102 =>
            some (1, σ102)) else
          (if x2_6 = 4 then ((X12_cuts σ x3_15).bind fun p115 =>
              some (1, p115.2)) else
            ((X12_clips2 σ x3_15).bind fun p124 =>
              (zb p124.1).bind fun b127 =>
              some (p124.1, p124.2)))))))
def X12_does  (σ : SS)  (x1 : Int32) : Option (Int32 × SS) := X12_does_j0  σ  x1
def X12_isSo_j46  (σ : SS)  (x1 : Int32) (s0 : Int32) : Option (Int32) :=
  (ck (LN 13 34) (x1 + 7)).bind fun j55 =>
  if (σ.1 13 34 j55) = 60 then ((ck (LN 13 34) (x1 + 2)).bind fun j69 =>
    if (σ.1 13 34 j69) ≤ s0 then (some 0) else
    (some 1)) else
  ((ck (LN 13 34) (x1 + 7)).bind fun j89 =>
    if (σ.1 13 34 j89) = 62 then ((ck (LN 13 34) (x1 + 2)).bind fun j103 =>
      if s0 ≤ (σ.1 13 34 j103) then (some 0) else
      (some 1)) else
    ((ck (LN 13 34) (x1 + 2)).bind fun j123 =>
      if s0 = (σ.1 13 34 j123) then (some 1) else
      (some 0)))
def X12_isSo_j0  (σ : SS)  (x1 : Int32) : Option (Int32) :=
  (ck (LN 13 34) (x1 + 6)).bind fun j8 =>
  (some (σ.1 13 34 j8)).bind fun x2_9 =>
  if x2_9 = 2 then ((ck (LN 13 34) (x1 + 1)).bind fun j23 =>
    (X12_isFree σ (σ.1 13 34 j23)).bind fun v24 =>
    (zb v24).bind fun b27 =>
    some v24) else
  (if x2_9 = 0 then ((X12_largest σ (-1)).bind fun v34 =>
      X12_isSo_j46 σ x1 v34) else
    ((ck (LN 13 34) 1).bind fun j45 =>
      X12_isSo_j46 σ x1 (σ.1 13 34 j45)))
def X12_isSo  (σ : SS)  (x1 : Int32) : Option (Int32) := X12_isSo_j0  σ  x1
def X12_doAll_l2c (rec_X12_doOne : SS → Int32 → Option SS) (σ : SS)  (x2 : Int32) (x3 : Int32) : Option ((Int32 × SS) ⊕ (SS)) :=
  if x2 ≤ x3 then (some (Sum.inr σ)) else
  (if (σ.1 11 0 43) = 0 then ((rec_X12_doOne σ x3).bind fun σ16 =>
      (ck (LN 13 34) ((134 + (9 * x3)) + 8)).bind fun j34 =>
      (some (σ16.1 13 34 j34)).bind fun x3_35 =>
      some (Sum.inl (x3_35, σ16))) else
    (some (Sum.inr σ)))
def X12_doAll_l2b (rec_X12_doOne : SS → Int32 → Option SS)   (x2 : Int32) : (Int32 × SS) → Option ((Int32 × SS) ⊕ (SS)) := fun ss => X12_doAll_l2c rec_X12_doOne ss.2  x2 ss.1
def X12_doAll_l2 (rec_X12_doOne : SS → Int32 → Option SS) (σ : SS)  (x2 : Int32) (x3 : Int32) : Option (SS) :=
  (iter (X12_doAll_l2b rec_X12_doOne   x2) NF (x3, σ)).bind fun t2 =>
  some t2
def X12_doAll_j0 (rec_X12_doOne : SS → Int32 → Option SS) (σ : SS)  (x1 : Int32) (x2 : Int32) : Option (SS) :=
  X12_doAll_l2 rec_X12_doOne σ x2 x1
def X12_doAll (rec_X12_doOne : SS → Int32 → Option SS) (σ : SS)  (x1 : Int32) (x2 : Int32) : Option (SS) := X12_doAll_j0 rec_X12_doOne σ  x1 x2
def X12_doOne_l120c (rec_X12_doAll : SS → Int32 → Int32 → Option SS) (σ : SS)  (x1 : Int32) (x2 : Int32) (x4 : Int32) : Option ((Int32 × SS) ⊕ (SS)) :=
  (ck (LN 13 34) (x2 + 1)).bind fun j129 =>
  if (σ.1 13 34 j129) ≤ x4 then (some (Sum.inr σ)) else
  (if (σ.1 11 0 43) = 0 then ((ck (LN 13 34) (x2 + 8)).bind fun j152 =>
      (rec_X12_doAll σ (x1 + 1) (σ.1 13 34 j152)).bind fun σ153 =>
      (some (x4 + 1)).bind fun x4_156 =>
      some (Sum.inl (x4_156, σ153))) else
    (some (Sum.inr σ)))
def X12_doOne_l120b (rec_X12_doAll : SS → Int32 → Int32 → Option SS)   (x1 : Int32) (x2 : Int32) : (Int32 × SS) → Option ((Int32 × SS) ⊕ (SS)) := fun ss => X12_doOne_l120c rec_X12_doAll ss.2  x1 x2 ss.1
def X12_doOne_j162 (rec_X12_doAll : SS → Int32 → Int32 → Option SS) (σ : SS)   : Option (SS) :=
  some σ
def X12_doOne_l120 (rec_X12_doAll : SS → Int32 → Int32 → Option SS) (σ : SS)  (x1 : Int32) (x2 : Int32) (x4 : Int32) : Option (SS) :=
  (iter (X12_doOne_l120b rec_X12_doAll   x1 x2) NF (x4, σ)).bind fun t120 =>
  X12_doOne_j162 rec_X12_doAll t120
def X12_doOne_j111 (rec_X12_doAll : SS → Int32 → Int32 → Option SS) (σ : SS)  (x1 : Int32) (x2 : Int32) (x3 : Int32) : Option (SS) :=
  if x3 = 7 then (X12_doOne_l120 rec_X12_doAll σ x1 x2 0) else
  (if x3 ≤ 7 then (some σ) else
    ((some (wI σ 11 0 43 1)).bind fun σ173 =>
      some σ173))
def X12_doOne_j71 (rec_X12_doAll : SS → Int32 → Int32 → Option SS) (σ : SS)  (s1 : Int32) (s2 : Int32) : Option (SS) :=
  (some (wI σ 11 0 45 (s1 + s2))).bind fun σ72 =>
  some σ72
def X12_doOne_j0 (rec_X12_doAll : SS → Int32 → Int32 → Option SS) (σ : SS)  (x1 : Int32) : Option (SS) :=
  if (σ.1 11 0 44) = 300 then ((some (wI σ 11 0 43 1)).bind fun σ12 =>
    (some (wI σ12 11 0 49 1)).bind fun σ17 =>
    some σ17) else
  ((some (wI σ 11 0 44 ((σ.1 11 0 44) + 1))).bind fun σ28 =>
    (some (134 + (9 * x1))).bind fun x2_39 =>
    (ck (LN 13 34) x2_39).bind fun j45 =>
    (some (σ28.1 13 34 j45)).bind fun x3_46 =>
    if 6 ≤ x3_46 then (if x3_46 = 6 then ((X12_isSo σ28 x2_39).bind fun v86 =>
        if v86 = 0 then (X12_doOne_j111 rec_X12_doAll σ28 x1 x2_39 x3_46) else
        ((ck (LN 13 34) (x2_39 + 8)).bind fun j104 =>
          (rec_X12_doAll σ28 (x1 + 1) (σ28.1 13 34 j104)).bind fun σ105 =>
          some σ105)) else
      (X12_doOne_j111 rec_X12_doAll σ28 x1 x2_39 x3_46)) else
    ((X12_does σ28 x2_39).bind fun p60 =>
      X12_doOne_j71 rec_X12_doAll p60.2 (σ28.1 11 0 45) (if p60.1 = 0 then 1 else 0)))
def X12_doOne (rec_X12_doAll : SS → Int32 → Int32 → Option SS) (σ : SS)  (x1 : Int32) : Option (SS) := X12_doOne_j0 rec_X12_doAll σ  x1
def X12_doAllN : Nat → SS → Int32 → Int32 → Option SS
  | 0 => fun _ _ _ => none
  | n + 1 => X12_doAll (X12_doOne (X12_doAllN n))
def X12_runs_j0  (σ : SS)  (x1 : Int32) : Option (SS) :=
  (some (wI σ 11 0 25 x1)).bind fun σ2 =>
  (some (wI σ2 11 0 44 0)).bind fun σ7 =>
  (some (wI σ7 11 0 45 0)).bind fun σ12 =>
  (some (wI σ12 11 0 46 0)).bind fun σ17 =>
  (some (wI σ17 11 0 47 0)).bind fun σ22 =>
  (some (wI σ22 11 0 48 0)).bind fun σ27 =>
  (some (wI σ27 11 0 49 0)).bind fun σ32 =>
  (some (wI σ32 11 0 43 0)).bind fun σ37 =>
  (ck (LN 13 34) 133).bind fun j49 =>
  (X12_doAllN 5 σ37 0 (σ37.1 13 34 j49)).bind fun σ50 =>
  some σ50
def X12_runs  (σ : SS)  (x1 : Int32) : Option (SS) := X12_runs_j0  σ  x1
def X12_live_j0  (σ : SS)  (x1 : Int32) : Option (Int32 × SS) :=
  (some (wI σ 11 0 1 0)).bind fun σ2 =>
  (some (wI σ2 11 0 0 0)).bind fun σ7 =>
  (X12_isIn σ7 (Int32.toInt64 x1) 0 9999).bind fun v16 =>
  if v16 = 0 then ((X12_refuse σ7 5).bind fun p24 =>
    some (p24.1, p24.2)) else
  ((ck (LN 13 34) 132).bind fun j35 =>
    if (σ7.1 13 34 j35) = 0 then ((X12_refuse σ7 8).bind fun p42 =>
      some (p42.1, p42.2)) else
    ((X12_runs σ7 x1).bind fun σ48 =>
      (ck (LN 13 44) 0).bind fun j60 =>
      (some (wI σ48 13 44 j60 (σ48.1 11 0 45))).bind fun σ60 =>
      (ck (LN 13 44) 1).bind fun j70 =>
      (some (wI σ60 13 44 j70 (σ60.1 11 0 46))).bind fun σ70 =>
      (ck (LN 13 44) 2).bind fun j80 =>
      (some (wI σ70 13 44 j80 (σ70.1 11 0 47))).bind fun σ80 =>
      (ck (LN 13 44) 3).bind fun j90 =>
      (some (wI σ80 13 44 j90 (σ80.1 11 0 48))).bind fun σ90 =>
      (ck (LN 13 44) 4).bind fun j100 =>
      (some (wI σ90 13 44 j100 (σ90.1 11 0 49))).bind fun σ100 =>
      (some (wI σ100 11 0 42 1)).bind fun σ103 =>
      some ((σ103.1 11 0 44), σ103)))
def X12_live  (σ : SS)  (x1 : Int32) : Option (Int32 × SS) := X12_live_j0  σ  x1
def X12_lived_j0  (σ : SS)  (x1 : Int32) : Option (Int32 × SS) :=
  (some (wI σ 11 0 1 0)).bind fun σ2 =>
  (some (wI σ2 11 0 0 0)).bind fun σ7 =>
  (X12_isIn σ7 (Int32.toInt64 x1) 0 4).bind fun v16 =>
  if v16 = 0 then ((X12_refuse σ7 5).bind fun p24 =>
    some (p24.1, p24.2)) else
  (if (σ7.1 11 0 42) = 0 then ((X12_refuse σ7 8).bind fun p47 =>
      some (p47.1, p47.2)) else
    ((ck (LN 13 44) x1).bind fun j40 =>
      some ((σ7.1 13 44 j40), σ7)))
def X12_lived  (σ : SS)  (x1 : Int32) : Option (Int32 × SS) := X12_lived_j0  σ  x1
def X12_tried_j27  (σ : SS)   : Option (Int32 × SS) :=
  (X12_no σ 5).bind fun p29 =>
  (zb p29.1).bind fun b32 =>
  some (p29.1, p29.2)
def X12_tried_l54c  (σ : SS)  (x1 : Int32) (x2 : Int32) (x3 : Int32) (x4 : Int32) : Option ((Int32 × SS) ⊕ (SS)) :=
  if 132 ≤ x4 then (some (Sum.inr σ)) else
  ((ck (LN 13 34) x4).bind fun j74 =>
    (ck (LN 13 45) x4).bind fun j75 =>
    (some (wI σ 13 45 j75 (σ.1 13 34 j74))).bind fun σ75 =>
    (some (x4 + 1)).bind fun x4_76 =>
    some (Sum.inl (x4_76, σ75)))
def X12_tried_l54b    (x1 : Int32) (x2 : Int32) (x3 : Int32) : (Int32 × SS) → Option ((Int32 × SS) ⊕ (SS)) := fun ss => X12_tried_l54c  ss.2  x1 x2 x3 ss.1
def X12_tried_l144c  (σ : SS)  (x1 : Int32) (x2 : Int32) (x3 : Int32) (y4 : Int64) (x6 : Int32) (x7 : Int32) : Option ((Int32 × SS) ⊕ (SS)) :=
  if 132 ≤ x7 then (some (Sum.inr σ)) else
  ((ck (LN 13 45) x7).bind fun j164 =>
    (ck (LN 13 34) x7).bind fun j165 =>
    (some (wI σ 13 34 j165 (σ.1 13 45 j164))).bind fun σ165 =>
    (some (x7 + 1)).bind fun x7_166 =>
    some (Sum.inl (x7_166, σ165)))
def X12_tried_l144b    (x1 : Int32) (x2 : Int32) (x3 : Int32) (y4 : Int64) (x6 : Int32) : (Int32 × SS) → Option ((Int32 × SS) ⊕ (SS)) := fun ss => X12_tried_l144c  ss.2  x1 x2 x3 y4 x6 ss.1
def X12_tried_l144  (σ : SS)  (x1 : Int32) (x2 : Int32) (x3 : Int32) (y4 : Int64) (x6 : Int32) (x7 : Int32) : Option ((Int64 × Int32 × SS) ⊕ (Int64 × SS)) :=
  (iter (X12_tried_l144b    x1 x2 x3 y4 x6) NF (x7, σ)).bind fun t144 =>
  (some (x6 + 1)).bind fun x6_172 =>
    some (Sum.inl (y4, x6_172, t144))
def X12_tried_j138  (σ : SS)  (x1 : Int32) (x2 : Int32) (x3 : Int32) (x6 : Int32) (s0 : Int64) (s1 : Int64) : Option ((Int64 × Int32 × SS) ⊕ (Int64 × SS)) :=
  (some (s0 + s1)).bind fun y4_139 =>
  X12_tried_l144 σ x1 x2 x3 y4_139 x6 0
def X12_tried_l88c  (σ : SS)  (x1 : Int32) (x2 : Int32) (x3 : Int32) (y4 : Int64) (x6 : Int32) : Option ((Int64 × Int32 × SS) ⊕ (Int64 × SS)) :=
  if x3 ≤ x6 then (some (Sum.inr (y4, σ))) else
  ((X12_runs σ (x2 + x6)).bind fun σ99 =>
    if 0 ≤ x1 then ((X12_isFree σ99 x1).bind fun v127 =>
      X12_tried_j138 σ99 x1 x2 x3 x6 y4 (if v127 = 0 then 0 else 1)) else
    ((ck (LN 13 34) 5).bind fun j113 =>
      (ck (LN 13 45) 5).bind fun j119 =>
      X12_tried_j138 σ99 x1 x2 x3 x6 y4 (Int32.toInt64 ((σ99.1 13 34 j113) - (σ99.1 13 45 j119)))))
def X12_tried_l88b    (x1 : Int32) (x2 : Int32) (x3 : Int32) : (Int64 × Int32 × SS) → Option ((Int64 × Int32 × SS) ⊕ (Int64 × SS)) := fun ss => X12_tried_l88c  ss.2.2  x1 x2 x3 ss.1 ss.2.1
def X12_tried_l88  (σ : SS)  (x1 : Int32) (x2 : Int32) (x3 : Int32) (y4 : Int64) (x6 : Int32) : Option (Int32 × SS) :=
  (iter (X12_tried_l88b    x1 x2 x3) NF (y4, x6, σ)).bind fun t88 =>
  (X12_fraction t88.2 t88.1 (Int32.toInt64 x3)).bind fun p183 =>
    (zb p183.1).bind fun b186 =>
    some (p183.1, p183.2)
def X12_tried_l54  (σ : SS)  (x1 : Int32) (x2 : Int32) (x3 : Int32) (x4 : Int32) : Option (Int32 × SS) :=
  (iter (X12_tried_l54b    x1 x2 x3) NF (x4, σ)).bind fun t54 =>
  X12_tried_l88 t54 x1 x2 x3 0 0
def X12_tried_j0  (σ : SS)  (x1 : Int32) (x2 : Int32) (x3 : Int32) : Option (Int32 × SS) :=
  (X12_isIn σ (Int32.toInt64 x3) 1 20).bind fun v6 =>
  if v6 = 0 then (X12_tried_j27 σ) else
  ((X12_isIn σ (Int32.toInt64 x2) 0 (Int32.toInt64 (10000 - x3))).bind fun v21 =>
    if v21 = 0 then (X12_tried_j27 σ) else
    ((ck (LN 13 34) 132).bind fun j40 =>
      if (σ.1 13 34 j40) = 0 then ((X12_no σ 8).bind fun p47 =>
        (zb p47.1).bind fun b50 =>
        some (p47.1, p47.2)) else
      (X12_tried_l54 σ x1 x2 x3 0)))
def X12_tried  (σ : SS)  (x1 : Int32) (x2 : Int32) (x3 : Int32) : Option (Int32 × SS) := X12_tried_j0  σ  x1 x2 x3
def X12_mean_j0  (σ : SS)  (x1 : Int32) (x2 : Int32) : Option (Int32 × SS) :=
  (some (wI σ 11 0 1 0)).bind fun σ2 =>
  (some (wI σ2 11 0 0 0)).bind fun σ7 =>
  (X12_tried σ7 (-1) x1 x2).bind fun p14 =>
  (zb p14.1).bind fun b17 =>
  some (p14.1, p14.2)
def X12_mean  (σ : SS)  (x1 : Int32) (x2 : Int32) : Option (Int32 × SS) := X12_mean_j0  σ  x1 x2
def X12_odds_j0  (σ : SS)  (x1 : Int32) (x2 : Int32) (x3 : Int32) : Option (Int32 × SS) :=
  (some (wI σ 11 0 1 0)).bind fun σ2 =>
  (some (wI σ2 11 0 0 0)).bind fun σ7 =>
  (X12_isLeadAt σ7 x1).bind fun v12 =>
  if v12 = 0 then ((X12_no σ7 2).bind fun p30 =>
    (zb p30.1).bind fun b33 =>
    some (p30.1, p30.2)) else
  ((X12_tried σ7 x1 x2 x3).bind fun p22 =>
    (zb p22.1).bind fun b33 =>
    some (p22.1, p22.2))
def X12_odds  (σ : SS)  (x1 : Int32) (x2 : Int32) (x3 : Int32) : Option (Int32 × SS) := X12_odds_j0  σ  x1 x2 x3
def X12_mark_j0  (σ : SS)   : Option (Int32 × SS) :=
  (some (wI σ 11 0 1 0)).bind fun σ2 =>
  (some (wI σ2 11 0 0 0)).bind fun σ7 =>
  if (σ7.1 11 0 23) = 3 then ((X12_refuse σ7 7).bind fun p21 =>
    some (p21.1, p21.2)) else
  ((some (wI σ7 11 0 23 ((σ7.1 11 0 23) + 1))).bind fun σ32 =>
    (X12_copy σ32 0 (σ32.1 11 0 23)).bind fun σ41 =>
    some ((σ41.1 11 0 23), σ41))
def X12_mark  (σ : SS)   : Option (Int32 × SS) := X12_mark_j0  σ  
def X12_back_j0  (σ : SS)   : Option (Int32 × SS) :=
  (some (wI σ 11 0 1 0)).bind fun σ2 =>
  (some (wI σ2 11 0 0 0)).bind fun σ7 =>
  if (σ7.1 11 0 23) = 0 then ((X12_refuse σ7 8).bind fun p20 =>
    some (p20.1, p20.2)) else
  ((X12_copy σ7 (σ7.1 11 0 23) 0).bind fun σ30 =>
    (some (wI σ30 11 0 23 ((σ30.1 11 0 23) - 1))).bind fun σ40 =>
    some ((σ40.1 11 0 23), σ40))
def X12_back  (σ : SS)   : Option (Int32 × SS) := X12_back_j0  σ  
