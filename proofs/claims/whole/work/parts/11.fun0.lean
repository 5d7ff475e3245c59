/-! the methods as functions of the state (by program: wip/whole/gen.py) -/
def X9_clear_j0  (σ : SS) (t : Nat)  : Option (SS) :=
  (some (wI σ 8 t 1 0)).bind fun σ2 =>
  (some (wI σ2 8 t 2 0)).bind fun σ7 =>
  (some (wI σ7 8 t 3 0)).bind fun σ12 =>
  some σ12
def X9_clear  (σ : SS) (t : Nat)  : Option (SS) := X9_clear_j0  σ t 
def X0_clear_j0  (σ : SS) (t : Nat)  : Option (SS) :=
  (X9_clear σ t).bind fun σ4 =>
  (some (wI σ4 0 t 5 0)).bind fun σ9 =>
  (some (wI σ9 0 t 6 0)).bind fun σ14 =>
  (some (wI σ14 0 t 7 0)).bind fun σ19 =>
  (some (wI σ19 0 t 8 0)).bind fun σ24 =>
  (some (wI σ24 0 t 9 0)).bind fun σ29 =>
  (some (wI σ29 0 t 10 0)).bind fun σ34 =>
  (some (wI σ34 0 t 11 0)).bind fun σ39 =>
  (some (wI σ39 0 t 12 0)).bind fun σ44 =>
  some σ44
def X0_clear  (σ : SS) (t : Nat)  : Option (SS) := X0_clear_j0  σ t 
def X4_takeOver_l7c  (σ : SS) (t : Nat) (r1 : Nat)  (x2 : Int32) : Option ((Int32 × SS) ⊕ (SS)) :=
  if (nI (LN 13 t)) ≤ x2 then (some (Sum.inr σ)) else
  (if (nI (LN 13 r1)) ≤ x2 then (some (Sum.inr σ)) else
    ((ck (LN 13 r1) x2).bind fun j35 =>
      (ck (LN 13 t) x2).bind fun j36 =>
      (some (wI σ 13 t j36 (σ.1 13 r1 j35))).bind fun σ36 =>
      (some (x2 + 1)).bind fun x2_37 =>
      some (Sum.inl (x2_37, σ36))))
def X4_takeOver_l7b   (t : Nat) (r1 : Nat)  : (Int32 × SS) → Option ((Int32 × SS) ⊕ (SS)) := fun ss => X4_takeOver_l7c  ss.2 t r1  ss.1
def X4_takeOver_l7  (σ : SS) (t : Nat) (r1 : Nat) (x2 : Int32) : Option (SS) :=
  (iter (X4_takeOver_l7b   t r1 ) NF (x2, σ)).bind fun t7 =>
  some t7
def X4_takeOver_j0  (σ : SS) (t : Nat) (r1 : Nat)  : Option (SS) :=
  X4_takeOver_l7 σ t r1 0
def X4_takeOver  (σ : SS) (t : Nat) (r1 : Nat)  : Option (SS) := X4_takeOver_j0  σ t r1 
def X9_takeOver_j0  (σ : SS) (t : Nat) (r1 : Nat)  : Option (SS) :=
  (X4_takeOver σ (4 * t) (4 * r1)).bind fun σ13 =>
  (zb (σ13.1 8 r1 1)).bind fun b21 =>
  (some (wI σ13 8 t 1 (σ13.1 8 r1 1))).bind fun σ21 =>
  (some (wI σ21 8 t 2 (σ21.1 8 r1 2))).bind fun σ29 =>
  (some (wI σ29 8 t 3 (σ29.1 8 r1 3))).bind fun σ37 =>
  some σ37
def X9_takeOver  (σ : SS) (t : Nat) (r1 : Nat)  : Option (SS) := X9_takeOver_j0  σ t r1 
def X0_takeOver_l51c  (σ : SS) (t : Nat) (r1 : Nat)  (x2 : Int32) : Option ((Int32 × SS) ⊕ (SS)) :=
  if (nI (LN 14 t)) ≤ x2 then (some (Sum.inr σ)) else
  (if (nI (LN 14 r1)) ≤ x2 then (some (Sum.inr σ)) else
    ((ck (LN 14 r1) x2).bind fun j79 =>
      (ck (LN 14 t) x2).bind fun j80 =>
      (some (wJ σ 14 t j80 (σ.2 14 r1 j79))).bind fun σ80 =>
      (some (x2 + 1)).bind fun x2_81 =>
      some (Sum.inl (x2_81, σ80))))
def X0_takeOver_l51b   (t : Nat) (r1 : Nat)  : (Int32 × SS) → Option ((Int32 × SS) ⊕ (SS)) := fun ss => X0_takeOver_l51c  ss.2 t r1  ss.1
def X0_takeOver_j87  (σ : SS) (t : Nat) (r1 : Nat)  : Option (SS) :=
  (some (wI σ 0 t 5 (σ.1 0 r1 5))).bind fun σ92 =>
  (some (wI σ92 0 t 6 (σ92.1 0 r1 6))).bind fun σ100 =>
  (some (wI σ100 0 t 7 (σ100.1 0 r1 7))).bind fun σ108 =>
  (some (wI σ108 0 t 8 (σ108.1 0 r1 8))).bind fun σ116 =>
  (some (wI σ116 0 t 9 (σ116.1 0 r1 9))).bind fun σ124 =>
  (some (wI σ124 0 t 10 (σ124.1 0 r1 10))).bind fun σ132 =>
  (some (wI σ132 0 t 11 (σ132.1 0 r1 11))).bind fun σ140 =>
  (some (wI σ140 0 t 12 (σ140.1 0 r1 12))).bind fun σ148 =>
  some σ148
def X0_takeOver_l51  (σ : SS) (t : Nat) (r1 : Nat) (x2 : Int32) : Option (SS) :=
  (iter (X0_takeOver_l51b   t r1 ) NF (x2, σ)).bind fun t51 =>
  X0_takeOver_j87 t51 t r1
def X0_takeOver_j0  (σ : SS) (t : Nat) (r1 : Nat)  : Option (SS) :=
  (X9_takeOver σ t r1).bind fun σ13 =>
  (X4_takeOver σ13 (4 * t + 1) (4 * r1 + 1)).bind fun σ24 =>
  (X4_takeOver σ24 (4 * t + 2) (4 * r1 + 2)).bind fun σ35 =>
  (X4_takeOver σ35 (4 * t + 3) (4 * r1 + 3)).bind fun σ46 =>
  X0_takeOver_l51 σ46 t r1 0
def X0_takeOver  (σ : SS) (t : Nat) (r1 : Nat)  : Option (SS) := X0_takeOver_j0  σ t r1 
def X0_leadCount_j0  (σ : SS) (t : Nat)  : Option (Int32) :=
  some (σ.1 0 t 5)
def X0_leadCount  (σ : SS) (t : Nat)  : Option (Int32) := X0_leadCount_j0  σ t 
def X0_crossingCount_j0  (σ : SS) (t : Nat)  : Option (Int32) :=
  some (σ.1 0 t 6)
def X0_crossingCount  (σ : SS) (t : Nat)  : Option (Int32) := X0_crossingCount_j0  σ t 
def X0_lookCount_j0  (σ : SS) (t : Nat)  : Option (Int32) :=
  some (σ.1 0 t 7)
def X0_lookCount  (σ : SS) (t : Nat)  : Option (Int32) := X0_lookCount_j0  σ t 
def X0_insideSet_j0  (σ : SS) (t : Nat)  : Option (Int32) :=
  some (σ.1 0 t 8)
def X0_insideSet  (σ : SS) (t : Nat)  : Option (Int32) := X0_insideSet_j0  σ t 
def X0_secondsSpent_j0  (σ : SS) (t : Nat)  : Option (Int32) :=
  some (σ.1 0 t 10)
def X0_secondsSpent  (σ : SS) (t : Nat)  : Option (Int32) := X0_secondsSpent_j0  σ t 
def X0_total_j0  (σ : SS) (t : Nat) (x1 : Int32) : Option (Int32) :=
  if x1 = 0 then (some (σ.1 0 t 5)) else
  if x1 = 1 then (some (σ.1 0 t 6)) else
  if x1 = 2 then (some (σ.1 0 t 7)) else
  if x1 = 3 then (some (σ.1 0 t 8)) else
  if x1 = 4 then (some ((σ.1 0 t 9) &&& (σ.1 0 t 8))) else
  if x1 = 5 then (some (σ.1 0 t 10)) else
  if x1 = 6 then (some (σ.1 0 t 11)) else
  (some (σ.1 0 t 12))
def X0_total  (σ : SS) (t : Nat) (x1 : Int32) : Option (Int32) := X0_total_j0  σ t x1
def X0_has_j0  (σ : SS) (t : Nat) (x1 : Int32) : Option (Int32) :=
  if x1 < 0 then (some 0) else
  (if (σ.1 0 t 5) ≤ x1 then (some 0) else
    (some 1))
def X0_has  (σ : SS) (t : Nat) (x1 : Int32) : Option (Int32) := X0_has_j0  σ t x1
def X0_hasLook_j0  (σ : SS) (t : Nat) (x1 : Int32) : Option (Int32) :=
  if x1 < 0 then (some 0) else
  (if (σ.1 0 t 7) ≤ x1 then (some 0) else
    (some 1))
def X0_hasLook  (σ : SS) (t : Nat) (x1 : Int32) : Option (Int32) := X0_hasLook_j0  σ t x1
def X0_isIn_j0  (σ : SS) (t : Nat) (x1 : Int32) : Option (Int32) :=
  (X0_has σ t x1).bind fun v2 =>
  if v2 = 0 then (some 0) else
  (if (((σ.1 0 t 8) >>> (x1 &&& 31)) &&& 1) = 1 then (some 1) else
    (some 0))
def X0_isIn  (σ : SS) (t : Nat) (x1 : Int32) : Option (Int32) := X0_isIn_j0  σ t x1
def X0_hasClip_j0  (σ : SS) (t : Nat) (x1 : Int32) : Option (Int32) :=
  (X0_has σ t x1).bind fun v2 =>
  if v2 = 0 then (some 0) else
  (if (((σ.1 0 t 9) >>> (x1 &&& 31)) &&& 1) = 1 then (some 1) else
    (some 0))
def X0_hasClip  (σ : SS) (t : Nat) (x1 : Int32) : Option (Int32) := X0_hasClip_j0  σ t x1
def X0_isFull_j0  (σ : SS) (t : Nat)  : Option (Int32) :=
  if (σ.1 0 t 6) < 24 then (some 0) else
  (some 1)
def X0_isFull  (σ : SS) (t : Nat)  : Option (Int32) := X0_isFull_j0  σ t 
def X4_at_j0  (σ : SS) (t : Nat) (x1 : Int32) (x2 : Int32) : Option (Int32) :=
  if x1 < 0 then (some 0) else
  (if (nI (TR t)) ≤ x1 then (some 0) else
    (if x2 < 0 then (some 0) else
      (if x2 < (nI (TW t)) then ((some ((x1 * (nI (TW t))) + x2)).bind fun x3_34 =>
          if x3_34 < 0 then (some 0) else
          (if (nI (LN 13 t)) ≤ x3_34 then (some 0) else
            ((ck (LN 13 t) x3_34).bind fun j53 =>
              some (σ.1 13 t j53)))) else
        (some 0))))
def X4_at  (σ : SS) (t : Nat) (x1 : Int32) (x2 : Int32) : Option (Int32) := X4_at_j0  σ t x1 x2
def X0_otherAt_j0  (σ : SS) (t : Nat) (x1 : Int32) (x2 : Int32) : Option (Int32) :=
  (X4_at σ (4 * t + 2) 0 x1).bind fun v6 =>
  (X4_at σ (4 * t + 2) 1 x1).bind fun v16 =>
  if v6 = x2 then (some v16) else
  (if v16 = x2 then (some v6) else
    (some (-1)))
def X0_otherAt  (σ : SS) (t : Nat) (x1 : Int32) (x2 : Int32) : Option (Int32) := X0_otherAt_j0  σ t x1 x2
def X0_countOn_j28  (σ : SS) (t : Nat) (x1 : Int32) (x3 : Int32) (s0 : Int32) (s1 : Int32) : Option ((Int32 × Int32) ⊕ (Int32)) :=
  (some (s0 + s1)).bind fun x2_29 =>
  (some (x3 + 1)).bind fun x3_30 =>
  some (Sum.inl (x2_29, x3_30))
def X0_countOn_l4c  (σ : SS) (t : Nat) (x1 : Int32) (x2 : Int32) (x3 : Int32) : Option ((Int32 × Int32) ⊕ (Int32)) :=
  if (σ.1 0 t 6) ≤ x3 then (some (Sum.inr x2)) else
  ((X0_otherAt σ t x3 x1).bind fun v16 =>
    X0_countOn_j28 σ t x1 x3 x2 (if v16 = (-1) then 0 else 1))
def X0_countOn_l4b  (σ : SS) (t : Nat) (x1 : Int32) : (Int32 × Int32) → Option ((Int32 × Int32) ⊕ (Int32)) := fun ss => X0_countOn_l4c  σ t x1 ss.1 ss.2
def X0_countOn_l4  (σ : SS) (t : Nat) (x1 : Int32) (x2 : Int32) (x3 : Int32) : Option (Int32) :=
  (iter (X0_countOn_l4b  σ t x1) NF (x2, x3)).bind fun t4 =>
  some t4
def X0_countOn_j0  (σ : SS) (t : Nat) (x1 : Int32) : Option (Int32) :=
  X0_countOn_l4 σ t x1 0 0
def X0_countOn  (σ : SS) (t : Nat) (x1 : Int32) : Option (Int32) := X0_countOn_j0  σ t x1
def X0_isFree_j0  (σ : SS) (t : Nat) (x1 : Int32) : Option (Int32) :=
  (X0_isIn σ t x1).bind fun v2 =>
  if v2 = 0 then (some 0) else
  ((X0_countOn σ t x1).bind fun v10 =>
    if v10 = 0 then (some 1) else
    (some 0))
def X0_isFree  (σ : SS) (t : Nat) (x1 : Int32) : Option (Int32) := X0_isFree_j0  σ t x1
def X0_canGetClip_j0  (σ : SS) (t : Nat) (x1 : Int32) : Option (Int32) :=
  (X0_isFree σ t x1).bind fun v2 =>
  if v2 = 0 then (some 0) else
  ((X0_hasClip σ t x1).bind fun v10 =>
    if v10 = 0 then (some 1) else
    (some 0))
def X0_canGetClip  (σ : SS) (t : Nat) (x1 : Int32) : Option (Int32) := X0_canGetClip_j0  σ t x1
def X0_canBeCrossed_j0  (σ : SS) (t : Nat) (x1 : Int32) : Option (Int32) :=
  (X0_isIn σ t x1).bind fun v2 =>
  if v2 = 0 then (some 0) else
  ((X0_hasClip σ t x1).bind fun v10 =>
    if v10 = 0 then (some 1) else
    (some 0))
def X0_canBeCrossed  (σ : SS) (t : Nat) (x1 : Int32) : Option (Int32) := X0_canBeCrossed_j0  σ t x1
def X0_unclippedSet_j0  (σ : SS) (t : Nat)  : Option (Int32) :=
  some ((σ.1 0 t 8) &&& ((σ.1 0 t 9) ^^^ (-1)))
def X0_unclippedSet  (σ : SS) (t : Nat)  : Option (Int32) := X0_unclippedSet_j0  σ t 
def X0_number_j0  (σ : SS) (t : Nat) (x1 : Int32) (x2 : Int32) : Option (Int32) :=
  (X4_at σ (4 * t + 1) x1 x2).bind fun v6 =>
  some v6
def X0_number  (σ : SS) (t : Nat) (x1 : Int32) (x2 : Int32) : Option (Int32) := X0_number_j0  σ t x1 x2
def X0_lookSet_j0  (σ : SS) (t : Nat) (x1 : Int32) : Option (Int32) :=
  (X0_hasLook σ t x1).bind fun v2 =>
  if v2 = 0 then (some 0) else
  ((X4_at σ (4 * t + 3) 0 x1).bind fun v14 =>
    some v14)
def X0_lookSet  (σ : SS) (t : Nat) (x1 : Int32) : Option (Int32) := X0_lookSet_j0  σ t x1
def X0_crossingAt_j0  (σ : SS) (t : Nat) (x1 : Int32) (x2 : Int32) : Option (Int32) :=
  (X4_at σ (4 * t + 2) x1 x2).bind fun v6 =>
  some v6
def X0_crossingAt  (σ : SS) (t : Nat) (x1 : Int32) (x2 : Int32) : Option (Int32) := X0_crossingAt_j0  σ t x1 x2
def X0_stateAt_j0  (σ : SS) (t : Nat) (x1 : Int32) : Option (Int32) :=
  (X4_at σ (4 * t + 2) 2 x1).bind fun v6 =>
  some v6
def X0_stateAt  (σ : SS) (t : Nat) (x1 : Int32) : Option (Int32) := X0_stateAt_j0  σ t x1
def X0_countBetween_j31  (σ : SS) (t : Nat) (x1 : Int32) (x2 : Int32) (x4 : Int32) (s0 : Int32) (s1 : Int32) : Option ((Int32 × Int32) ⊕ (Int32)) :=
  (some (s0 + s1)).bind fun x3_32 =>
  (some (x4 + 1)).bind fun x4_33 =>
  some (Sum.inl (x3_32, x4_33))
def X0_countBetween_l5c  (σ : SS) (t : Nat) (x1 : Int32) (x2 : Int32) (x3 : Int32) (x4 : Int32) : Option ((Int32 × Int32) ⊕ (Int32)) :=
  if (σ.1 0 t 6) ≤ x4 then (some (Sum.inr x3)) else
  ((X0_otherAt σ t x4 x1).bind fun v19 =>
    X0_countBetween_j31 σ t x1 x2 x4 x3 (if v19 = x2 then 1 else 0))
def X0_countBetween_l5b  (σ : SS) (t : Nat) (x1 : Int32) (x2 : Int32) : (Int32 × Int32) → Option ((Int32 × Int32) ⊕ (Int32)) := fun ss => X0_countBetween_l5c  σ t x1 x2 ss.1 ss.2
def X0_countBetween_l5  (σ : SS) (t : Nat) (x1 : Int32) (x2 : Int32) (x3 : Int32) (x4 : Int32) : Option (Int32) :=
  (iter (X0_countBetween_l5b  σ t x1 x2) NF (x3, x4)).bind fun t5 =>
  some t5
def X0_countBetween_j0  (σ : SS) (t : Nat) (x1 : Int32) (x2 : Int32) : Option (Int32) :=
  X0_countBetween_l5 σ t x1 x2 0 0
def X0_countBetween  (σ : SS) (t : Nat) (x1 : Int32) (x2 : Int32) : Option (Int32) := X0_countBetween_j0  σ t x1 x2
def X0_countInState_j27  (σ : SS) (t : Nat) (x1 : Int32) (x3 : Int32) (s0 : Int32) (s1 : Int32) : Option ((Int32 × Int32) ⊕ (Int32)) :=
  (some (s0 + s1)).bind fun x2_28 =>
  (some (x3 + 1)).bind fun x3_29 =>
  some (Sum.inl (x2_28, x3_29))
def X0_countInState_l4c  (σ : SS) (t : Nat) (x1 : Int32) (x2 : Int32) (x3 : Int32) : Option ((Int32 × Int32) ⊕ (Int32)) :=
  if (σ.1 0 t 6) ≤ x3 then (some (Sum.inr x2)) else
  ((X0_stateAt σ t x3).bind fun v15 =>
    X0_countInState_j27 σ t x1 x3 x2 (if v15 = x1 then 1 else 0))
def X0_countInState_l4b  (σ : SS) (t : Nat) (x1 : Int32) : (Int32 × Int32) → Option ((Int32 × Int32) ⊕ (Int32)) := fun ss => X0_countInState_l4c  σ t x1 ss.1 ss.2
def X0_countInState_l4  (σ : SS) (t : Nat) (x1 : Int32) (x2 : Int32) (x3 : Int32) : Option (Int32) :=
  (iter (X0_countInState_l4b  σ t x1) NF (x2, x3)).bind fun t4 =>
  some t4
def X0_countInState_j0  (σ : SS) (t : Nat) (x1 : Int32) : Option (Int32) :=
  X0_countInState_l4 σ t x1 0 0
def X0_countInState  (σ : SS) (t : Nat) (x1 : Int32) : Option (Int32) := X0_countInState_j0  σ t x1
def X0_crossingOn_j35  (σ : SS) (t : Nat) (x1 : Int32) (x3 : Int32) (x4 : Int32) : Option ((Int32 × Int32) ⊕ ((Int32) ⊕ (Unit))) :=
  (some (x4 + 1)).bind fun x4_35 =>
  some (Sum.inl (x3, x4_35))
def X0_crossingOn_l5c  (σ : SS) (t : Nat) (x1 : Int32) (x3 : Int32) (x4 : Int32) : Option ((Int32 × Int32) ⊕ ((Int32) ⊕ (Unit))) :=
  if (σ.1 0 t 6) ≤ x4 then (some (Sum.inr (Sum.inr ()))) else
  ((X0_otherAt σ t x4 x1).bind fun v18 =>
    if v18 = (-1) then (X0_crossingOn_j35 σ t x1 x3 x4) else
    (if x3 = 0 then (some (Sum.inr (Sum.inl x4))) else
      ((some (x3 + (-1))).bind fun x3_32 =>
        X0_crossingOn_j35 σ t x1 x3_32 x4)))
def X0_crossingOn_l5b  (σ : SS) (t : Nat) (x1 : Int32) : (Int32 × Int32) → Option ((Int32 × Int32) ⊕ ((Int32) ⊕ (Unit))) := fun ss => X0_crossingOn_l5c  σ t x1 ss.1 ss.2
def X0_crossingOn_l5  (σ : SS) (t : Nat) (x1 : Int32) (x3 : Int32) (x4 : Int32) : Option (Int32) :=
  (iter (X0_crossingOn_l5b  σ t x1) NF (x3, x4)).bind fun t5 => match t5 with
  | Sum.inl e29 => some e29
  | Sum.inr u29 => (some (-1))
def X0_crossingOn_j0  (σ : SS) (t : Nat) (x1 : Int32) (x2 : Int32) : Option (Int32) :=
  X0_crossingOn_l5 σ t x1 x2 0
def X0_crossingOn  (σ : SS) (t : Nat) (x1 : Int32) (x2 : Int32) : Option (Int32) := X0_crossingOn_j0  σ t x1 x2
def X0_mostCrossed_j39  (σ : SS) (t : Nat) (x1 : Int32) (x2 : Int32) (x3 : Int32) : Option ((Int32 × Int32 × Int32) ⊕ (Int32)) :=
  (some (x3 + 1)).bind fun x3_39 =>
  some (Sum.inl (x1, x2, x3_39))
def X0_mostCrossed_l6c  (σ : SS) (t : Nat)  (x1 : Int32) (x2 : Int32) (x3 : Int32) : Option ((Int32 × Int32 × Int32) ⊕ (Int32)) :=
  if (σ.1 0 t 5) ≤ x3 then (some (Sum.inr x1)) else
  ((X0_isIn σ t x3).bind fun v16 =>
    if v16 = 0 then (X0_mostCrossed_j39 σ t x1 x2 x3) else
    ((X0_countOn σ t x3).bind fun v24 =>
      if v24 ≤ x2 then (X0_mostCrossed_j39 σ t x1 x2 x3) else
      ((X0_countOn σ t x3).bind fun v35 =>
        X0_mostCrossed_j39 σ t x3 v35 x3)))
def X0_mostCrossed_l6b  (σ : SS) (t : Nat)  : (Int32 × Int32 × Int32) → Option ((Int32 × Int32 × Int32) ⊕ (Int32)) := fun ss => X0_mostCrossed_l6c  σ t  ss.1 ss.2.1 ss.2.2
def X0_mostCrossed_l6  (σ : SS) (t : Nat) (x1 : Int32) (x2 : Int32) (x3 : Int32) : Option (Int32) :=
  (iter (X0_mostCrossed_l6b  σ t ) NF (x1, x2, x3)).bind fun t6 =>
  some t6
def X0_mostCrossed_j0  (σ : SS) (t : Nat)  : Option (Int32) :=
  X0_mostCrossed_l6 σ t (-1) (-1) 0
def X0_mostCrossed  (σ : SS) (t : Nat)  : Option (Int32) := X0_mostCrossed_j0  σ t 
def X0_leadNamed_l2c  (σ : SS) (t : Nat) (y1 : Int64) (x3 : Int32) : Option ((Int32) ⊕ ((Int32) ⊕ (Unit))) :=
  if (σ.1 0 t 5) ≤ x3 then (some (Sum.inr (Sum.inr ()))) else
  (if (nI (LN 14 t)) ≤ x3 then (some (Sum.inr (Sum.inr ()))) else
    ((ck (LN 14 t) x3).bind fun j24 =>
      if (lg_cmp (σ.2 14 t j24) y1) = 0 then (some (Sum.inr (Sum.inl x3))) else
      ((some (x3 + 1)).bind fun x3_32 =>
        some (Sum.inl x3_32))))
def X0_leadNamed_l2b  (σ : SS) (t : Nat) (y1 : Int64) : (Int32) → Option ((Int32) ⊕ ((Int32) ⊕ (Unit))) := fun ss => X0_leadNamed_l2c  σ t y1 ss
def X0_leadNamed_l2  (σ : SS) (t : Nat) (y1 : Int64) (x3 : Int32) : Option (Int32) :=
  (iter (X0_leadNamed_l2b  σ t y1) NF x3).bind fun t2 => match t2 with
  | Sum.inl e30 => some e30
  | Sum.inr u30 => (some (-1))
def X0_leadNamed_j0  (σ : SS) (t : Nat) (y1 : Int64) : Option (Int32) :=
  X0_leadNamed_l2 σ t y1 0
def X0_leadNamed  (σ : SS) (t : Nat) (y1 : Int64) : Option (Int32) := X0_leadNamed_j0  σ t y1
def X0_isTaken_l3c  (σ : SS) (t : Nat) (y1 : Int64) (x3 : Int32) : Option ((Int32) ⊕ ((Unit) ⊕ (Unit))) :=
  if (8 + (σ.1 0 t 7)) ≤ x3 then (some (Sum.inr (Sum.inr ()))) else
  (if (nI (LN 14 t)) ≤ x3 then (some (Sum.inr (Sum.inr ()))) else
    ((ck (LN 14 t) x3).bind fun j28 =>
      if (lg_cmp (σ.2 14 t j28) y1) = 0 then (some (Sum.inr (Sum.inl ()))) else
      ((some (x3 + 1)).bind fun x3_36 =>
        some (Sum.inl x3_36))))
def X0_isTaken_l3b  (σ : SS) (t : Nat) (y1 : Int64) : (Int32) → Option ((Int32) ⊕ ((Unit) ⊕ (Unit))) := fun ss => X0_isTaken_l3c  σ t y1 ss
def X0_isTaken_j42  (σ : SS) (t : Nat) (y1 : Int64) : Option (Int32) :=
  (X0_leadNamed σ t y1).bind fun v44 =>
  if v44 = (-1) then (some 0) else
  (some 1)
def X0_isTaken_l3  (σ : SS) (t : Nat) (y1 : Int64) (x3 : Int32) : Option (Int32) :=
  (iter (X0_isTaken_l3b  σ t y1) NF x3).bind fun t3 => match t3 with
  | Sum.inl e34 => some 1
  | Sum.inr u34 => (X0_isTaken_j42 σ t y1)
def X0_isTaken_j0  (σ : SS) (t : Nat) (y1 : Int64) : Option (Int32) :=
  X0_isTaken_l3 σ t y1 8
def X0_isTaken  (σ : SS) (t : Nat) (y1 : Int64) : Option (Int32) := X0_isTaken_j0  σ t y1
def X4_put_j0  (σ : SS) (t : Nat) (x1 : Int32) (x2 : Int32) (x3 : Int32) : Option (SS) :=
  if x1 < 0 then (some σ) else
  (if (nI (TR t)) ≤ x1 then (some σ) else
    (if x2 < 0 then (some σ) else
      (if x2 < (nI (TW t)) then ((some ((x1 * (nI (TW t))) + x2)).bind fun x4_33 =>
          if x4_33 < 0 then (some σ) else
          (if (nI (LN 13 t)) ≤ x4_33 then (some σ) else
            ((ck (LN 13 t) x4_33).bind fun j57 =>
              (some (wI σ 13 t j57 x3)).bind fun σ57 =>
              some σ57))) else
        (some σ))))
def X4_put  (σ : SS) (t : Nat) (x1 : Int32) (x2 : Int32) (x3 : Int32) : Option (SS) := X4_put_j0  σ t x1 x2 x3
def X0_addLead_j0  (σ : SS) (t : Nat) (y1 : Int64) : Option (Int32 × SS) :=
  (some (σ.1 0 t 5)).bind fun x3_4 =>
  if x3_4 < 0 then (some (x3_4, σ)) else
  (if 8 ≤ x3_4 then (some (x3_4, σ)) else
    (if (nI (LN 14 t)) ≤ x3_4 then (some (x3_4, σ)) else
      ((ck (LN 14 t) x3_4).bind fun j30 =>
        (some (wJ σ 14 t j30 y1)).bind fun σ30 =>
        (some (wI σ30 0 t 5 ((σ30.1 0 t 5) + 1))).bind fun σ38 =>
        (some (wI σ38 0 t 8 ((σ38.1 0 t 8) ||| (1 <<< (x3_4 &&& 31))))).bind fun σ50 =>
        (X4_put σ50 (4 * t + 1) 1 x3_4 0).bind fun σ60 =>
        (X4_put σ60 (4 * t + 1) 2 x3_4 3).bind fun σ70 =>
        (X4_put σ70 (4 * t + 1) 3 x3_4 3).bind fun σ80 =>
        (X4_put σ80 (4 * t + 1) 4 x3_4 0).bind fun σ90 =>
        (X4_put σ90 (4 * t + 1) 5 x3_4 0).bind fun σ100 =>
        some (x3_4, σ100))))
def X0_addLead  (σ : SS) (t : Nat) (y1 : Int64) : Option (Int32 × SS) := X0_addLead_j0  σ t y1
def X0_setNumber_j0  (σ : SS) (t : Nat) (x1 : Int32) (x2 : Int32) (x3 : Int32) : Option (SS) :=
  (X4_put σ (4 * t + 1) x1 x2 x3).bind fun σ7 =>
  (X4_at σ7 (4 * t + 1) 0 x2).bind fun v16 =>
  (X4_at σ7 (4 * t + 1) 1 x2).bind fun v27 =>
  (some ((v16 / 2) - v27)).bind fun x4_31 =>
  (X4_put σ7 (4 * t + 1) 6 x2 (imax 0 (imin 15 x4_31))).bind fun σ51 =>
  some σ51
def X0_setNumber  (σ : SS) (t : Nat) (x1 : Int32) (x2 : Int32) (x3 : Int32) : Option (SS) := X0_setNumber_j0  σ t x1 x2 x3
def X0_setClip_j20  (σ : SS) (t : Nat) (s1 : Int32) (s2 : Int32) : Option (SS) :=
  (some (wI σ 0 t 9 (s1 ||| s2))).bind fun σ21 =>
  some σ21
def X0_setClip_j0  (σ : SS) (t : Nat) (x1 : Int32) : Option (SS) :=
  (X0_has σ t x1).bind fun v7 =>
  X0_setClip_j20 σ t (σ.1 0 t 9) (if v7 = 0 then 0 else (1 <<< (x1 &&& 31)))
def X0_setClip  (σ : SS) (t : Nat) (x1 : Int32) : Option (SS) := X0_setClip_j0  σ t x1
def X0_addLook_j0  (σ : SS) (t : Nat) (y1 : Int64) : Option (Int32 × SS) :=
  (some (σ.1 0 t 7)).bind fun x3_4 =>
  (some (8 + x3_4)).bind fun x4_9 =>
  if x3_4 < 0 then (some (x3_4, σ)) else
  (if 3 ≤ x3_4 then (some (x3_4, σ)) else
    (if (nI (LN 14 t)) ≤ x4_9 then (some (x3_4, σ)) else
      ((ck (LN 14 t) x4_9).bind fun j37 =>
        (some (wJ σ 14 t j37 y1)).bind fun σ37 =>
        (X4_put σ37 (4 * t + 3) 0 x3_4 0).bind fun σ45 =>
        (some (wI σ45 0 t 7 ((σ45.1 0 t 7) + 1))).bind fun σ55 =>
        some (x3_4, σ55))))
def X0_addLook  (σ : SS) (t : Nat) (y1 : Int64) : Option (Int32 × SS) := X0_addLook_j0  σ t y1
def X0_addToLook_j0  (σ : SS) (t : Nat) (x1 : Int32) (x2 : Int32) : Option (SS) :=
  (X0_hasLook σ t x1).bind fun v2 =>
  if v2 = 0 then (some σ) else
  ((X0_has σ t x2).bind fun v10 =>
    if v10 = 0 then (some σ) else
    ((X4_at σ (4 * t + 3) 0 x1).bind fun v28 =>
      (X4_put σ (4 * t + 3) 0 x1 (v28 ||| (1 <<< (x2 &&& 31)))).bind fun σ35 =>
      some σ35))
def X0_addToLook  (σ : SS) (t : Nat) (x1 : Int32) (x2 : Int32) : Option (SS) := X0_addToLook_j0  σ t x1 x2
def X0_addCrossing_j0  (σ : SS) (t : Nat) (x1 : Int32) (x2 : Int32) (x3 : Int32) : Option (Int32 × SS) :=
  (X0_isFull σ t).bind fun v1 =>
  if v1 = 0 then ((X4_put σ (4 * t + 2) 0 (σ.1 0 t 6) x1).bind fun σ19 =>
    (X4_put σ19 (4 * t + 2) 1 (σ19.1 0 t 6) x2).bind fun σ32 =>
    (X4_put σ32 (4 * t + 2) 2 (σ32.1 0 t 6) x3).bind fun σ45 =>
    (some (wI σ45 0 t 6 ((σ45.1 0 t 6) + 1))).bind fun σ55 =>
    some (1, σ55)) else
  (some (0, σ))
def X0_addCrossing  (σ : SS) (t : Nat) (x1 : Int32) (x2 : Int32) (x3 : Int32) : Option (Int32 × SS) := X0_addCrossing_j0  σ t x1 x2 x3
def X0_secondsToUndo_j29  (σ : SS) (t : Nat) (x2 : Int32) (s0 : Int32) : Option (Int32) :=
  (X4_at σ (4 * t + 1) 1 x2).bind fun v37 =>
  some (s0 + v37)
def X0_secondsToUndo_j0  (σ : SS) (t : Nat) (x1 : Int32) (x2 : Int32) : Option (Int32) :=
  X0_secondsToUndo_j29 σ t x2 (if x1 = 0 then 1 else (if x1 = 1 then 3 else (if x1 = 2 then 6 else 15)))
def X0_secondsToUndo  (σ : SS) (t : Nat) (x1 : Int32) (x2 : Int32) : Option (Int32) := X0_secondsToUndo_j0  σ t x1 x2
def X0_sweep_j78  (σ : SS) (t : Nat) (x1 : Int32) (x2 : Int32) : Option ((Int32 × Int32 × SS) ⊕ (Int32 × SS)) :=
  (some (x2 + 1)).bind fun x2_78 =>
  some (Sum.inl (x1, x2_78, σ))
def X0_sweep_l4c  (σ : SS) (t : Nat)  (x1 : Int32) (x2 : Int32) : Option ((Int32 × Int32 × SS) ⊕ (Int32 × SS)) :=
  if (σ.1 0 t 6) ≤ x2 then (some (Sum.inr (x1, σ))) else
  ((X0_stateAt σ t x2).bind fun v14 =>
    if v14 = (-1) then (X0_sweep_j78 σ t x1 x2) else
    ((X4_at σ (4 * t + 2) 0 x2).bind fun v33 =>
      (X4_put σ (4 * t + 2) 0 x1 v33).bind fun σ36 =>
      (X4_at σ36 (4 * t + 2) 1 x2).bind fun v51 =>
      (X4_put σ36 (4 * t + 2) 1 x1 v51).bind fun σ54 =>
      (X4_at σ54 (4 * t + 2) 2 x2).bind fun v69 =>
      (X4_put σ54 (4 * t + 2) 2 x1 v69).bind fun σ72 =>
      (some (x1 + 1)).bind fun x1_75 =>
      X0_sweep_j78 σ72 t x1_75 x2))
def X0_sweep_l4b   (t : Nat)  : (Int32 × Int32 × SS) → Option ((Int32 × Int32 × SS) ⊕ (Int32 × SS)) := fun ss => X0_sweep_l4c  ss.2.2 t  ss.1 ss.2.1
def X0_sweep_l4  (σ : SS) (t : Nat) (x1 : Int32) (x2 : Int32) : Option (SS) :=
  (iter (X0_sweep_l4b   t ) NF (x1, x2, σ)).bind fun t4 =>
  (some (wI t4.2 0 t 6 t4.1)).bind fun σ86 =>
    some σ86
def X0_sweep_j0  (σ : SS) (t : Nat)  : Option (SS) :=
  X0_sweep_l4 σ t 0 0
def X0_sweep  (σ : SS) (t : Nat)  : Option (SS) := X0_sweep_j0  σ t 
def X0_undoNearest_j17  (σ : SS) (t : Nat) (x1 : Int32) (s1 : Int32) (s2 : Int32) : Option (Int32 × SS) :=
  (X0_crossingOn σ t s1 s2).bind fun v17 =>
  (X0_stateAt σ t v17).bind fun v24 =>
  (X0_otherAt σ t v17 x1).bind fun v30 =>
  (X0_secondsToUndo σ t v24 v30).bind fun v33 =>
  (X4_put σ (4 * t + 2) 2 v17 (-1)).bind fun σ45 =>
  (X0_sweep σ45 t).bind fun σ49 =>
  (some (wI σ49 0 t 10 ((σ49.1 0 t 10) + v33))).bind fun σ60 =>
  some (v33, σ60)
def X0_undoNearest_j0  (σ : SS) (t : Nat) (x1 : Int32) (x2 : Int32) : Option (Int32 × SS) :=
  if x2 = 0 then (X0_undoNearest_j17 σ t x1 x1 0) else
  ((X0_countOn σ t x1).bind fun v12 =>
    X0_undoNearest_j17 σ t x1 x1 (v12 - 1))
def X0_undoNearest  (σ : SS) (t : Nat) (x1 : Int32) (x2 : Int32) : Option (Int32 × SS) := X0_undoNearest_j0  σ t x1 x2
def X0_stateAfter_j0  (σ : SS) (t : Nat) (x1 : Int32) (x2 : Int32) : Option (Int32) :=
  (X4_at σ (4 * t + 2) 2 x1).bind fun v6 =>
  if v6 = 3 then (some 3) else
  (some (v6 - x2))
def X0_stateAfter  (σ : SS) (t : Nat) (x1 : Int32) (x2 : Int32) : Option (Int32) := X0_stateAfter_j0  σ t x1 x2
def X0_loosenOnce_l7c  (σ : SS) (t : Nat) (x1 : Int32) (x2 : Int32) : Option ((Int32 × SS) ⊕ (SS)) :=
  if (σ.1 0 t 6) ≤ x2 then (some (Sum.inr σ)) else
  ((X0_stateAfter σ t x2 1).bind fun v24 =>
    (X4_put σ (4 * t + 2) 2 x2 v24).bind fun σ27 =>
    (some (x2 + 1)).bind fun x2_30 =>
    some (Sum.inl (x2_30, σ27)))
def X0_loosenOnce_l7b   (t : Nat) (x1 : Int32) : (Int32 × SS) → Option ((Int32 × SS) ⊕ (SS)) := fun ss => X0_loosenOnce_l7c  ss.2 t x1 ss.1
def X0_loosenOnce_l7  (σ : SS) (t : Nat) (x1 : Int32) (x2 : Int32) : Option (Int32 × SS) :=
  (iter (X0_loosenOnce_l7b   t x1) NF (x2, σ)).bind fun t7 =>
  (X0_sweep t7 t).bind fun σ37 =>
    (some (wI σ37 0 t 10 ((σ37.1 0 t 10) + x1))).bind fun σ47 =>
    some (x1, σ47)
def X0_loosenOnce_j0  (σ : SS) (t : Nat)  : Option (Int32 × SS) :=
  (some (σ.1 0 t 6)).bind fun x1_4 =>
  X0_loosenOnce_l7 σ t x1_4 0
def X0_loosenOnce  (σ : SS) (t : Nat)  : Option (Int32 × SS) := X0_loosenOnce_j0  σ t 
def X0_secondsToLoosen_j37  (σ : SS) (t : Nat) (x1 : Int32) (x3 : Int32) (s0 : Int32) (s1 : Int32) : Option ((Int32 × Int32) ⊕ (Int32)) :=
  (some (s0 + s1)).bind fun x2_38 =>
  (some (x3 + 1)).bind fun x3_39 =>
  some (Sum.inl (x2_38, x3_39))
def X0_secondsToLoosen_l4c  (σ : SS) (t : Nat) (x1 : Int32) (x2 : Int32) (x3 : Int32) : Option ((Int32 × Int32) ⊕ (Int32)) :=
  if (σ.1 0 t 6) ≤ x3 then (some (Sum.inr x2)) else
  ((X0_stateAt σ t x3).bind fun v15 =>
    if v15 = 3 then (X0_secondsToLoosen_j37 σ t x1 x3 x2 x1) else
    ((X0_stateAt σ t x3).bind fun v29 =>
      X0_secondsToLoosen_j37 σ t x1 x3 x2 (imin x1 (v29 + 1))))
def X0_secondsToLoosen_l4b  (σ : SS) (t : Nat) (x1 : Int32) : (Int32 × Int32) → Option ((Int32 × Int32) ⊕ (Int32)) := fun ss => X0_secondsToLoosen_l4c  σ t x1 ss.1 ss.2
def X0_secondsToLoosen_l4  (σ : SS) (t : Nat) (x1 : Int32) (x2 : Int32) (x3 : Int32) : Option (Int32) :=
  (iter (X0_secondsToLoosen_l4b  σ t x1) NF (x2, x3)).bind fun t4 =>
  some t4
def X0_secondsToLoosen_j0  (σ : SS) (t : Nat) (x1 : Int32) : Option (Int32) :=
  X0_secondsToLoosen_l4 σ t x1 0 0
def X0_secondsToLoosen  (σ : SS) (t : Nat) (x1 : Int32) : Option (Int32) := X0_secondsToLoosen_j0  σ t x1
def X0_pullAt_j69  (σ : SS) (t : Nat) (x1 : Int32) (x2 : Int32) (x3 : Int32) : Option ((Int32 × SS) ⊕ (SS)) :=
  (some (x3 + 1)).bind fun x3_69 =>
  some (Sum.inl (x3_69, σ))
def X0_pullAt_j66  (σ : SS) (t : Nat) (x1 : Int32) (x2 : Int32) (x3 : Int32) (s1 : Int32) (s2 : Int32) (s3 : Int32) : Option ((Int32 × SS) ⊕ (SS)) :=
  (X4_put σ (4 * t + 2) s1 s2 s3).bind fun σ66 =>
  X0_pullAt_j69 σ66 t x1 x2 x3
def X0_pullAt_j41  (σ : SS) (t : Nat) (x1 : Int32) (x2 : Int32) (x3 : Int32) (x4 : Int32) (s0 : Int32) : Option ((Int32 × SS) ⊕ (SS)) :=
  X0_pullAt_j66 σ t x1 x2 x3 2 x3 (if s0 = 0 then (imin 3 (x4 + 1)) else (-1))
def X0_pullAt_j36  (σ : SS) (t : Nat) (x1 : Int32) (x2 : Int32) (x3 : Int32) (x4 : Int32) : Option ((Int32 × SS) ⊕ (SS)) :=
  X0_pullAt_j41 σ t x1 x2 x3 x4 1
def X0_pullAt_l2c  (σ : SS) (t : Nat) (x1 : Int32) (x2 : Int32) (x3 : Int32) : Option ((Int32 × SS) ⊕ (SS)) :=
  if (σ.1 0 t 6) ≤ x3 then (some (Sum.inr σ)) else
  ((X0_otherAt σ t x3 x1).bind fun v13 =>
    if v13 = (-1) then (X0_pullAt_j69 σ t x1 x2 x3) else
    ((X0_stateAt σ t x3).bind fun v22 =>
      if x2 = 0 then (if v22 = 0 then (X0_pullAt_j36 σ t x1 x2 x3 v22) else
        (X0_pullAt_j41 σ t x1 x2 x3 v22 0)) else
      (X0_pullAt_j36 σ t x1 x2 x3 v22)))
def X0_pullAt_l2b   (t : Nat) (x1 : Int32) (x2 : Int32) : (Int32 × SS) → Option ((Int32 × SS) ⊕ (SS)) := fun ss => X0_pullAt_l2c  ss.2 t x1 x2 ss.1
def X0_pullAt_l2  (σ : SS) (t : Nat) (x1 : Int32) (x2 : Int32) (x3 : Int32) : Option (SS) :=
  (iter (X0_pullAt_l2b   t x1 x2) NF (x3, σ)).bind fun t2 =>
  (X0_sweep t2 t).bind fun σ76 =>
    (some (wI σ76 0 t 10 ((σ76.1 0 t 10) + 2))).bind fun σ86 =>
    some σ86
def X0_pullAt_j0  (σ : SS) (t : Nat) (x1 : Int32) (x2 : Int32) : Option (SS) :=
  X0_pullAt_l2 σ t x1 x2 0
def X0_pullAt  (σ : SS) (t : Nat) (x1 : Int32) (x2 : Int32) : Option (SS) := X0_pullAt_j0  σ t x1 x2
def X0_cutOff_j35  (σ : SS) (t : Nat) (x1 : Int32) (x2 : Int32) (x3 : Int32) : Option ((Int32 × SS) ⊕ (SS)) :=
  (some (x3 + 1)).bind fun x3_35 =>
  some (Sum.inl (x3_35, σ))
def X0_cutOff_l7c  (σ : SS) (t : Nat) (x1 : Int32) (x2 : Int32) (x3 : Int32) : Option ((Int32 × SS) ⊕ (SS)) :=
  if (σ.1 0 t 6) ≤ x3 then (some (Sum.inr σ)) else
  ((X0_otherAt σ t x3 x1).bind fun v18 =>
    if v18 = (-1) then (X0_cutOff_j35 σ t x1 x2 x3) else
    ((X4_put σ (4 * t + 2) 2 x3 (-1)).bind fun σ32 =>
      X0_cutOff_j35 σ32 t x1 x2 x3))
def X0_cutOff_l7b   (t : Nat) (x1 : Int32) (x2 : Int32) : (Int32 × SS) → Option ((Int32 × SS) ⊕ (SS)) := fun ss => X0_cutOff_l7c  ss.2 t x1 x2 ss.1
def X0_cutOff_j88  (σ : SS) (t : Nat) (x2 : Int32) (s1 : Int32) (s2 : Int32) : Option (Int32 × SS) :=
  (some (wI σ 0 t 8 (s1 &&& s2))).bind fun σ89 =>
  some ((x2 - (σ89.1 0 t 6)), σ89)
def X0_cutOff_l7  (σ : SS) (t : Nat) (x1 : Int32) (x2 : Int32) (x3 : Int32) : Option (Int32 × SS) :=
  (iter (X0_cutOff_l7b   t x1 x2) NF (x3, σ)).bind fun t7 =>
  (X0_sweep t7 t).bind fun σ42 =>
    (X4_at σ42 (4 * t + 1) 4 x1).bind fun v56 =>
    (some (wI σ42 0 t 11 ((σ42.1 0 t 11) + v56))).bind fun σ60 =>
    (X0_has σ60 t x1).bind fun v70 =>
    X0_cutOff_j88 σ60 t x2 (σ60.1 0 t 8) (if v70 = 0 then (σ60.1 0 t 8) else ((1 <<< (x1 &&& 31)) ^^^ (-1)))
def X0_cutOff_j0  (σ : SS) (t : Nat) (x1 : Int32) : Option (Int32 × SS) :=
  (some (σ.1 0 t 6)).bind fun x2_4 =>
  X0_cutOff_l7 σ t x1 x2_4 0
def X0_cutOff  (σ : SS) (t : Nat) (x1 : Int32) : Option (Int32 × SS) := X0_cutOff_j0  σ t x1
def X0_putClip_j0  (σ : SS) (t : Nat) (x1 : Int32) : Option (Int32 × SS) :=
  (X0_setClip σ t x1).bind fun σ2 =>
  (some (wI σ2 0 t 10 ((σ2.1 0 t 10) + 12))).bind fun σ13 =>
  some (1, σ13)
def X0_putClip  (σ : SS) (t : Nat) (x1 : Int32) : Option (Int32 × SS) := X0_putClip_j0  σ t x1
def X0_takeClip_j25  (σ : SS) (t : Nat) (s1 : Int32) (s2 : Int32) : Option (Int32 × SS) :=
  (some (wI σ 0 t 9 (s1 &&& s2))).bind fun σ26 =>
  some (1, σ26)
def X0_takeClip_j0  (σ : SS) (t : Nat) (x1 : Int32) : Option (Int32 × SS) :=
  (X0_has σ t x1).bind fun v7 =>
  X0_takeClip_j25 σ t (σ.1 0 t 9) (if v7 = 0 then (σ.1 0 t 9) else ((1 <<< (x1 &&& 31)) ^^^ (-1)))
def X0_takeClip  (σ : SS) (t : Nat) (x1 : Int32) : Option (Int32 × SS) := X0_takeClip_j0  σ t x1
def X0_drawFrom_j0  (σ : SS) (t : Nat) (x1 : Int32) : Option (SS) :=
  (some (wI σ 0 t 13 x1)).bind fun σ2 =>
  some σ2
def X0_drawFrom  (σ : SS) (t : Nat) (x1 : Int32) : Option (SS) := X0_drawFrom_j0  σ t x1
def X0_drawBy_j0  (σ : SS) (t : Nat) (x1 : Int32) : Option (Int32 × SS) :=
  (some (wI σ 0 t 13 ((((σ.1 0 t 13) * 2897) + 10529) &&& 65535))).bind fun σ16 =>
  if x1 ≤ 0 then (some (0, σ16)) else
  ((nz x1).bind fun w30 =>
    some ((((σ16.1 0 t 13) >>> (3 &&& 31)) - ((σ16.1 0 t 13) >>> (3 &&& 31)) / x1 * x1), σ16))
def X0_drawBy  (σ : SS) (t : Nat) (x1 : Int32) : Option (Int32 × SS) := X0_drawBy_j0  σ t x1
def J6_bitCount_0f7a4_j0  (σ : SS)  (x0 : Int32) : Option (Int32) :=
  (some (x0 - ((x0.toUInt32 >>> (Int32.toUInt32 1 &&& Int32.toUInt32 31)).toInt32 &&& 1431655765))).bind fun x0_9 =>
  (some ((x0_9 &&& 858993459) + ((x0_9.toUInt32 >>> (Int32.toUInt32 2 &&& Int32.toUInt32 31)).toInt32 &&& 858993459))).bind fun x0_23 =>
  (some ((x0_23 + (x0_23.toUInt32 >>> (Int32.toUInt32 4 &&& Int32.toUInt32 31)).toInt32) &&& 252645135)).bind fun x0_33 =>
  (some (x0_33 + (x0_33.toUInt32 >>> (Int32.toUInt32 8 &&& Int32.toUInt32 31)).toInt32)).bind fun x0_40 =>
  (some (x0_40 + (x0_40.toUInt32 >>> (Int32.toUInt32 16 &&& Int32.toUInt32 31)).toInt32)).bind fun x0_47 =>
  some (x0_47 &&& 63)
def J6_bitCount_0f7a4  (σ : SS)  (x0 : Int32) : Option (Int32) := J6_bitCount_0f7a4_j0  σ  x0
def X0_memberAt_j28  (σ : SS)  (x0 : Int32) (x2 : Int32) (x3 : Int32) : Option ((Int32 × Int32) ⊕ ((Int32) ⊕ (Unit))) :=
  (some (x3 + 1)).bind fun x3_28 =>
  some (Sum.inl (x2, x3_28))
def X0_memberAt_l4c  (σ : SS)  (x0 : Int32) (x2 : Int32) (x3 : Int32) : Option ((Int32 × Int32) ⊕ ((Int32) ⊕ (Unit))) :=
  if 8 ≤ x3 then (some (Sum.inr (Sum.inr ()))) else
  (if ((x0 >>> (x3 &&& 31)) &&& 1) = 1 then (if x2 = 0 then (some (Sum.inr (Sum.inl x3))) else
      ((some (x2 + (-1))).bind fun x2_25 =>
        X0_memberAt_j28 σ x0 x2_25 x3)) else
    (X0_memberAt_j28 σ x0 x2 x3))
def X0_memberAt_l4b  (σ : SS)  (x0 : Int32) : (Int32 × Int32) → Option ((Int32 × Int32) ⊕ ((Int32) ⊕ (Unit))) := fun ss => X0_memberAt_l4c  σ  x0 ss.1 ss.2
def X0_memberAt_l4  (σ : SS)  (x0 : Int32) (x2 : Int32) (x3 : Int32) : Option (Int32) :=
  (iter (X0_memberAt_l4b  σ  x0) NF (x2, x3)).bind fun t4 => match t4 with
  | Sum.inl e23 => some e23
  | Sum.inr u23 => (some (-1))
def X0_memberAt_j0  (σ : SS)  (x0 : Int32) (x1 : Int32) : Option (Int32) :=
  X0_memberAt_l4 σ x0 x1 0
def X0_memberAt  (σ : SS)  (x0 : Int32) (x1 : Int32) : Option (Int32) := X0_memberAt_j0  σ  x0 x1
def X0_crossByDraw_j103  (σ : SS) (t : Nat) (s1 : Int32) (s2 : Int32) (s3 : Int32) : Option (Int32 × SS) :=
  (X0_addCrossing σ t s1 s2 s3).bind fun p103 =>
  if p103.1 = 0 then (some (0, p103.2)) else
  (some (1, p103.2))
def X0_crossByDraw_j87  (σ : SS) (t : Nat) (x1 : Int32) (x5 : Int32) (s0 : Int32) : Option (Int32 × SS) :=
  X0_crossByDraw_j103 σ t x1 x5 (if s0 = 0 then 0 else 1)
def X0_crossByDraw_j82  (σ : SS) (t : Nat) (x1 : Int32) (x5 : Int32) : Option (Int32 × SS) :=
  X0_crossByDraw_j87 σ t x1 x5 1
def X0_crossByDraw_j0  (σ : SS) (t : Nat) (x1 : Int32) (x2 : Int32) : Option (Int32 × SS) :=
  (J6_bitCount_0f7a4 σ x2).bind fun v1 =>
  if v1 = 0 then (some (0, σ)) else
  ((X0_drawBy σ t v1).bind fun p13 =>
    (X0_isFull p13.2 t).bind fun v19 =>
    if v19 = 0 then ((X0_memberAt p13.2 x2 p13.1).bind fun v30 =>
      (X4_at p13.2 (4 * t + 1) 1 v30).bind fun v44 =>
      (some (imin 9 (v44 + 2))).bind fun x6_52 =>
      (X4_at p13.2 (4 * t + 1) 2 x1).bind fun v60 =>
      if v60 < x6_52 then (X0_crossByDraw_j82 p13.2 t x1 v30) else
      ((X4_at p13.2 (4 * t + 1) 3 x1).bind fun v74 =>
        if x6_52 ≤ v74 then (X0_crossByDraw_j87 p13.2 t x1 v30 0) else
        (X0_crossByDraw_j82 p13.2 t x1 v30))) else
    (some (0, p13.2)))
def X0_crossByDraw  (σ : SS) (t : Nat) (x1 : Int32) (x2 : Int32) : Option (Int32 × SS) := X0_crossByDraw_j0  σ t x1 x2
def X0_openOnce_j70  (σ : SS) (t : Nat) (x1 : Int32) (x2 : Int32) (x3 : Int32) : Option ((Int32 × Int32 × SS) ⊕ (Int32 × SS)) :=
  (some (x3 + 1)).bind fun x3_70 =>
  some (Sum.inl (x2, x3_70, σ))
def X0_openOnce_l19c  (σ : SS) (t : Nat) (x1 : Int32) (x2 : Int32) (x3 : Int32) : Option ((Int32 × Int32 × SS) ⊕ (Int32 × SS)) :=
  if (σ.1 0 t 5) ≤ x3 then (some (Sum.inr (x2, σ))) else
  (if ((x1 >>> (x3 &&& 31)) &&& 1) = 1 then ((X0_drawBy σ t 16).bind fun p39 =>
      (X4_at p39.2 (4 * t + 1) 6 x3).bind fun v49 =>
      if v49 ≤ p39.1 then (X0_openOnce_j70 p39.2 t x1 x2 x3) else
      ((X0_crossByDraw p39.2 t x3 (x1 &&& ((1 <<< (x3 &&& 31)) ^^^ (-1)))).bind fun p65 =>
        (some (x2 + p65.1)).bind fun x2_69 =>
        X0_openOnce_j70 p65.2 t x1 x2_69 x3)) else
    (X0_openOnce_j70 σ t x1 x2 x3))
def X0_openOnce_l19b   (t : Nat) (x1 : Int32) : (Int32 × Int32 × SS) → Option ((Int32 × Int32 × SS) ⊕ (Int32 × SS)) := fun ss => X0_openOnce_l19c  ss.2.2 t x1 ss.1 ss.2.1
def X0_openOnce_l19  (σ : SS) (t : Nat) (x1 : Int32) (x2 : Int32) (x3 : Int32) : Option (Int32 × SS) :=
  (iter (X0_openOnce_l19b   t x1) NF (x2, x3, σ)).bind fun t19 =>
  some (t19.1, t19.2)
def X0_openOnce_j0  (σ : SS) (t : Nat)  : Option (Int32 × SS) :=
  (some (wI σ 0 t 12 ((σ.1 0 t 12) + 1))).bind fun σ7 =>
  (X0_unclippedSet σ7 t).bind fun v11 =>
  X0_openOnce_l19 σ7 t v11 0 0
def X0_openOnce  (σ : SS) (t : Nat)  : Option (Int32 × SS) := X0_openOnce_j0  σ t 
def X5_atEnd_j0  (σ : SS)   : Option (Int32) :=
  if (σ.1 4 0 3) = 0 then (some 1) else
  (some 0)
def X5_atEnd  (σ : SS)   : Option (Int32) := X5_atEnd_j0  σ  
def X5_wordIs_j0  (σ : SS)  (x1 : Int32) : Option (Int32) :=
  if (σ.1 4 0 3) = 2 then (if (σ.1 4 0 6) = x1 then (some 1) else
    (some 0)) else
  (some 0)
def X5_wordIs  (σ : SS)  (x1 : Int32) : Option (Int32) := X5_wordIs_j0  σ  x1
def X5_fail_j14  (σ : SS)  (s1 : Int32) : Option (Int32 × SS) :=
  (some (wI σ 4 0 7 s1)).bind fun σ14 =>
  (some (wI σ14 4 0 8 (σ14.1 4 0 4))).bind fun σ22 =>
  some (0, σ22)
def X5_fail_j0  (σ : SS)  (x1 : Int32) : Option (Int32 × SS) :=
  X5_fail_j14 σ (if (σ.1 4 0 3) = 1 then 1 else x1)
def X5_fail  (σ : SS)  (x1 : Int32) : Option (Int32 × SS) := X5_fail_j0  σ  x1
def X5_byteAt_j0  (σ : SS)  (x1 : Int32) : Option (Int32) :=
  if x1 < 0 then (some (-1)) else
  (if (σ.1 4 0 2) ≤ x1 then (some (-1)) else
    (if (nI (LN 13 31)) ≤ x1 then (some (-1)) else
      ((ck (LN 13 31) x1).bind fun j26 =>
        some (σ.1 13 31 j26))))
def X5_byteAt  (σ : SS)  (x1 : Int32) : Option (Int32) := X5_byteAt_j0  σ  x1
def X5_isBlank_j12  (σ : SS)   : Option (Int32) :=
  some 1
def X5_isBlank_j0  (σ : SS)  (x0 : Int32) : Option (Int32) :=
  if x0 = 10 then (X5_isBlank_j12 σ) else
  (if x0 = 32 then (X5_isBlank_j12 σ) else
    (some 0))
def X5_isBlank  (σ : SS)  (x0 : Int32) : Option (Int32) := X5_isBlank_j0  σ  x0
def X5_isLetter_j0  (σ : SS)  (x0 : Int32) : Option (Int32) :=
  if x0 < 97 then (some 0) else
  (if 122 < x0 then (some 0) else
    (some 1))
def X5_isLetter  (σ : SS)  (x0 : Int32) : Option (Int32) := X5_isLetter_j0  σ  x0
def X5_numberOfWord_j96  (σ : SS)  (x1 : Int32) (x2 : Int32) (x3 : Int32) (x4 : Int32) : Option ((Int32 × Int32 × Int32 × Int32) ⊕ ((Int32) ⊕ (Unit))) :=
  (some (x4 + 1)).bind fun x4_96 =>
  some (Sum.inl (x1, x2, x3, x4_96))
def X5_numberOfWord_j86  (σ : SS)  (x1 : Int32) (x4 : Int32) : Option ((Int32 × Int32 × Int32 × Int32) ⊕ ((Int32) ⊕ (Unit))) :=
  (some (x1 + 1)).bind fun x1_86 =>
  (some (σ.1 4 0 4)).bind fun x2_93 =>
  X5_numberOfWord_j96 σ x1_86 x2_93 1 x4
def X5_numberOfWord_j65  (σ : SS)  (x1 : Int32) (x2 : Int32) (x4 : Int32) (s0 : Int32) : Option ((Int32 × Int32 × Int32 × Int32) ⊕ ((Int32) ⊕ (Unit))) :=
  (some (x2 + 1)).bind fun x2_66 =>
  X5_numberOfWord_j96 σ x1 x2_66 s0 x4
def X5_numberOfWord_j64  (σ : SS)  (x1 : Int32) (x2 : Int32) (x4 : Int32) : Option ((Int32 × Int32 × Int32 × Int32) ⊕ ((Int32) ⊕ (Unit))) :=
  X5_numberOfWord_j65 σ x1 x2 x4 0
def X5_numberOfWord_l12c  (σ : SS)   (x1 : Int32) (x2 : Int32) (x3 : Int32) (x4 : Int32) : Option ((Int32 × Int32 × Int32 × Int32) ⊕ ((Int32) ⊕ (Unit))) :=
  if nI 128 ≤ x4 then (some (Sum.inr (Sum.inr ()))) else
  ((ck 128 x4).bind fun j22 =>
    (some (WBY.getD j22 0)).bind fun x5_29 =>
    if x5_29 = 32 then (if x3 = 0 then (X5_numberOfWord_j86 σ x1 x4) else
      (if x2 = (σ.1 4 0 5) then (some (Sum.inr (Sum.inl x1))) else
        (X5_numberOfWord_j86 σ x1 x4))) else
    (if x3 = 0 then (X5_numberOfWord_j64 σ x1 x2 x4) else
      (if (σ.1 4 0 5) ≤ x2 then (X5_numberOfWord_j64 σ x1 x2 x4) else
        ((X5_byteAt σ x2).bind fun v52 =>
          if v52 = x5_29 then (X5_numberOfWord_j65 σ x1 x2 x4 1) else
          (X5_numberOfWord_j64 σ x1 x2 x4)))))
def X5_numberOfWord_l12b  (σ : SS)   : (Int32 × Int32 × Int32 × Int32) → Option ((Int32 × Int32 × Int32 × Int32) ⊕ ((Int32) ⊕ (Unit))) := fun ss => X5_numberOfWord_l12c  σ   ss.1 ss.2.1 ss.2.2.1 ss.2.2.2
def X5_numberOfWord_l12  (σ : SS)  (x1 : Int32) (x2 : Int32) (x3 : Int32) (x4 : Int32) : Option (Int32) :=
  (iter (X5_numberOfWord_l12b  σ  ) NF (x1, x2, x3, x4)).bind fun t12 => match t12 with
  | Sum.inl e84 => some e84
  | Sum.inr u84 => (some (-1))
def X5_numberOfWord_j0  (σ : SS)   : Option (Int32) :=
  (some (σ.1 4 0 4)).bind fun x2_6 =>
  X5_numberOfWord_l12 σ 0 x2_6 1 0
def X5_numberOfWord  (σ : SS)   : Option (Int32) := X5_numberOfWord_j0  σ  
def X5_isDigit_j0  (σ : SS)  (x0 : Int32) : Option (Int32) :=
  if x0 < 48 then (some 0) else
  (if 57 < x0 then (some 0) else
    (some 1))
def X5_isDigit  (σ : SS)  (x0 : Int32) : Option (Int32) := X5_isDigit_j0  σ  x0
def X5_isSign_j24  (σ : SS)   : Option (Int32) :=
  some 1
def X5_isSign_j0  (σ : SS)  (x0 : Int32) : Option (Int32) :=
  if x0 = 59 then (X5_isSign_j24 σ) else
  (if x0 = 60 then (X5_isSign_j24 σ) else
    (if x0 = 62 then (X5_isSign_j24 σ) else
      (if x0 = 61 then (X5_isSign_j24 σ) else
        (some 0))))
def X5_isSign  (σ : SS)  (x0 : Int32) : Option (Int32) := X5_isSign_j0  σ  x0
def X5_next_l12c  (σ : SS)    : Option ((SS) ⊕ (SS)) :=
  if (σ.1 4 0 2) ≤ (σ.1 4 0 4) then (some (Sum.inr σ)) else
  ((X5_byteAt σ (σ.1 4 0 4)).bind fun v28 =>
    (X5_isBlank σ v28).bind fun v31 =>
    if v31 = 0 then (some (Sum.inr σ)) else
    ((some (wI σ 4 0 4 ((σ.1 4 0 4) + 1))).bind fun σ44 =>
      some (Sum.inl σ44)))
def X5_next_l12b     : (SS) → Option ((SS) ⊕ (SS)) := fun ss => X5_next_l12c  ss   
def X5_next_l58c  (σ : SS)    : Option ((SS) ⊕ (SS)) :=
  if (σ.1 4 0 2) ≤ (σ.1 4 0 5) then (some (Sum.inr σ)) else
  ((X5_byteAt σ (σ.1 4 0 5)).bind fun v74 =>
    (X5_isLetter σ v74).bind fun v77 =>
    if v77 = 0 then (some (Sum.inr σ)) else
    ((some (wI σ 4 0 5 ((σ.1 4 0 5) + 1))).bind fun σ90 =>
      some (Sum.inl σ90)))
def X5_next_l58b     : (SS) → Option ((SS) ⊕ (SS)) := fun ss => X5_next_l58c  ss   
def X5_next_l126c  (σ : SS)    : Option ((SS) ⊕ (SS)) :=
  if (σ.1 4 0 2) ≤ (σ.1 4 0 5) then (some (Sum.inr σ)) else
  ((X5_byteAt σ (σ.1 4 0 5)).bind fun v142 =>
    (X5_isDigit σ v142).bind fun v145 =>
    if v145 = 0 then (some (Sum.inr σ)) else
    ((some (wI σ 4 0 5 ((σ.1 4 0 5) + 1))).bind fun σ158 =>
      some (Sum.inl σ158)))
def X5_next_l126b     : (SS) → Option ((SS) ⊕ (SS)) := fun ss => X5_next_l126c  ss   
def X5_next_j233  (σ : SS)  (s1 : Int32) : Option (SS) :=
  (some (wI σ 4 0 3 s1)).bind fun σ233 =>
  (some (wI σ233 4 0 5 (imin ((σ233.1 4 0 4) + 1) (σ233.1 4 0 2)))).bind fun σ250 =>
  some σ250
def X5_next_j194  (σ : SS)  (s1 : Int32) : Option (SS) :=
  (some (wI σ 4 0 3 s1)).bind fun σ194 =>
  some σ194
def X5_next_j164  (σ : SS)   : Option (SS) :=
  if (σ.1 4 0 5) ≤ (σ.1 4 0 4) then (if (σ.1 4 0 4) < (σ.1 4 0 2) then ((X5_byteAt σ (σ.1 4 0 4)).bind fun v219 =>
      (X5_isSign σ v219).bind fun v222 =>
      X5_next_j233 σ (if v222 = 0 then 1 else 4)) else
    (X5_next_j233 σ 0)) else
  (X5_next_j194 σ (if 4 < ((σ.1 4 0 5) - (σ.1 4 0 4)) then 1 else 3))
def X5_next_l126  (σ : SS)   : Option (SS) :=
  (iter (X5_next_l126b    ) NF σ).bind fun t126 =>
  X5_next_j164 t126
def X5_next_j96  (σ : SS)   : Option (SS) :=
  (some (wI σ 4 0 6 (-1))).bind fun σ98 =>
  if (σ98.1 4 0 5) ≤ (σ98.1 4 0 4) then (X5_next_l126 σ98) else
  ((some (wI σ98 4 0 3 2)).bind fun σ114 =>
    (X5_numberOfWord σ114 ).bind fun v119 =>
    (some (wI σ114 4 0 6 v119)).bind fun σ122 =>
    some σ122)
def X5_next_l58  (σ : SS)   : Option (SS) :=
  (iter (X5_next_l58b    ) NF σ).bind fun t58 =>
  X5_next_j96 t58
def X5_next_j50  (σ : SS)   : Option (SS) :=
  (some (wI σ 4 0 5 (σ.1 4 0 4))).bind fun σ55 =>
  X5_next_l58 σ55
def X5_next_l12  (σ : SS)   : Option (SS) :=
  (iter (X5_next_l12b    ) NF σ).bind fun t12 =>
  X5_next_j50 t12
def X5_next_j0  (σ : SS)   : Option (SS) :=
  (some (wI σ 4 0 4 (imax (σ.1 4 0 5) 0))).bind fun σ9 =>
  X5_next_l12 σ9
def X5_next  (σ : SS)   : Option (SS) := X5_next_j0  σ  
def X5_nameStands_j0  (σ : SS)   : Option (Int32) :=
  if (σ.1 4 0 3) = 2 then (if (σ.1 4 0 6) = (-1) then (if 8 < ((σ.1 4 0 5) - (σ.1 4 0 4)) then (some 0) else
      (some 1)) else
    (some 0)) else
  (some 0)
def X5_nameStands  (σ : SS)   : Option (Int32) := X5_nameStands_j0  σ  
def X5_name_l7c  (σ : SS)   (y1 : Int64) (x3 : Int32) : Option ((Int64 × Int32) ⊕ (Int64)) :=
  if (σ.1 4 0 5) ≤ x3 then (some (Sum.inr y1)) else
  ((X5_byteAt σ x3).bind fun v22 =>
    (some ((((y1 * 32) + (Int32.toInt64 v22)) - 97) + 1)).bind fun y1_33 =>
    (some (x3 + 1)).bind fun x3_34 =>
    some (Sum.inl (y1_33, x3_34)))
def X5_name_l7b  (σ : SS)   : (Int64 × Int32) → Option ((Int64 × Int32) ⊕ (Int64)) := fun ss => X5_name_l7c  σ   ss.1 ss.2
def X5_name_l7  (σ : SS)  (y1 : Int64) (x3 : Int32) : Option (Int64) :=
  (iter (X5_name_l7b  σ  ) NF (y1, x3)).bind fun t7 =>
  some t7
def X5_name_j0  (σ : SS)   : Option (Int64) :=
  (some (σ.1 4 0 4)).bind fun x3_6 =>
  X5_name_l7 σ 0 x3_6
def X5_name  (σ : SS)   : Option (Int64) := X5_name_j0  σ  
def X1_newNameStands_j0  (σ : SS) (r1 : Nat)  : Option (Int32 × SS) :=
  (X5_nameStands σ ).bind fun v4 =>
  if v4 = 0 then ((X5_fail σ 2).bind fun p15 =>
    (zb p15.1).bind fun b47 =>
    some (p15.1, p15.2)) else
  ((X5_name σ ).bind fun v26 =>
    (X0_isTaken σ r1 v26).bind fun v29 =>
    if v29 = 0 then (some (1, σ)) else
    ((X5_fail σ 3).bind fun p40 =>
      (zb p40.1).bind fun b47 =>
      some (p40.1, p40.2)))
def X1_newNameStands  (σ : SS) (r1 : Nat)  : Option (Int32 × SS) := X1_newNameStands_j0  σ r1 
def X5_passWord_j0  (σ : SS)  (x1 : Int32) : Option (Int32 × SS) :=
  (X5_wordIs σ x1).bind fun v2 =>
  if v2 = 0 then ((X5_fail σ 2).bind fun p10 =>
    (zb p10.1).bind fun b13 =>
    some (p10.1, p10.2)) else
  ((X5_next σ ).bind fun σ15 =>
    some (1, σ15))
def X5_passWord  (σ : SS)  (x1 : Int32) : Option (Int32 × SS) := X5_passWord_j0  σ  x1
def X5_passNumber_l24c  (σ : SS)  (x1 : Int32) (x2 : Int32) (x3 : Int32) (x4 : Int32) : Option ((Int32 × Int32) ⊕ (Int32)) :=
  if (σ.1 4 0 5) ≤ x4 then (some (Sum.inr x3)) else
  ((X5_byteAt σ x4).bind fun v40 =>
    (some (((x3 * 10) + v40) - 48)).bind fun x3_47 =>
    (some (x4 + 1)).bind fun x4_48 =>
    some (Sum.inl (x3_47, x4_48)))
def X5_passNumber_l24b  (σ : SS)  (x1 : Int32) (x2 : Int32) : (Int32 × Int32) → Option ((Int32 × Int32) ⊕ (Int32)) := fun ss => X5_passNumber_l24c  σ  x1 x2 ss.1 ss.2
def X5_passNumber_j64  (σ : SS)   : Option (Int32 × SS) :=
  (X5_fail σ 4).bind fun p66 =>
  some ((-1), p66.2)
def X5_passNumber_l24  (σ : SS)  (x1 : Int32) (x2 : Int32) (x3 : Int32) (x4 : Int32) : Option (Int32 × SS) :=
  (iter (X5_passNumber_l24b  σ  x1 x2) NF (x3, x4)).bind fun t24 =>
  if t24 < x1 then (X5_passNumber_j64 σ) else
    (if t24 ≤ x2 then ((X5_next σ ).bind fun σ73 =>
        some (t24, σ73)) else
      (X5_passNumber_j64 σ))
def X5_passNumber_j0  (σ : SS)  (x1 : Int32) (x2 : Int32) : Option (Int32 × SS) :=
  if (σ.1 4 0 3) = 3 then ((some (σ.1 4 0 4)).bind fun x4_22 =>
    X5_passNumber_l24 σ x1 x2 0 x4_22) else
  ((X5_fail σ 2).bind fun p10 =>
    some ((-1), p10.2))
def X5_passNumber  (σ : SS)  (x1 : Int32) (x2 : Int32) : Option (Int32 × SS) := X5_passNumber_j0  σ  x1 x2
def X1_numberIs_j25  (σ : SS) (r2 : Nat) (x3 : Int32) (x4 : Int32) (x5 : Int32) (x6 : Int32) : Option (Int32 × SS) :=
  (X5_passNumber σ x5 x6).bind fun p33 =>
  if p33.1 = (-1) then (some (0, p33.2)) else
  ((X0_setNumber p33.2 r2 x4 x3 p33.1).bind fun σ52 =>
    some (1, σ52))
def X1_numberIs_j0  (σ : SS) (r2 : Nat) (x1 : Int32) (x3 : Int32) (x4 : Int32) (x5 : Int32) (x6 : Int32) : Option (Int32 × SS) :=
  if x1 = (-1) then (X1_numberIs_j25 σ r2 x3 x4 x5 x6) else
  ((X5_wordIs σ x1).bind fun v10 =>
    if v10 = 0 then (some (1, σ)) else
    ((X5_next σ ).bind fun σ22 =>
      X1_numberIs_j25 σ22 r2 x3 x4 x5 x6))
def X1_numberIs  (σ : SS) (r2 : Nat) (x1 : Int32) (x3 : Int32) (x4 : Int32) (x5 : Int32) (x6 : Int32) : Option (Int32 × SS) := X1_numberIs_j0  σ r2 x1 x3 x4 x5 x6
def X1_perhapsEnds_j50  (σ : SS) (r1 : Nat) (x2 : Int32) (x3 : Int32) (s0 : Int32) : Option (Int32 × SS) :=
  (X0_setNumber σ r1 2 x2 x3).bind fun σ56 =>
  (X0_setNumber σ56 r1 3 x2 s0).bind fun σ64 =>
  if s0 = (-1) then (some (0, σ64)) else
  (some (1, σ64))
def X1_perhapsEnds_j0  (σ : SS) (r1 : Nat) (x2 : Int32) : Option (Int32 × SS) :=
  (X5_wordIs σ 3).bind fun v5 =>
  if v5 = 0 then (some (1, σ)) else
  ((X5_next σ ).bind fun σ17 =>
    (X5_passNumber σ17 1 9).bind fun p27 =>
    if p27.1 = (-1) then (X1_perhapsEnds_j50 p27.2 r1 x2 p27.1 (-1)) else
    ((X5_passNumber p27.2 1 9).bind fun p47 =>
      X1_perhapsEnds_j50 p47.2 r1 x2 p27.1 p47.1))
def X1_perhapsEnds  (σ : SS) (r1 : Nat) (x2 : Int32) : Option (Int32 × SS) := X1_perhapsEnds_j0  σ r1 x2
def X1_perhapsClip_j0  (σ : SS) (r1 : Nat) (x2 : Int32) : Option (Int32 × SS) :=
  (X5_wordIs σ 6).bind fun v6 =>
  if v6 = 0 then (some (1, σ)) else
  ((X0_setClip σ r1 x2).bind fun σ14 =>
    (X5_next σ14 ).bind fun σ21 =>
    some (1, σ21))
def X1_perhapsClip  (σ : SS) (r1 : Nat) (x2 : Int32) : Option (Int32 × SS) := X1_perhapsClip_j0  σ r1 x2
def X5_signIs_j0  (σ : SS)  (x1 : Int32) : Option (Int32) :=
  if (σ.1 4 0 3) = 4 then ((X5_byteAt σ (σ.1 4 0 4)).bind fun v13 =>
    if v13 = x1 then (some 1) else
    (some 0)) else
  (some 0)
def X5_signIs  (σ : SS)  (x1 : Int32) : Option (Int32) := X5_signIs_j0  σ  x1
def X5_passSign_j0  (σ : SS)  (x1 : Int32) : Option (Int32 × SS) :=
  (X5_signIs σ x1).bind fun v2 =>
  if v2 = 0 then ((X5_fail σ 2).bind fun p10 =>
    (zb p10.1).bind fun b13 =>
    some (p10.1, p10.2)) else
  ((X5_next σ ).bind fun σ15 =>
    some (1, σ15))
def X5_passSign  (σ : SS)  (x1 : Int32) : Option (Int32 × SS) := X5_passSign_j0  σ  x1
def X1_leadPart_j0  (σ : SS) (r1 : Nat)  : Option (Int32 × SS) :=
  (X0_leadCount σ r1).bind fun v1 =>
  if v1 < 8 then ((X5_next σ ).bind fun σ23 =>
    (X1_newNameStands σ23 r1).bind fun p28 =>
    if p28.1 = 0 then (some (0, p28.2)) else
    ((X5_name p28.2 ).bind fun v41 =>
      (X0_addLead p28.2 r1 v41).bind fun p44 =>
      (X5_next p44.2 ).bind fun σ52 =>
      (X5_passWord σ52 1).bind fun p60 =>
      if p60.1 = 0 then (some (0, p60.2)) else
      ((X1_numberIs p60.2 r1 (-1) p44.1 0 1 30).bind fun p74 =>
        if p74.1 = 0 then (some (0, p74.2)) else
        ((X1_numberIs p74.2 r1 2 p44.1 1 0 9).bind fun p88 =>
          if p88.1 = 0 then (some (0, p88.2)) else
          ((X1_perhapsEnds p88.2 r1 p44.1).bind fun p97 =>
            if p97.1 = 0 then (some (0, p97.2)) else
            ((X1_numberIs p97.2 r1 4 p44.1 4 0 999).bind fun p112 =>
              if p112.1 = 0 then (some (0, p112.2)) else
              ((X1_numberIs p112.2 r1 5 p44.1 5 0 16).bind fun p126 =>
                if p126.1 = 0 then (some (0, p126.2)) else
                ((X1_perhapsClip p126.2 r1 p44.1).bind fun p135 =>
                  if p135.1 = 0 then (some (0, p135.2)) else
                  ((X5_passSign p135.2 59).bind fun p147 =>
                    if p147.1 = 0 then (some (0, p147.2)) else
                    (some (1, p147.2))))))))))) else
  ((X5_fail σ 6).bind fun p15 =>
    (zb p15.1).bind fun b18 =>
    some (p15.1, p15.2))
def X1_leadPart  (σ : SS) (r1 : Nat)  : Option (Int32 × SS) := X1_leadPart_j0  σ r1 
def X1_toldNameStands_j0  (σ : SS) (r1 : Nat)  : Option (Int32 × SS) :=
  (X5_nameStands σ ).bind fun v4 =>
  if v4 = 0 then ((X5_fail σ 2).bind fun p15 =>
    (zb p15.1).bind fun b48 =>
    some (p15.1, p15.2)) else
  ((X5_name σ ).bind fun v26 =>
    (X0_leadNamed σ r1 v26).bind fun v29 =>
    if v29 = (-1) then ((X5_fail σ 3).bind fun p41 =>
      (zb p41.1).bind fun b48 =>
      some (p41.1, p41.2)) else
    (some (1, σ)))
def X1_toldNameStands  (σ : SS) (r1 : Nat)  : Option (Int32 × SS) := X1_toldNameStands_j0  σ r1 
def X1_crossable_j35  (σ : SS) (r1 : Nat)  : Option (Int32 × SS) :=
  (X5_fail σ 5).bind fun p40 =>
  some ((-1), p40.2)
def X1_crossable_j0  (σ : SS) (r1 : Nat) (x2 : Int32) : Option (Int32 × SS) :=
  (X1_toldNameStands σ r1).bind fun p2 =>
  if p2.1 = 0 then (some ((-1), p2.2)) else
  ((X5_name p2.2 ).bind fun v15 =>
    (X0_leadNamed p2.2 r1 v15).bind fun v18 =>
    if v18 = x2 then (X1_crossable_j35 p2.2 r1) else
    ((X0_hasClip p2.2 r1 v18).bind fun v29 =>
      if v29 = 0 then ((X5_next p2.2 ).bind fun σ50 =>
        some (v18, σ50)) else
      (X1_crossable_j35 p2.2 r1)))
def X1_crossable  (σ : SS) (r1 : Nat) (x2 : Int32) : Option (Int32 × SS) := X1_crossable_j0  σ r1 x2
def X1_perhapsState_j49  (σ : SS)  (s0 : Int32) : Option (Int32 × SS) :=
  if s0 = 0 then (some (s0, σ)) else
  ((X5_next σ ).bind fun σ58 =>
    some (s0, σ58))
def X1_perhapsState_j0  (σ : SS)   : Option (Int32 × SS) :=
  (X5_wordIs σ 8).bind fun v6 =>
  if v6 = 0 then ((X5_wordIs σ 9).bind fun v22 =>
    if v22 = 0 then ((X5_wordIs σ 10).bind fun v38 =>
      X1_perhapsState_j49 σ (if v38 = 0 then 0 else 3)) else
    (X1_perhapsState_j49 σ 2)) else
  (X1_perhapsState_j49 σ 1)
def X1_perhapsState  (σ : SS)   : Option (Int32 × SS) := X1_perhapsState_j0  σ  
def X1_crossPart_j0  (σ : SS) (r1 : Nat)  : Option (Int32 × SS) :=
  (X0_isFull σ r1).bind fun v1 =>
  if v1 = 0 then ((X5_next σ ).bind fun σ21 =>
    (X1_crossable σ21 r1 (-1)).bind fun p27 =>
    if p27.1 = (-1) then (some (0, p27.2)) else
    ((X1_crossable p27.2 r1 p27.1).bind fun p41 =>
      if p41.1 = (-1) then (some (0, p41.2)) else
      ((X1_perhapsState p41.2 ).bind fun p56 =>
        (X0_addCrossing p56.2 r1 p27.1 p41.1 p56.1).bind fun p59 =>
        (X5_passSign p59.2 59).bind fun p69 =>
        (zb p69.1).bind fun b72 =>
        some (p69.1, p69.2)))) else
  ((X5_fail σ 6).bind fun p13 =>
    (zb p13.1).bind fun b16 =>
    some (p13.1, p13.2))
def X1_crossPart  (σ : SS) (r1 : Nat)  : Option (Int32 × SS) := X1_crossPart_j0  σ r1 
def X1_lookLead_j0  (σ : SS) (r1 : Nat) (x2 : Int32) : Option (Int32 × SS) :=
  (X1_toldNameStands σ r1).bind fun p2 =>
  if p2.1 = 0 then (some (0, p2.2)) else
  ((X5_name p2.2 ).bind fun v15 =>
    (X0_leadNamed p2.2 r1 v15).bind fun v18 =>
    (X0_lookSet p2.2 r1 x2).bind fun v24 =>
    if ((v24 >>> (v18 &&& 31)) &&& 1) = 1 then ((X5_fail p2.2 5).bind fun p40 =>
      (zb p40.1).bind fun b43 =>
      some (p40.1, p40.2)) else
    ((X0_addToLook p2.2 r1 x2 v18).bind fun σ47 =>
      (X5_next σ47 ).bind fun σ54 =>
      some (1, σ54)))
def X1_lookLead  (σ : SS) (r1 : Nat) (x2 : Int32) : Option (Int32 × SS) := X1_lookLead_j0  σ r1 x2
def X1_lookPart_l64c  (σ : SS) (r1 : Nat) (x2 : Int32) (x3 : Int32) (x4 : Int32) : Option ((Int32 × Int32 × SS) ⊕ (Int32 × SS)) :=
  if 8 ≤ x4 then (some (Sum.inr (x3, σ))) else
  (if x3 = 0 then (some (Sum.inr (x3, σ))) else
    ((X5_signIs σ 59).bind fun v81 =>
      if v81 = 0 then ((X1_lookLead σ r1 x2).bind fun p90 =>
        (some (x4 + 1)).bind fun x4_94 =>
        some (Sum.inl (p90.1, x4_94, p90.2))) else
      (some (Sum.inr (x3, σ)))))
def X1_lookPart_l64b   (r1 : Nat) (x2 : Int32) : (Int32 × Int32 × SS) → Option ((Int32 × Int32 × SS) ⊕ (Int32 × SS)) := fun ss => X1_lookPart_l64c  ss.2.2 r1 x2 ss.1 ss.2.1
def X1_lookPart_j100  (σ : SS) (r1 : Nat) (x3 : Int32) : Option (Int32 × SS) :=
  if x3 = 0 then (some (0, σ)) else
  ((X5_passSign σ 59).bind fun p110 =>
    if p110.1 = 0 then (some (0, p110.2)) else
    (some (1, p110.2)))
def X1_lookPart_l64  (σ : SS) (r1 : Nat) (x2 : Int32) (x3 : Int32) (x4 : Int32) : Option (Int32 × SS) :=
  (iter (X1_lookPart_l64b   r1 x2) NF (x3, x4, σ)).bind fun t64 =>
  X1_lookPart_j100 t64.2 r1 t64.1
def X1_lookPart_j0  (σ : SS) (r1 : Nat)  : Option (Int32 × SS) :=
  (X0_lookCount σ r1).bind fun v1 =>
  if v1 < 3 then ((X5_next σ ).bind fun σ22 =>
    (X1_newNameStands σ22 r1).bind fun p27 =>
    if p27.1 = 0 then (some (0, p27.2)) else
    ((X5_name p27.2 ).bind fun v40 =>
      (X0_addLook p27.2 r1 v40).bind fun p43 =>
      (X5_next p43.2 ).bind fun σ51 =>
      (X1_lookLead σ51 r1 p43.1).bind fun p57 =>
      X1_lookPart_l64 p57.2 r1 p43.1 p57.1 0)) else
  ((X5_fail σ 6).bind fun p14 =>
    (zb p14.1).bind fun b17 =>
    some (p14.1, p14.2))
def X1_lookPart  (σ : SS) (r1 : Nat)  : Option (Int32 × SS) := X1_lookPart_j0  σ r1 
def X1_isGood_j96  (σ : SS) (r1 : Nat) (x3 : Int32) (s0 : Int32) : Option ((Int32 × Int32 × SS) ⊕ (Int32 × SS)) :=
  (some (x3 + 1)).bind fun x3_97 =>
  some (Sum.inl (s0, x3_97, σ))
def X1_isGood_l8c  (σ : SS) (r1 : Nat)  (x2 : Int32) (x3 : Int32) : Option ((Int32 × Int32 × SS) ⊕ (Int32 × SS)) :=
  if 900 < x3 then (some (Sum.inr (x2, σ))) else
  (if x2 = 0 then (some (Sum.inr (x2, σ))) else
    ((X5_atEnd σ ).bind fun v23 =>
      if v23 = 0 then ((X5_wordIs σ 0).bind fun v34 =>
        if v34 = 0 then ((X5_wordIs σ 7).bind fun v54 =>
          if v54 = 0 then ((X5_wordIs σ 11).bind fun v74 =>
            if v74 = 0 then ((X5_fail σ 2).bind fun p93 =>
              X1_isGood_j96 p93.2 r1 x3 p93.1) else
            ((X1_lookPart σ r1).bind fun p82 =>
              X1_isGood_j96 p82.2 r1 x3 p82.1)) else
          ((X1_crossPart σ r1).bind fun p62 =>
            X1_isGood_j96 p62.2 r1 x3 p62.1)) else
        ((X1_leadPart σ r1).bind fun p42 =>
          X1_isGood_j96 p42.2 r1 x3 p42.1)) else
      (some (Sum.inr (x2, σ)))))
def X1_isGood_l8b   (r1 : Nat)  : (Int32 × Int32 × SS) → Option ((Int32 × Int32 × SS) ⊕ (Int32 × SS)) := fun ss => X1_isGood_l8c  ss.2.2 r1  ss.1 ss.2.1
def X1_isGood_l8  (σ : SS) (r1 : Nat) (x2 : Int32) (x3 : Int32) : Option (Int32 × SS) :=
  (iter (X1_isGood_l8b   r1 ) NF (x2, x3, σ)).bind fun t8 =>
  (zb t8.1).bind fun b104 =>
    some (t8.1, t8.2)
def X1_isGood_j0  (σ : SS) (r1 : Nat)  : Option (Int32 × SS) :=
  (X0_clear σ r1).bind fun σ1 =>
  X1_isGood_l8 σ1 r1 1 0
def X1_isGood  (σ : SS) (r1 : Nat)  : Option (Int32 × SS) := X1_isGood_j0  σ r1 
def X2_keepCounts_j0  (σ : SS)   : Option (SS) :=
  (X4_takeOver σ 29 28).bind fun σ8 =>
  (some (wI σ8 2 0 4 1)).bind fun σ13 =>
  some σ13
def X2_keepCounts  (σ : SS)   : Option (SS) := X2_keepCounts_j0  σ  
def X2_hasCounts_j0  (σ : SS)   : Option (Int32) :=
  (zb (σ.1 2 0 4)).bind fun b4 =>
  some (σ.1 2 0 4)
def X2_hasCounts  (σ : SS)   : Option (Int32) := X2_hasCounts_j0  σ  
def X2_keptCount_j0  (σ : SS)  (x1 : Int32) : Option (Int32) :=
  (X4_at σ 29 0 x1).bind fun v6 =>
  some v6
def X2_keptCount  (σ : SS)  (x1 : Int32) : Option (Int32) := X2_keptCount_j0  σ  x1
def X9_lineCount_j0  (σ : SS) (t : Nat)  : Option (Int32) :=
  some (σ.1 8 t 2)
def X9_lineCount  (σ : SS) (t : Nat)  : Option (Int32) := X9_lineCount_j0  σ t 
def X9_wordAt_j0  (σ : SS) (t : Nat) (x1 : Int32) : Option (Int32) :=
  (X4_at σ (4 * t) 0 x1).bind fun v6 =>
  some v6
def X9_wordAt  (σ : SS) (t : Nat) (x1 : Int32) : Option (Int32) := X9_wordAt_j0  σ t x1
def X9_partnerOf_j0  (σ : SS) (t : Nat) (x1 : Int32) : Option (Int32) :=
  (X4_at σ (4 * t) 3 x1).bind fun v6 =>
  some v6
def X9_partnerOf  (σ : SS) (t : Nat) (x1 : Int32) : Option (Int32) := X9_partnerOf_j0  σ t x1
def X2_behindEnd_j34  (σ : SS) (r1 : Nat) (x2 : Int32) : Option (Int32 × SS) :=
  some ((x2 + 1), σ)
def X2_behindEnd_j0  (σ : SS) (r1 : Nat) (x2 : Int32) : Option (Int32 × SS) :=
  (X9_partnerOf σ r1 x2).bind fun v2 =>
  (X4_at σ 30 0 v2).bind fun v12 =>
  (some (v12 - 1)).bind fun x4_17 =>
  (X9_wordAt σ r1 v2).bind fun v21 =>
  if v21 = 21 then (if 0 < x4_17 then ((X4_put σ 30 0 v2 x4_17).bind fun σ46 =>
      some ((v2 + 1), σ46)) else
    (X2_behindEnd_j34 σ r1 x2)) else
  (X2_behindEnd_j34 σ r1 x2)
def X2_behindEnd  (σ : SS) (r1 : Nat) (x2 : Int32) : Option (Int32 × SS) := X2_behindEnd_j0  σ r1 x2
def X2_add_j0  (σ : SS)  (x1 : Int32) (x2 : Int32) : Option (SS) :=
  (X4_at σ 28 0 x1).bind fun v12 =>
  (X4_put σ 28 0 x1 (v12 + x2)).bind fun σ17 =>
  some σ17
def X2_add  (σ : SS)  (x1 : Int32) (x2 : Int32) : Option (SS) := X2_add_j0  σ  x1 x2
def X9_numberAt_j0  (σ : SS) (t : Nat) (x1 : Int32) : Option (Int32) :=
  (X4_at σ (4 * t) 1 x1).bind fun v6 =>
  some v6
def X9_numberAt  (σ : SS) (t : Nat) (x1 : Int32) : Option (Int32) := X9_numberAt_j0  σ t x1
def X3_around_j117  (σ : SS) (r0 : Nat) (x2 : Int32) (x4 : Int32) (x5 : Int32) (x6 : Int32) (s0 : Int32) (s1 : Int32) : Option ((Int32 × Int32) ⊕ (Int32)) :=
  (some (s0 ||| s1)).bind fun x3_118 =>
  (some (x6 + 1)).bind fun x6_119 =>
  some (Sum.inl (x3_118, x6_119))
def X3_around_j116  (σ : SS) (r0 : Nat) (x2 : Int32) (x4 : Int32) (x5 : Int32) (x6 : Int32) (s0 : Int32) : Option ((Int32 × Int32) ⊕ (Int32)) :=
  X3_around_j117 σ r0 x2 x4 x5 x6 s0 0
def X3_around_j96  (σ : SS) (r0 : Nat) (x2 : Int32) (x3 : Int32) (x4 : Int32) (x5 : Int32) (x6 : Int32) (x7 : Int32) (s0 : Int32) : Option ((Int32 × Int32) ⊕ (Int32)) :=
  if s0 = 0 then (X3_around_j116 σ r0 x2 x4 x5 x6 x3) else
  (if (x3 &&& x7) = 0 then (X3_around_j116 σ r0 x2 x4 x5 x6 x3) else
    (X3_around_j117 σ r0 x2 x4 x5 x6 x3 x7))
def X3_around_j95  (σ : SS) (r0 : Nat) (x2 : Int32) (x3 : Int32) (x4 : Int32) (x5 : Int32) (x6 : Int32) (x7 : Int32) : Option ((Int32 × Int32) ⊕ (Int32)) :=
  X3_around_j96 σ r0 x2 x3 x4 x5 x6 x7 0
def X3_around_l43c  (σ : SS) (r0 : Nat) (x2 : Int32) (x4 : Int32) (x5 : Int32) (x3 : Int32) (x6 : Int32) : Option ((Int32 × Int32) ⊕ (Int32)) :=
  (X0_crossingCount σ r0).bind fun v46 =>
  if v46 ≤ x6 then (some (Sum.inr x3)) else
  ((X0_crossingAt σ r0 0 x6).bind fun v57 =>
    (X0_crossingAt σ r0 1 x6).bind fun v66 =>
    (some ((1 <<< (v57 &&& 31)) ||| (1 <<< (v66 &&& 31)))).bind fun x7_71 =>
    (X0_stateAt σ r0 x6).bind fun v76 =>
    if v76 = 0 then (X3_around_j95 σ r0 x2 x3 x4 x5 x6 x7_71) else
    (if (x7_71 &&& (x2 ^^^ (-1))) = 0 then (X3_around_j96 σ r0 x2 x3 x4 x5 x6 x7_71 1) else
      (X3_around_j95 σ r0 x2 x3 x4 x5 x6 x7_71)))
def X3_around_l43b  (σ : SS) (r0 : Nat) (x2 : Int32) (x4 : Int32) (x5 : Int32) : (Int32 × Int32) → Option ((Int32 × Int32) ⊕ (Int32)) := fun ss => X3_around_l43c  σ r0 x2 x4 x5 ss.1 ss.2
def X3_around_l43  (σ : SS) (r0 : Nat) (x2 : Int32) (x3 : Int32) (x4 : Int32) (x5 : Int32) (x6 : Int32) : Option ((Int32 × Int32 × Int32) ⊕ (Int32)) :=
  (iter (X3_around_l43b  σ r0 x2 x4 x5) NF (x3, x6)).bind fun t43 =>
  (some (x5 + 1)).bind fun x5_125 =>
    some (Sum.inl (t43, x4, x5_125))
def X3_around_l24c  (σ : SS) (r0 : Nat) (x2 : Int32) (x3 : Int32) (x4 : Int32) (x5 : Int32) : Option ((Int32 × Int32 × Int32) ⊕ (Int32)) :=
  if 8 < x5 then (some (Sum.inr x3)) else
  (if x3 = x4 then (some (Sum.inr x3)) else
    (X3_around_l43 σ r0 x2 x3 x3 x5 0))
def X3_around_l24b  (σ : SS) (r0 : Nat) (x2 : Int32) : (Int32 × Int32 × Int32) → Option ((Int32 × Int32 × Int32) ⊕ (Int32)) := fun ss => X3_around_l24c  σ r0 x2 ss.1 ss.2.1 ss.2.2
def X3_around_l24  (σ : SS) (r0 : Nat) (x2 : Int32) (x3 : Int32) (x4 : Int32) (x5 : Int32) : Option (Int32) :=
  (iter (X3_around_l24b  σ r0 x2) NF (x3, x4, x5)).bind fun t24 =>
  some t24
def X3_around_j17  (σ : SS) (r0 : Nat) (x2 : Int32) (s0 : Int32) : Option (Int32) :=
  X3_around_l24 σ r0 x2 s0 0 0
def X3_around_j0  (σ : SS) (r0 : Nat) (x1 : Int32) (x2 : Int32) : Option (Int32) :=
  (X0_has σ r0 x1).bind fun v2 =>
  X3_around_j17 σ r0 x2 (if v2 = 0 then 0 else ((1 <<< (x1 &&& 31)) &&& x2))
def X3_around  (σ : SS) (r0 : Nat) (x1 : Int32) (x2 : Int32) : Option (Int32) := X3_around_j0  σ r0 x1 x2
def X3_largest_l4c  (σ : SS) (r0 : Nat) (x1 : Int32) (x2 : Int32) (x3 : Int32) : Option ((Int32 × Int32) ⊕ (Int32)) :=
  (X0_leadCount σ r0).bind fun v6 =>
  if v6 ≤ x3 then (some (Sum.inr x2)) else
  ((X3_around σ r0 x3 x1).bind fun v16 =>
    (J6_bitCount_0f7a4 σ v16).bind fun v19 =>
    (some (imax x2 v19)).bind fun x2_25 =>
    (some (x3 + 1)).bind fun x3_26 =>
    some (Sum.inl (x2_25, x3_26)))
def X3_largest_l4b  (σ : SS) (r0 : Nat) (x1 : Int32) : (Int32 × Int32) → Option ((Int32 × Int32) ⊕ (Int32)) := fun ss => X3_largest_l4c  σ r0 x1 ss.1 ss.2
def X3_largest_l4  (σ : SS) (r0 : Nat) (x1 : Int32) (x2 : Int32) (x3 : Int32) : Option (Int32) :=
  (iter (X3_largest_l4b  σ r0 x1) NF (x2, x3)).bind fun t4 =>
  some t4
def X3_largest_j0  (σ : SS) (r0 : Nat) (x1 : Int32) : Option (Int32) :=
  X3_largest_l4 σ r0 x1 0 0
def X3_largest  (σ : SS) (r0 : Nat) (x1 : Int32) : Option (Int32) := X3_largest_j0  σ r0 x1
def X9_comparesAt_j0  (σ : SS) (t : Nat) (x1 : Int32) : Option (Int32) :=
  (X4_at σ (4 * t) 2 x1).bind fun v6 =>
  some v6
def X9_comparesAt  (σ : SS) (t : Nat) (x1 : Int32) : Option (Int32) := X9_comparesAt_j0  σ t x1
def X2_holds_j51  (σ : SS) (r0 : Nat) (x1 : Int32) (x3 : Int32) (s0 : Int32) : Option (Int32) :=
  (X9_comparesAt σ r0 x1).bind fun v58 =>
  if v58 = 60 then (if x3 ≤ s0 then (some 0) else
    (some 1)) else
  (if v58 = 62 then (if s0 ≤ x3 then (some 0) else
      (some 1)) else
    (if s0 = x3 then (some 1) else
      (some 0)))
def X2_holds_j0  (σ : SS) (r0 : Nat) (x1 : Int32) : Option (Int32) :=
  (X9_wordAt σ r0 x1).bind fun v5 =>
  (X9_numberAt σ r0 x1).bind fun v14 =>
  if v5 = 20 then ((X0_isFree σ r0 v14).bind fun v26 =>
    (zb v26).bind fun b29 =>
    some v26) else
  (if v5 = 7 then ((X0_crossingCount σ r0).bind fun v37 =>
      X2_holds_j51 σ r0 x1 v14 v37) else
    ((X0_insideSet σ r0).bind fun v45 =>
      (X3_largest σ r0 v45).bind fun v48 =>
      X2_holds_j51 σ r0 x1 v14 v48))
def X2_holds  (σ : SS) (r0 : Nat) (x1 : Int32) : Option (Int32) := X2_holds_j0  σ r0 x1
def X2_openOften_l2c  (σ : SS) (r1 : Nat) (x2 : Int32) (x3 : Int32) : Option ((Int32 × SS) ⊕ (SS)) :=
  if x2 ≤ x3 then (some (Sum.inr σ)) else
  ((X0_openOnce σ r1).bind fun p10 =>
    (X2_add p10.2 2 p10.1).bind fun σ13 =>
    (some (x3 + 1)).bind fun x3_16 =>
    some (Sum.inl (x3_16, σ13)))
def X2_openOften_l2b   (r1 : Nat) (x2 : Int32) : (Int32 × SS) → Option ((Int32 × SS) ⊕ (SS)) := fun ss => X2_openOften_l2c  ss.2 r1 x2 ss.1
def X2_openOften_l2  (σ : SS) (r1 : Nat) (x2 : Int32) (x3 : Int32) : Option (SS) :=
  (iter (X2_openOften_l2b   r1 x2) NF (x3, σ)).bind fun t2 =>
  (X2_add t2 1 x2).bind fun σ25 =>
    some σ25
def X2_openOften_j0  (σ : SS) (r1 : Nat) (x2 : Int32) : Option (SS) :=
  X2_openOften_l2 σ r1 x2 0
def X2_openOften  (σ : SS) (r1 : Nat) (x2 : Int32) : Option (SS) := X2_openOften_j0  σ r1 x2
def X7_layRow_j101  (σ : SS) (r1 : Nat) (x2 : Int32) (x3 : Int32) (x4 : Int32) (x5 : Int32) : Option ((Int32 × SS) ⊕ (SS)) :=
  (some (x5 + 1)).bind fun x5_101 =>
  some (Sum.inl (x5_101, σ))
def X7_layRow_l8c  (σ : SS) (r1 : Nat) (x2 : Int32) (x3 : Int32) (x4 : Int32) (x5 : Int32) : Option ((Int32 × SS) ⊕ (SS)) :=
  (X0_crossingCount σ r1).bind fun v11 =>
  if v11 ≤ x5 then (some (Sum.inr σ)) else
  ((X0_otherAt σ r1 x5 x2).bind fun v21 =>
    if v21 = (-1) then (X7_layRow_j101 σ r1 x2 x3 x4 x5) else
    (if ((x3 >>> (v21 &&& 31)) &&& 1) = 0 then ((X0_stateAfter σ r1 x5 x4).bind fun v46 =>
        if v46 ≤ (-1) then (X7_layRow_j101 σ r1 x2 x3 x4 x5) else
        ((X0_secondsToUndo σ r1 v46 v21).bind fun v71 =>
          (X4_put σ 22 0 (σ.1 6 0 1) v71).bind fun σ74 =>
          (X4_put σ74 22 1 (σ74.1 6 0 1) v46).bind fun σ88 =>
          (some (wI σ88 6 0 1 ((σ88.1 6 0 1) + 1))).bind fun σ98 =>
          X7_layRow_j101 σ98 r1 x2 x3 x4 x5)) else
      (X7_layRow_j101 σ r1 x2 x3 x4 x5)))
def X7_layRow_l8b   (r1 : Nat) (x2 : Int32) (x3 : Int32) (x4 : Int32) : (Int32 × SS) → Option ((Int32 × SS) ⊕ (SS)) := fun ss => X7_layRow_l8c  ss.2 r1 x2 x3 x4 ss.1
def X7_layRow_l8  (σ : SS) (r1 : Nat) (x2 : Int32) (x3 : Int32) (x4 : Int32) (x5 : Int32) : Option (SS) :=
  (iter (X7_layRow_l8b   r1 x2 x3 x4) NF (x5, σ)).bind fun t8 =>
  some t8
def X7_layRow_j0  (σ : SS) (r1 : Nat) (x2 : Int32) (x3 : Int32) (x4 : Int32) : Option (SS) :=
  (some (wI σ 6 0 1 0)).bind fun σ2 =>
  X7_layRow_l8 σ2 r1 x2 x3 x4 0
def X7_layRow  (σ : SS) (r1 : Nat) (x2 : Int32) (x3 : Int32) (x4 : Int32) : Option (SS) := X7_layRow_j0  σ r1 x2 x3 x4
def X7_firstTied_l2c  (σ : SS)   (x2 : Int32) : Option ((Int32) ⊕ ((Int32) ⊕ (Unit))) :=
  if (σ.1 6 0 1) ≤ x2 then (some (Sum.inr (Sum.inr ()))) else
  ((X4_at σ 22 1 x2).bind fun v16 =>
    if v16 = 0 then ((some (x2 + 1)).bind fun x2_24 =>
      some (Sum.inl x2_24)) else
    (some (Sum.inr (Sum.inl x2))))
def X7_firstTied_l2b  (σ : SS)   : (Int32) → Option ((Int32) ⊕ ((Int32) ⊕ (Unit))) := fun ss => X7_firstTied_l2c  σ   ss
def X7_firstTied_l2  (σ : SS)  (x2 : Int32) : Option (Int32) :=
  (iter (X7_firstTied_l2b  σ  ) NF x2).bind fun t2 => match t2 with
  | Sum.inl e22 => some e22
  | Sum.inr u22 => (some (σ.1 6 0 1))
def X7_firstTied_j0  (σ : SS)  (x1 : Int32) : Option (Int32) :=
  X7_firstTied_l2 σ x1
def X7_firstTied  (σ : SS)  (x1 : Int32) : Option (Int32) := X7_firstTied_j0  σ  x1
def X7_fewestSeconds_j91  (σ : SS)  (x1 : Int32) (x2 : Int32) (x3 : Int32) (x4 : Int32) (x5 : Int32) (x6 : Int32) (x7 : Int32) : Option ((Int32 × Int32 × Int32 × SS) ⊕ (Int32 × SS)) :=
  (X4_at σ 22 0 (x7 - 1)).bind fun v102 =>
  (some (x5 + v102)).bind fun x5_106 =>
  (some (x6 + 1)).bind fun x6_108 =>
  some (Sum.inl (x1, x5_106, x6_108, σ))
def X7_fewestSeconds_j61  (σ : SS)  (x1 : Int32) (x2 : Int32) (x3 : Int32) (x4 : Int32) (x5 : Int32) (x6 : Int32) (x7 : Int32) (s0 : Int32) (s1 : Int32) : Option ((Int32 × Int32 × Int32 × SS) ⊕ (Int32 × SS)) :=
  (some (s0 + s1)).bind fun x8_62 =>
  if x4 < x7 then (X7_fewestSeconds_j91 σ x1 x2 x3 x4 x5 x6 x7) else
  (if x1 ≤ x8_62 then (X7_fewestSeconds_j91 σ x1 x2 x3 x4 x5 x6 x7) else
    ((some (wI σ 6 0 2 x3)).bind fun σ82 =>
      (some (wI σ82 6 0 3 x6)).bind fun σ88 =>
      X7_fewestSeconds_j91 σ88 x8_62 x2 x3 x4 x5 x6 x7))
def X7_fewestSeconds_l28c  (σ : SS)  (x2 : Int32) (x3 : Int32) (x4 : Int32) (x1 : Int32) (x5 : Int32) (x6 : Int32) : Option ((Int32 × Int32 × Int32 × SS) ⊕ (Int32 × SS)) :=
  if (σ.1 6 0 1) < (x3 + x6) then (some (Sum.inr (x1, σ))) else
  ((some ((σ.1 6 0 1) - x6)).bind fun x7_46 =>
    X7_fewestSeconds_j61 σ x1 x2 x3 x4 x5 x6 x7_46 x5 (if x7_46 ≤ x3 then 0 else 2))
def X7_fewestSeconds_l28b    (x2 : Int32) (x3 : Int32) (x4 : Int32) : (Int32 × Int32 × Int32 × SS) → Option ((Int32 × Int32 × Int32 × SS) ⊕ (Int32 × SS)) := fun ss => X7_fewestSeconds_l28c  ss.2.2.2  x2 x3 x4 ss.1 ss.2.1 ss.2.2.1
def X7_fewestSeconds_l28  (σ : SS)  (x1 : Int32) (x2 : Int32) (x3 : Int32) (x4 : Int32) (x5 : Int32) (x6 : Int32) : Option ((Int32 × Int32 × Int32 × SS) ⊕ (Int32 × SS)) :=
  (iter (X7_fewestSeconds_l28b    x2 x3 x4) NF (x1, x5, x6, σ)).bind fun t28 =>
  (X4_at t28.2 22 0 x3).bind fun v121 =>
    (some (x2 + v121)).bind fun x2_125 =>
    (some (x3 + 1)).bind fun x3_126 =>
    some (Sum.inl (t28.1, x2_125, x3_126, t28.2))
def X7_fewestSeconds_l7c  (σ : SS)   (x1 : Int32) (x2 : Int32) (x3 : Int32) : Option ((Int32 × Int32 × Int32 × SS) ⊕ (Int32 × SS)) :=
  if (σ.1 6 0 1) < x3 then (some (Sum.inr (x1, σ))) else
  ((X7_firstTied σ x3).bind fun v17 =>
    X7_fewestSeconds_l28 σ x1 x2 x3 v17 x2 0)
def X7_fewestSeconds_l7b     : (Int32 × Int32 × Int32 × SS) → Option ((Int32 × Int32 × Int32 × SS) ⊕ (Int32 × SS)) := fun ss => X7_fewestSeconds_l7c  ss.2.2.2   ss.1 ss.2.1 ss.2.2.1
def X7_fewestSeconds_l7  (σ : SS)  (x1 : Int32) (x2 : Int32) (x3 : Int32) : Option (Int32 × SS) :=
  (iter (X7_fewestSeconds_l7b    ) NF (x1, x2, x3, σ)).bind fun t7 =>
  some (t7.1, t7.2)
def X7_fewestSeconds_j0  (σ : SS)   : Option (Int32 × SS) :=
  X7_fewestSeconds_l7 σ 1073741824 0 0
def X7_fewestSeconds  (σ : SS)   : Option (Int32 × SS) := X7_fewestSeconds_j0  σ  
def X7_find_j110  (σ : SS) (r1 : Nat) (x2 : Int32) (x3 : Int32) (x4 : Int32) : Option ((Int32 × Int32 × SS) ⊕ (Int32 × SS)) :=
  (some (x4 + 1)).bind fun x4_110 =>
  some (Sum.inl (x3, x4_110, σ))
def X7_find_j107  (σ : SS) (r1 : Nat) (x2 : Int32) (x3 : Int32) (x4 : Int32) (s1 : Int32) (s2 : Int32) (s3 : Int32) : Option ((Int32 × Int32 × SS) ⊕ (Int32 × SS)) :=
  (X4_put σ 23 s1 s2 s3).bind fun σ107 =>
  X7_find_j110 σ107 r1 x2 x3 x4
def X7_find_l6c  (σ : SS) (r1 : Nat) (x2 : Int32) (x3 : Int32) (x4 : Int32) : Option ((Int32 × Int32 × SS) ⊕ (Int32 × SS)) :=
  if 3 < x4 then (some (Sum.inr (x3, σ))) else
  ((X7_layRow σ r1 x2 0 x4).bind fun σ18 =>
    (X0_secondsToLoosen σ18 r1 x4).bind fun v24 =>
    (X7_fewestSeconds σ18 ).bind fun p28 =>
    (some (v24 + p28.1)).bind fun x5_32 =>
    if x3 ≤ x5_32 then (X7_find_j110 p28.2 r1 x2 x3 x4) else
    ((X4_put p28.2 23 0 0 x4).bind fun σ51 =>
      (X4_put σ51 23 0 1 (σ51.1 6 0 2)).bind fun σ64 =>
      (X4_put σ64 23 0 2 (σ64.1 6 0 3)).bind fun σ77 =>
      X7_find_j107 σ77 r1 x2 x5_32 x4 0 3 (if (σ77.1 6 0 1) ≤ ((σ77.1 6 0 2) + (σ77.1 6 0 3)) then 0 else 1)))
def X7_find_l6b   (r1 : Nat) (x2 : Int32) : (Int32 × Int32 × SS) → Option ((Int32 × Int32 × SS) ⊕ (Int32 × SS)) := fun ss => X7_find_l6c  ss.2.2 r1 x2 ss.1 ss.2.1
def X7_find_l6  (σ : SS) (r1 : Nat) (x2 : Int32) (x3 : Int32) (x4 : Int32) : Option (Int32 × SS) :=
  (iter (X7_find_l6b   r1 x2) NF (x3, x4, σ)).bind fun t6 =>
  some (t6.1, t6.2)
def X7_find_j0  (σ : SS) (r1 : Nat) (x2 : Int32) : Option (Int32 × SS) :=
  X7_find_l6 σ r1 x2 1073741824 0
def X7_find  (σ : SS) (r1 : Nat) (x2 : Int32) : Option (Int32 × SS) := X7_find_j0  σ r1 x2
def X7_wayAt_j0  (σ : SS)  (x1 : Int32) : Option (Int32) :=
  (X4_at σ 23 0 x1).bind fun v6 =>
  some v6
def X7_wayAt  (σ : SS)  (x1 : Int32) : Option (Int32) := X7_wayAt_j0  σ  x1
def X2_takeOut_l18c  (σ : SS) (r1 : Nat) (x2 : Int32) (x3 : Int32) : Option ((Int32 × SS) ⊕ (SS)) :=
  (X7_wayAt σ 0).bind fun v24 =>
  if v24 ≤ x3 then (some (Sum.inr σ)) else
  ((X0_loosenOnce σ r1).bind fun p31 =>
    (some (x3 + 1)).bind fun x3_35 =>
    some (Sum.inl (x3_35, p31.2)))
def X2_takeOut_l18b   (r1 : Nat) (x2 : Int32) : (Int32 × SS) → Option ((Int32 × SS) ⊕ (SS)) := fun ss => X2_takeOut_l18c  ss.2 r1 x2 ss.1
def X2_takeOut_l43c  (σ : SS) (r1 : Nat) (x2 : Int32) (x3 : Int32) : Option ((Int32 × SS) ⊕ (SS)) :=
  (X7_wayAt σ 1).bind fun v49 =>
  if v49 ≤ x3 then (some (Sum.inr σ)) else
  ((X0_undoNearest σ r1 x2 0).bind fun p58 =>
    (some (x3 + 1)).bind fun x3_62 =>
    some (Sum.inl (x3_62, p58.2)))
def X2_takeOut_l43b   (r1 : Nat) (x2 : Int32) : (Int32 × SS) → Option ((Int32 × SS) ⊕ (SS)) := fun ss => X2_takeOut_l43c  ss.2 r1 x2 ss.1
def X2_takeOut_l70c  (σ : SS) (r1 : Nat) (x2 : Int32) (x3 : Int32) : Option ((Int32 × SS) ⊕ (SS)) :=
  (X7_wayAt σ 2).bind fun v76 =>
  if v76 ≤ x3 then (some (Sum.inr σ)) else
  ((X0_undoNearest σ r1 x2 1).bind fun p85 =>
    (some (x3 + 1)).bind fun x3_89 =>
    some (Sum.inl (x3_89, p85.2)))
def X2_takeOut_l70b   (r1 : Nat) (x2 : Int32) : (Int32 × SS) → Option ((Int32 × SS) ⊕ (SS)) := fun ss => X2_takeOut_l70c  ss.2 r1 x2 ss.1
def X2_takeOut_l70  (σ : SS) (r1 : Nat) (x2 : Int32) (x3 : Int32) : Option (SS) :=
  (iter (X2_takeOut_l70b   r1 x2) NF (x3, σ)).bind fun t70 =>
  (X7_wayAt t70 3).bind fun v100 =>
    if v100 = 1 then ((X0_pullAt t70 r1 x2 1).bind fun σ110 =>
      some σ110) else
    (some t70)
def X2_takeOut_l43  (σ : SS) (r1 : Nat) (x2 : Int32) (x3 : Int32) : Option (SS) :=
  (iter (X2_takeOut_l43b   r1 x2) NF (x3, σ)).bind fun t43 =>
  X2_takeOut_l70 t43 r1 x2 0
def X2_takeOut_l18  (σ : SS) (r1 : Nat) (x2 : Int32) (x3 : Int32) : Option (SS) :=
  (iter (X2_takeOut_l18b   r1 x2) NF (x3, σ)).bind fun t18 =>
  X2_takeOut_l43 t18 r1 x2 0
def X2_takeOut_j0  (σ : SS) (r1 : Nat) (x2 : Int32) : Option (SS) :=
  (X2_add σ 3 1).bind fun σ3 =>
  (X7_find σ3 r1 x2).bind fun p12 =>
  X2_takeOut_l18 p12.2 r1 x2 0
def X2_takeOut  (σ : SS) (r1 : Nat) (x2 : Int32) : Option (SS) := X2_takeOut_j0  σ r1 x2
def X3_isLone_j0  (σ : SS) (r0 : Nat) (x1 : Int32) : Option (Int32) :=
  (X0_insideSet σ r0).bind fun v3 =>
  (X3_around σ r0 x1 v3).bind fun v6 =>
  (J6_bitCount_0f7a4 σ v6).bind fun v9 =>
  if v9 = 1 then (some 1) else
  (some 0)
def X3_isLone  (σ : SS) (r0 : Nat) (x1 : Int32) : Option (Int32) := X3_isLone_j0  σ r0 x1
def X2_behindStep_j40  (σ : SS) (r1 : Nat) (x2 : Int32) : Option (Int32 × SS) :=
  (X2_holds σ r1 x2).bind fun v42 =>
  if v42 = 0 then ((X9_partnerOf σ r1 x2).bind fun v56 =>
    some ((v56 + 1), σ)) else
  (some ((x2 + 1), σ))
def X2_behindStep_j212  (σ : SS) (r1 : Nat) (x2 : Int32) : Option (Int32 × SS) :=
  some ((x2 + 1), σ)
def X2_behindStep_j140  (σ : SS) (r1 : Nat) (x2 : Int32) : Option (Int32 × SS) :=
  (X2_add σ 0 1).bind fun σ143 =>
  X2_behindStep_j212 σ143 r1 x2
def X2_behindStep_j149  (σ : SS) (r1 : Nat) (x2 : Int32) (x4 : Int32) (x5 : Int32) : Option (Int32 × SS) :=
  if x4 = 13 then ((X2_takeOut σ r1 x5).bind fun σ160 =>
    X2_behindStep_j212 σ160 r1 x2) else
  (if x4 = 15 then ((X3_isLone σ r1 x5).bind fun v179 =>
      (X0_pullAt σ r1 x5 v179).bind fun σ182 =>
      X2_behindStep_j212 σ182 r1 x2) else
    (if x4 = 17 then ((X0_cutOff σ r1 x5).bind fun p198 =>
        X2_behindStep_j212 p198.2 r1 x2) else
      ((X0_putClip σ r1 x5).bind fun p208 =>
        X2_behindStep_j212 p208.2 r1 x2)))
def X2_behindStep_j0  (σ : SS) (r1 : Nat) (x2 : Int32) : Option (Int32 × SS) :=
  (X9_wordAt σ r1 x2).bind fun v7 =>
  (X9_numberAt σ r1 x2).bind fun v14 =>
  if v7 = 19 then (X2_behindStep_j40 σ r1 x2) else
  (if v7 = 7 then (X2_behindStep_j40 σ r1 x2) else
    (if v7 = 20 then (X2_behindStep_j40 σ r1 x2) else
      (if v7 = 21 then ((X4_put σ 30 0 x2 v14).bind fun σ77 =>
          X2_behindStep_j212 σ77 r1 x2) else
        (if v7 = 12 then ((X2_openOften σ r1 v14).bind fun σ94 =>
            X2_behindStep_j212 σ94 r1 x2) else
          (if v7 = 14 then ((X0_loosenOnce σ r1).bind fun p108 =>
              X2_behindStep_j212 p108.2 r1 x2) else
            ((X0_isIn σ r1 v14).bind fun v118 =>
              if v118 = 0 then (X2_behindStep_j140 σ r1 x2) else
              (if v7 = 6 then ((X0_canGetClip σ r1 v14).bind fun v134 =>
                  if v134 = 0 then (X2_behindStep_j140 σ r1 x2) else
                  (X2_behindStep_j149 σ r1 x2 v7 v14)) else
                (X2_behindStep_j149 σ r1 x2 v7 v14))))))))
def X2_behindStep  (σ : SS) (r1 : Nat) (x2 : Int32) : Option (Int32 × SS) := X2_behindStep_j0  σ r1 x2
def X2_run_l2c  (σ : SS) (r1 : Nat) (x2 : Int32) (x3 : Int32) : Option ((Int32 × SS) ⊕ (SS)) :=
  if 4 < x3 then (some (Sum.inr σ)) else
  ((X4_put σ 28 0 x3 0).bind fun σ14 =>
    (some (x3 + 1)).bind fun x3_17 =>
    some (Sum.inl (x3_17, σ14)))
def X2_run_l2b   (r1 : Nat) (x2 : Int32) : (Int32 × SS) → Option ((Int32 × SS) ⊕ (SS)) := fun ss => X2_run_l2c  ss.2 r1 x2 ss.1
def X2_run_j124  (σ : SS) (r1 : Nat) (x4 : Int32) (x5 : Int32) (x6 : Int32) : Option ((Int32 × Int32 × Int32 × SS) ⊕ ((Int32 × SS) ⊕ ((Int32 × SS) ⊕ (Int32 × SS)))) :=
  (some (x6 + 1)).bind fun x6_124 =>
  some (Sum.inl (x4, x5, x6_124, σ))
def X2_run_l42c  (σ : SS) (r1 : Nat)  (x4 : Int32) (x5 : Int32) (x6 : Int32) : Option ((Int32 × Int32 × Int32 × SS) ⊕ ((Int32 × SS) ⊕ ((Int32 × SS) ⊕ (Int32 × SS)))) :=
  if 1000000 ≤ x6 then (some (Sum.inr (Sum.inr (Sum.inr (x4, σ))))) else
  ((X9_lineCount σ r1).bind fun v52 =>
    if v52 ≤ x5 then (some (Sum.inr (Sum.inr (Sum.inr (x4, σ))))) else
    ((X9_wordAt σ r1 x5).bind fun v61 =>
      if v61 = 22 then ((X2_behindEnd σ r1 x5).bind fun p77 =>
        X2_run_j124 p77.2 r1 x4 p77.1 x6) else
      (if x4 = 300 then (some (Sum.inr (Sum.inl (x4, σ)))) else
        ((some (x4 + 1)).bind fun x4_102 =>
          if v61 = 23 then (some (Sum.inr (Sum.inr (Sum.inl (x4_102, σ))))) else
          ((X2_behindStep σ r1 x5).bind fun p119 =>
            X2_run_j124 p119.2 r1 x4_102 p119.1 x6)))))
def X2_run_l42b   (r1 : Nat)  : (Int32 × Int32 × Int32 × SS) → Option ((Int32 × Int32 × Int32 × SS) ⊕ ((Int32 × SS) ⊕ ((Int32 × SS) ⊕ (Int32 × SS)))) := fun ss => X2_run_l42c  ss.2.2.2 r1  ss.1 ss.2.1 ss.2.2.1
def X2_run_l42  (σ : SS) (r1 : Nat) (x4 : Int32) (x5 : Int32) (x6 : Int32) : Option (Int32 × SS) :=
  (iter (X2_run_l42b   r1 ) NF (x4, x5, x6, σ)).bind fun t42 => match t42 with
  | Sum.inl e93 => (X2_add e93.2 4 1).bind fun σ96 =>
      some (e93.1, σ96)
  | Sum.inr u93 => match u93 with
  | Sum.inl e112 => some (e112.1, e112.2)
  | Sum.inr u112 => (some (u112.1, u112.2))
def X2_run_l2  (σ : SS) (r1 : Nat) (x2 : Int32) (x3 : Int32) : Option (Int32 × SS) :=
  (iter (X2_run_l2b   r1 x2) NF (x3, σ)).bind fun t2 =>
  (X0_drawFrom t2 r1 x2).bind fun σ25 =>
    X2_run_l42 σ25 r1 0 0 0
def X2_run_j0  (σ : SS) (r1 : Nat) (x2 : Int32) : Option (Int32 × SS) :=
  X2_run_l2 σ r1 x2 0
def X2_run  (σ : SS) (r1 : Nat) (x2 : Int32) : Option (Int32 × SS) := X2_run_j0  σ r1 x2
def X3_lone_j28  (σ : SS) (r0 : Nat) (x2 : Int32) (s0 : Int32) (s1 : Int32) : Option ((Int32 × Int32) ⊕ (Int32)) :=
  (some (s0 ||| s1)).bind fun x1_29 =>
  (some (x2 + 1)).bind fun x2_30 =>
  some (Sum.inl (x1_29, x2_30))
def X3_lone_l4c  (σ : SS) (r0 : Nat)  (x1 : Int32) (x2 : Int32) : Option ((Int32 × Int32) ⊕ (Int32)) :=
  (X0_leadCount σ r0).bind fun v6 =>
  if v6 ≤ x2 then (some (Sum.inr x1)) else
  ((X3_isLone σ r0 x2).bind fun v15 =>
    X3_lone_j28 σ r0 x2 x1 (if v15 = 0 then 0 else (1 <<< (x2 &&& 31))))
def X3_lone_l4b  (σ : SS) (r0 : Nat)  : (Int32 × Int32) → Option ((Int32 × Int32) ⊕ (Int32)) := fun ss => X3_lone_l4c  σ r0  ss.1 ss.2
def X3_lone_l4  (σ : SS) (r0 : Nat) (x1 : Int32) (x2 : Int32) : Option (Int32) :=
  (iter (X3_lone_l4b  σ r0 ) NF (x1, x2)).bind fun t4 =>
  some t4
def X3_lone_j0  (σ : SS) (r0 : Nat)  : Option (Int32) :=
  X3_lone_l4 σ r0 0 0
def X3_lone  (σ : SS) (r0 : Nat)  : Option (Int32) := X3_lone_j0  σ r0 
def X3_howMany_j47  (σ : SS) (r0 : Nat) (x1 : Int32) (x3 : Int32) (x4 : Int32) (s0 : Int32) (s1 : Int32) : Option ((Int32 × Int32 × Int32) ⊕ (Int32)) :=
  (some (s0 + s1)).bind fun x2_48 =>
  (some (x1 ||| x4)).bind fun x1_53 =>
  (some (x3 + 1)).bind fun x3_54 =>
  some (Sum.inl (x1_53, x2_48, x3_54))
def X3_howMany_j46  (σ : SS) (r0 : Nat) (x1 : Int32) (x3 : Int32) (x4 : Int32) (s0 : Int32) : Option ((Int32 × Int32 × Int32) ⊕ (Int32)) :=
  X3_howMany_j47 σ r0 x1 x3 x4 s0 0
def X3_howMany_l6c  (σ : SS) (r0 : Nat)  (x1 : Int32) (x2 : Int32) (x3 : Int32) : Option ((Int32 × Int32 × Int32) ⊕ (Int32)) :=
  (X0_leadCount σ r0).bind fun v8 =>
  if v8 ≤ x3 then (some (Sum.inr x2)) else
  ((X0_insideSet σ r0).bind fun v17 =>
    (X3_around σ r0 x3 v17).bind fun v20 =>
    if (v20 &&& x1) = 0 then ((J6_bitCount_0f7a4 σ v20).bind fun v35 =>
      if v35 ≤ 1 then (X3_howMany_j46 σ r0 x1 x3 v20 x2) else
      (X3_howMany_j47 σ r0 x1 x3 v20 x2 1)) else
    (X3_howMany_j46 σ r0 x1 x3 v20 x2))
def X3_howMany_l6b  (σ : SS) (r0 : Nat)  : (Int32 × Int32 × Int32) → Option ((Int32 × Int32 × Int32) ⊕ (Int32)) := fun ss => X3_howMany_l6c  σ r0  ss.1 ss.2.1 ss.2.2
def X3_howMany_l6  (σ : SS) (r0 : Nat) (x1 : Int32) (x2 : Int32) (x3 : Int32) : Option (Int32) :=
  (iter (X3_howMany_l6b  σ r0 ) NF (x1, x2, x3)).bind fun t6 =>
  some t6
def X3_howMany_j0  (σ : SS) (r0 : Nat)  : Option (Int32) :=
  X3_howMany_l6 σ r0 0 0 0
def X3_howMany  (σ : SS) (r0 : Nat)  : Option (Int32) := X3_howMany_j0  σ r0 
def X3_bestCut_j50  (σ : SS) (r0 : Nat) (x1 : Int32) (x2 : Int32) (x3 : Int32) : Option ((Int32 × Int32 × Int32) ⊕ (Int32)) :=
  (some (x3 + 1)).bind fun x3_50 =>
  some (Sum.inl (x1, x2, x3_50))
def X3_bestCut_l7c  (σ : SS) (r0 : Nat)  (x1 : Int32) (x2 : Int32) (x3 : Int32) : Option ((Int32 × Int32 × Int32) ⊕ (Int32)) :=
  (X0_leadCount σ r0).bind fun v9 =>
  if v9 ≤ x3 then (some (Sum.inr x1)) else
  ((X0_isIn σ r0 x3).bind fun v17 =>
    if v17 = 0 then (X3_bestCut_j50 σ r0 x1 x2 x3) else
    ((X0_insideSet σ r0).bind fun v25 =>
      (X3_largest σ r0 (v25 &&& ((1 <<< (x3 &&& 31)) ^^^ (-1)))).bind fun v34 =>
      X3_bestCut_j50 σ r0 (if x2 ≤ v34 then x1 else x3) (if x2 ≤ v34 then x2 else v34) x3))
def X3_bestCut_l7b  (σ : SS) (r0 : Nat)  : (Int32 × Int32 × Int32) → Option ((Int32 × Int32 × Int32) ⊕ (Int32)) := fun ss => X3_bestCut_l7c  σ r0  ss.1 ss.2.1 ss.2.2
def X3_bestCut_l7  (σ : SS) (r0 : Nat) (x1 : Int32) (x2 : Int32) (x3 : Int32) : Option (Int32) :=
  (iter (X3_bestCut_l7b  σ r0 ) NF (x1, x2, x3)).bind fun t7 =>
  some t7
def X3_bestCut_j0  (σ : SS) (r0 : Nat)  : Option (Int32) :=
  X3_bestCut_l7 σ r0 (-1) 9 0
def X3_bestCut  (σ : SS) (r0 : Nat)  : Option (Int32) := X3_bestCut_j0  σ r0 
def X5_fed_j0  (σ : SS)   : Option (Int32) :=
  some (σ.1 4 0 1)
def X5_fed  (σ : SS)   : Option (Int32) := X5_fed_j0  σ  
def X5_hasRoom_j0  (σ : SS)   : Option (Int32) :=
  if 900 < ((σ.1 4 0 1) + 20) then (some 0) else
  (some 1)
def X5_hasRoom  (σ : SS)   : Option (Int32) := X5_hasRoom_j0  σ  
def X5_append_j52  (σ : SS)  (x1 : Int32) (x2 : Int32) : Option ((Int32 × SS) ⊕ (SS)) :=
  (some (x2 + (-8))).bind fun x2_52 =>
  some (Sum.inl (x2_52, σ))
def X5_append_l3c  (σ : SS)  (x1 : Int32) (x2 : Int32) : Option ((Int32 × SS) ⊕ (SS)) :=
  if x2 < 0 then (some (Sum.inr σ)) else
  (if (σ.1 4 0 1) < 0 then (X5_append_j52 σ x1 x2) else
    (if (nI (LN 13 31)) ≤ (σ.1 4 0 1) then (X5_append_j52 σ x1 x2) else
      ((ck (LN 13 31) (σ.1 4 0 1)).bind fun j41 =>
        (some (wI σ 13 31 j41 ((x1.toUInt32 >>> (Int32.toUInt32 x2 &&& Int32.toUInt32 31)).toInt32 &&& 255))).bind fun σ41 =>
        (some (wI σ41 4 0 1 ((σ41.1 4 0 1) + 1))).bind fun σ49 =>
        X5_append_j52 σ49 x1 x2)))
def X5_append_l3b    (x1 : Int32) : (Int32 × SS) → Option ((Int32 × SS) ⊕ (SS)) := fun ss => X5_append_l3c  ss.2  x1 ss.1
def X5_append_l3  (σ : SS)  (x1 : Int32) (x2 : Int32) : Option (Int32 × SS) :=
  (iter (X5_append_l3b    x1) NF (x2, σ)).bind fun t3 =>
  some ((t3.1 4 0 1), t3)
def X5_append_j0  (σ : SS)  (x1 : Int32) : Option (Int32 × SS) :=
  X5_append_l3 σ x1 24
def X5_append  (σ : SS)  (x1 : Int32) : Option (Int32 × SS) := X5_append_j0  σ  x1
def X5_begin_j0  (σ : SS)  (x1 : Int32) : Option (SS) :=
  (some (wI σ 4 0 2 (imin x1 (σ.1 4 0 1)))).bind fun σ9 =>
  (some (wI σ9 4 0 1 0)).bind fun σ14 =>
  (some (wI σ14 4 0 5 0)).bind fun σ19 =>
  (some (wI σ19 4 0 7 0)).bind fun σ24 =>
  (some (wI σ24 4 0 8 (-1))).bind fun σ29 =>
  (X5_next σ29 ).bind fun σ33 =>
  some σ33
def X5_begin  (σ : SS)  (x1 : Int32) : Option (SS) := X5_begin_j0  σ  x1
def X5_faultKind_j0  (σ : SS)   : Option (Int32) :=
  some (σ.1 4 0 7)
def X5_faultKind  (σ : SS)   : Option (Int32) := X5_faultKind_j0  σ  
def X5_faultPlace_j0  (σ : SS)   : Option (Int32) :=
  some (σ.1 4 0 8)
def X5_faultPlace  (σ : SS)   : Option (Int32) := X5_faultPlace_j0  σ  
def X5_word_j0  (σ : SS)   : Option (Int32) :=
  some (σ.1 4 0 6)
def X5_word  (σ : SS)   : Option (Int32) := X5_word_j0  σ  
def X6_isNumber_j0  (σ : SS)  (x1 : Int32) : Option (Int32) :=
  if x1 < 0 then (some 0) else
  (if 4 ≤ x1 then (some 0) else
    (some 1))
def X6_isNumber  (σ : SS)  (x1 : Int32) : Option (Int32) := X6_isNumber_j0  σ  x1
def X6_isSort_j0  (σ : SS)  (x1 : Int32) : Option (Int32) :=
  if x1 < 0 then (some 0) else
  (if 3 < x1 then (some 0) else
    (some 1))
def X6_isSort  (σ : SS)  (x1 : Int32) : Option (Int32) := X6_isSort_j0  σ  x1
def X6_isThere_j0  (σ : SS)  (x1 : Int32) : Option (Int32) :=
  (X4_at σ 20 2 x1).bind fun v6 =>
  if v6 = 1 then (some 1) else
  (some 0)
def X6_isThere  (σ : SS)  (x1 : Int32) : Option (Int32) := X6_isThere_j0  σ  x1
def X6_alike_j0  (σ : SS)  (x1 : Int32) (x2 : Int32) : Option (Int32) :=
  (X4_at σ 20 1 x1).bind fun v6 =>
  (X4_at σ 20 1 x2).bind fun v15 =>
  if v6 = v15 then (some 1) else
  (some 0)
def X6_alike  (σ : SS)  (x1 : Int32) (x2 : Int32) : Option (Int32) := X6_alike_j0  σ  x1 x2
def X6_holds_j0  (σ : SS)  (x1 : Int32) (x2 : Int32) (x3 : Int32) : Option (Int32) :=
  if x2 < 0 then (some 0) else
  (if x3 < 0 then (some 0) else
    ((X4_at σ 20 0 x1).bind fun v15 =>
      if (v15 - x3) < x2 then (some 0) else
      (some 1)))
def X6_holds  (σ : SS)  (x1 : Int32) (x2 : Int32) (x3 : Int32) : Option (Int32) := X6_holds_j0  σ  x1 x2 x3
def X6_indexOf_j0  (σ : SS)  (x1 : Int32) (x2 : Int32) : Option (Int32) :=
  (X6_isNumber σ x1).bind fun v2 =>
  if v2 = 0 then (some (-1)) else
  ((X6_holds σ x1 x2 1).bind fun v12 =>
    if v12 = 0 then (some (-1)) else
    (some ((x1 * 60) + x2)))
def X6_indexOf  (σ : SS)  (x1 : Int32) (x2 : Int32) : Option (Int32) := X6_indexOf_j0  σ  x1 x2
def X6_cutTo_j0  (σ : SS)  (x0 : Int32) (y1 : Int64) : Option (Int64) :=
  if x0 = 0 then (some (Int32.toInt64 (Int8.toInt32 (Int32.toInt8 (Int64.toInt32 y1))))) else
  (if x0 = 1 then (some (Int32.toInt64 (Int16.toInt32 (Int32.toInt16 (Int64.toInt32 y1))))) else
    (if x0 = 2 then (some (Int32.toInt64 (Int64.toInt32 y1))) else
      (some y1)))
def X6_cutTo  (σ : SS)  (x0 : Int32) (y1 : Int64) : Option (Int64) := X6_cutTo_j0  σ  x0 y1
def X6_put_j0  (σ : SS)  (x1 : Int32) (x2 : Int32) (y3 : Int64) : Option (Int32 × SS) :=
  (X6_indexOf σ x1 x2).bind fun v3 =>
  if v3 < 0 then (some (1, σ)) else
  (if (nI (LN 14 5)) ≤ v3 then (some (1, σ)) else
    ((X4_at σ 20 1 x1).bind fun v35 =>
      (X6_cutTo σ v35 y3).bind fun v39 =>
      (ck (LN 14 5) v3).bind fun j42 =>
      (some (wJ σ 14 5 j42 v39)).bind fun σ42 =>
      some (1, σ42)))
def X6_put  (σ : SS)  (x1 : Int32) (x2 : Int32) (y3 : Int64) : Option (Int32 × SS) := X6_put_j0  σ  x1 x2 y3
def X6_lay_l33c  (σ : SS)  (x1 : Int32) (x3 : Int32) (x4 : Int32) : Option ((Int32 × SS) ⊕ (SS)) :=
  if x3 ≤ x4 then (some (Sum.inr σ)) else
  ((X6_put σ x1 x4 0).bind fun p44 =>
    (some (x4 + 1)).bind fun x4_48 =>
    some (Sum.inl (x4_48, p44.2)))
def X6_lay_l33b    (x1 : Int32) (x3 : Int32) : (Int32 × SS) → Option ((Int32 × SS) ⊕ (SS)) := fun ss => X6_lay_l33c  ss.2  x1 x3 ss.1
def X6_lay_l33  (σ : SS)  (x1 : Int32) (x3 : Int32) (x4 : Int32) : Option (Int32 × SS) :=
  (iter (X6_lay_l33b    x1 x3) NF (x4, σ)).bind fun t33 =>
  some (1, t33)
def X6_lay_j0  (σ : SS)  (x1 : Int32) (x2 : Int32) (x3 : Int32) : Option (Int32 × SS) :=
  (X4_put σ 20 0 x1 x3).bind fun σ7 =>
  (X4_put σ7 20 1 x1 x2).bind fun σ17 =>
  (X4_put σ17 20 2 x1 1).bind fun σ27 =>
  X6_lay_l33 σ27 x1 x3 0
def X6_lay  (σ : SS)  (x1 : Int32) (x2 : Int32) (x3 : Int32) : Option (Int32 × SS) := X6_lay_j0  σ  x1 x2 x3
def X6_at_j29  (σ : SS)   : Option (Int64) :=
  some (-1)
def X6_at_j0  (σ : SS)  (x1 : Int32) (x2 : Int32) : Option (Int64) :=
  (X6_indexOf σ x1 x2).bind fun v3 =>
  if v3 < 0 then (X6_at_j29 σ) else
  (if (nI (LN 14 5)) ≤ v3 then (X6_at_j29 σ) else
    ((ck (LN 14 5) v3).bind fun j25 =>
      some (σ.2 14 5 j25)))
def X6_at  (σ : SS)  (x1 : Int32) (x2 : Int32) : Option (Int64) := X6_at_j0  σ  x1 x2
def X6_move_j40  (σ : SS)  (x1 : Int32) (x2 : Int32) (x3 : Int32) (x4 : Int32) (x5 : Int32) (x6 : Int32) (x7 : Int32) (s0 : Int32) : Option ((Int32 × SS) ⊕ (SS)) :=
  (X6_at σ x1 (x2 + s0)).bind fun v55 =>
  (X6_put σ x3 (x4 + s0) v55).bind fun p58 =>
  (some (x7 + 1)).bind fun x7_62 =>
  some (Sum.inl (x7_62, p58.2))
def X6_move_l16c  (σ : SS)  (x1 : Int32) (x2 : Int32) (x3 : Int32) (x4 : Int32) (x5 : Int32) (x6 : Int32) (x7 : Int32) : Option ((Int32 × SS) ⊕ (SS)) :=
  if x5 ≤ x7 then (some (Sum.inr σ)) else
  (X6_move_j40 σ x1 x2 x3 x4 x5 x6 x7 (if x6 = 0 then ((x5 - 1) - x7) else x7))
def X6_move_l16b    (x1 : Int32) (x2 : Int32) (x3 : Int32) (x4 : Int32) (x5 : Int32) (x6 : Int32) : (Int32 × SS) → Option ((Int32 × SS) ⊕ (SS)) := fun ss => X6_move_l16c  ss.2  x1 x2 x3 x4 x5 x6 ss.1
def X6_move_l16  (σ : SS)  (x1 : Int32) (x2 : Int32) (x3 : Int32) (x4 : Int32) (x5 : Int32) (x6 : Int32) (x7 : Int32) : Option (Int32 × SS) :=
  (iter (X6_move_l16b    x1 x2 x3 x4 x5 x6) NF (x7, σ)).bind fun t16 =>
  some (1, t16)
def X6_move_j11  (σ : SS)  (x1 : Int32) (x2 : Int32) (x3 : Int32) (x4 : Int32) (x5 : Int32) (s0 : Int32) : Option (Int32 × SS) :=
  X6_move_l16 σ x1 x2 x3 x4 x5 s0 0
def X6_move_j0  (σ : SS)  (x1 : Int32) (x2 : Int32) (x3 : Int32) (x4 : Int32) (x5 : Int32) : Option (Int32 × SS) :=
  X6_move_j11 σ x1 x2 x3 x4 x5 (if x2 < x4 then 0 else 1)
def X6_move  (σ : SS)  (x1 : Int32) (x2 : Int32) (x3 : Int32) (x4 : Int32) (x5 : Int32) : Option (Int32 × SS) := X6_move_j0  σ  x1 x2 x3 x4 x5
def X7_keepWay_j0  (σ : SS)   : Option (SS) :=
  (X4_takeOver σ 24 23).bind fun σ8 =>
  (some (wI σ8 6 0 6 1)).bind fun σ13 =>
  some σ13
def X7_keepWay  (σ : SS)   : Option (SS) := X7_keepWay_j0  σ  
def X7_hasWay_j0  (σ : SS)   : Option (Int32) :=
  (zb (σ.1 6 0 6)).bind fun b4 =>
  some (σ.1 6 0 6)
def X7_hasWay  (σ : SS)   : Option (Int32) := X7_hasWay_j0  σ  
def X7_keptWay_j0  (σ : SS)  (x1 : Int32) : Option (Int32) :=
  (X4_at σ 24 0 x1).bind fun v6 =>
  some v6
def X7_keptWay  (σ : SS)  (x1 : Int32) : Option (Int32) := X7_keptWay_j0  σ  x1
def X7_soonestOf_j47  (σ : SS) (r1 : Nat) (x2 : Int32) (x3 : Int32) (x4 : Int32) : Option ((Int32 × Int32 × Int32 × SS) ⊕ (Int32 × SS)) :=
  (some (x4 + 1)).bind fun x4_47 =>
  some (Sum.inl (x2, x3, x4_47, σ))
def X7_soonestOf_l8c  (σ : SS) (r1 : Nat)  (x2 : Int32) (x3 : Int32) (x4 : Int32) : Option ((Int32 × Int32 × Int32 × SS) ⊕ (Int32 × SS)) :=
  (X0_leadCount σ r1).bind fun v11 =>
  if v11 ≤ x4 then (some (Sum.inr (x2, σ))) else
  ((X0_isIn σ r1 x4).bind fun v20 =>
    if v20 = 0 then (X7_soonestOf_j47 σ r1 x2 x3 x4) else
    ((X7_find σ r1 x4).bind fun p30 =>
      X7_soonestOf_j47 p30.2 r1 (if x3 ≤ p30.1 then x2 else x4) (if x3 ≤ p30.1 then x3 else p30.1) x4))
def X7_soonestOf_l8b   (r1 : Nat)  : (Int32 × Int32 × Int32 × SS) → Option ((Int32 × Int32 × Int32 × SS) ⊕ (Int32 × SS)) := fun ss => X7_soonestOf_l8c  ss.2.2.2 r1  ss.1 ss.2.1 ss.2.2.1
def X7_soonestOf_l8  (σ : SS) (r1 : Nat) (x2 : Int32) (x3 : Int32) (x4 : Int32) : Option (Int32 × SS) :=
  (iter (X7_soonestOf_l8b   r1 ) NF (x2, x3, x4, σ)).bind fun t8 =>
  some (t8.1, t8.2)
def X7_soonestOf_j0  (σ : SS) (r1 : Nat)  : Option (Int32 × SS) :=
  X7_soonestOf_l8 σ r1 (-1) 1073741824 0
def X7_soonestOf  (σ : SS) (r1 : Nat)  : Option (Int32 × SS) := X7_soonestOf_j0  σ r1 
def X7_secondsOfEnds_l14c  (σ : SS) (r1 : Nat) (x3 : Int32) (x4 : Int32) (x5 : Int32) (x6 : Int32) : Option ((Int32 × Int32) ⊕ (Int32)) :=
  if x3 ≤ x6 then (some (Sum.inr x5)) else
  ((X4_at σ 22 0 x6).bind fun v29 =>
    (some (x5 + v29)).bind fun x5_33 =>
    (some (x6 + 1)).bind fun x6_35 =>
    some (Sum.inl (x5_33, x6_35)))
def X7_secondsOfEnds_l14b  (σ : SS) (r1 : Nat) (x3 : Int32) (x4 : Int32) : (Int32 × Int32) → Option ((Int32 × Int32) ⊕ (Int32)) := fun ss => X7_secondsOfEnds_l14c  σ r1 x3 x4 ss.1 ss.2
def X7_secondsOfEnds_l44c  (σ : SS) (r1 : Nat) (x4 : Int32) (x5 : Int32) (x6 : Int32) : Option ((Int32 × Int32) ⊕ (Int32)) :=
  if x4 ≤ x6 then (some (Sum.inr x5)) else
  ((X4_at σ 22 0 (((σ.1 6 0 1) - 1) - x6)).bind fun v67 =>
    (some (x5 + v67)).bind fun x5_71 =>
    (some (x6 + 1)).bind fun x6_73 =>
    some (Sum.inl (x5_71, x6_73)))
def X7_secondsOfEnds_l44b  (σ : SS) (r1 : Nat) (x4 : Int32) : (Int32 × Int32) → Option ((Int32 × Int32) ⊕ (Int32)) := fun ss => X7_secondsOfEnds_l44c  σ r1 x4 ss.1 ss.2
def X7_secondsOfEnds_l44  (σ : SS) (r1 : Nat) (x4 : Int32) (x5 : Int32) (x6 : Int32) : Option (Int32 × SS) :=
  (iter (X7_secondsOfEnds_l44b  σ r1 x4) NF (x5, x6)).bind fun t44 =>
  some (t44, σ)
def X7_secondsOfEnds_l14  (σ : SS) (r1 : Nat) (x3 : Int32) (x4 : Int32) (x5 : Int32) (x6 : Int32) : Option (Int32 × SS) :=
  (iter (X7_secondsOfEnds_l14b  σ r1 x3 x4) NF (x5, x6)).bind fun t14 =>
  X7_secondsOfEnds_l44 σ r1 x4 t14 0
def X7_secondsOfEnds_j0  (σ : SS) (r1 : Nat) (x2 : Int32) (x3 : Int32) (x4 : Int32) : Option (Int32 × SS) :=
  (X7_layRow σ r1 x2 0 0).bind fun σ5 =>
  X7_secondsOfEnds_l14 σ5 r1 x3 x4 0 0
def X7_secondsOfEnds  (σ : SS) (r1 : Nat) (x2 : Int32) (x3 : Int32) (x4 : Int32) : Option (Int32 × SS) := X7_secondsOfEnds_j0  σ r1 x2 x3 x4
def X7_everyone_j0  (σ : SS) (r0 : Nat)  : Option (Int32) :=
  (X0_leadCount σ r0).bind fun v2 =>
  some ((1 <<< (v2 &&& 31)) - 1)
def X7_everyone  (σ : SS) (r0 : Nat)  : Option (Int32) := X7_everyone_j0  σ r0 
def X7_secondsWithNext_j0  (σ : SS) (r1 : Nat) (x2 : Int32) (x3 : Int32) (x4 : Int32) : Option (Int32 × SS) :=
  (X7_layRow σ r1 x2 x3 x4).bind fun σ6 =>
  (X7_fewestSeconds σ6 ).bind fun p10 =>
  (X4_at p10.2 25 0 (x3 ||| (1 <<< (x2 &&& 31)))).bind fun v23 =>
  some ((p10.1 + v23), p10.2)
def X7_secondsWithNext  (σ : SS) (r1 : Nat) (x2 : Int32) (x3 : Int32) (x4 : Int32) : Option (Int32 × SS) := X7_secondsWithNext_j0  σ r1 x2 x3 x4
def X7_fewestForRest_j41  (σ : SS) (r1 : Nat) (x2 : Int32) (x3 : Int32) (x4 : Int32) (x5 : Int32) : Option ((Int32 × Int32 × SS) ⊕ (Int32 × SS)) :=
  (some (x5 + 1)).bind fun x5_41 =>
  some (Sum.inl (x4, x5_41, σ))
def X7_fewestForRest_l7c  (σ : SS) (r1 : Nat) (x2 : Int32) (x3 : Int32) (x4 : Int32) (x5 : Int32) : Option ((Int32 × Int32 × SS) ⊕ (Int32 × SS)) :=
  (X0_leadCount σ r1).bind fun v10 =>
  if v10 ≤ x5 then (some (Sum.inr (x4, σ))) else
  (if ((x2 >>> (x5 &&& 31)) &&& 1) = 0 then ((X7_secondsWithNext σ r1 x5 x2 x3).bind fun p33 =>
      (some (imin x4 p33.1)).bind fun x4_39 =>
      X7_fewestForRest_j41 p33.2 r1 x2 x3 x4_39 x5) else
    (X7_fewestForRest_j41 σ r1 x2 x3 x4 x5))
def X7_fewestForRest_l7b   (r1 : Nat) (x2 : Int32) (x3 : Int32) : (Int32 × Int32 × SS) → Option ((Int32 × Int32 × SS) ⊕ (Int32 × SS)) := fun ss => X7_fewestForRest_l7c  ss.2.2 r1 x2 x3 ss.1 ss.2.1
def X7_fewestForRest_l7  (σ : SS) (r1 : Nat) (x2 : Int32) (x3 : Int32) (x4 : Int32) (x5 : Int32) : Option (Int32 × SS) :=
  (iter (X7_fewestForRest_l7b   r1 x2 x3) NF (x4, x5, σ)).bind fun t7 =>
  some (t7.1, t7.2)
def X7_fewestForRest_j0  (σ : SS) (r1 : Nat) (x2 : Int32) (x3 : Int32) : Option (Int32 × SS) :=
  X7_fewestForRest_l7 σ r1 x2 x3 1073741824 0
def X7_fewestForRest  (σ : SS) (r1 : Nat) (x2 : Int32) (x3 : Int32) : Option (Int32 × SS) := X7_fewestForRest_j0  σ r1 x2 x3
def X7_layRest_j63  (σ : SS) (r1 : Nat) (x2 : Int32) (x3 : Int32) (x4 : Int32) (x5 : Int32) : Option ((Int32 × SS) ⊕ (SS)) :=
  (some (x5 + (-1))).bind fun x5_63 =>
  some (Sum.inl (x5_63, σ))
def X7_layRest_j60  (σ : SS) (r1 : Nat) (x2 : Int32) (x3 : Int32) (x4 : Int32) (x5 : Int32) (s1 : Int32) (s2 : Int32) (s3 : Int32) : Option ((Int32 × SS) ⊕ (SS)) :=
  (X4_put σ 25 s1 s2 s3).bind fun σ60 =>
  X7_layRest_j63 σ60 r1 x2 x3 x4 x5
def X7_layRest_l18c  (σ : SS) (r1 : Nat) (x2 : Int32) (x3 : Int32) (x4 : Int32) (x5 : Int32) : Option ((Int32 × SS) ⊕ (SS)) :=
  if x5 < x4 then (some (Sum.inr σ)) else
  (if (x5 &&& x4) = x4 then (if x5 = x3 then (X7_layRest_j60 σ r1 x2 x3 x4 x5 0 x5 0) else
      ((X7_fewestForRest σ r1 x5 x2).bind fun p57 =>
        X7_layRest_j60 p57.2 r1 x2 x3 x4 x5 0 x5 p57.1)) else
    (X7_layRest_j63 σ r1 x2 x3 x4 x5))
def X7_layRest_l18b   (r1 : Nat) (x2 : Int32) (x3 : Int32) (x4 : Int32) : (Int32 × SS) → Option ((Int32 × SS) ⊕ (SS)) := fun ss => X7_layRest_l18c  ss.2 r1 x2 x3 x4 ss.1
def X7_layRest_l18  (σ : SS) (r1 : Nat) (x2 : Int32) (x3 : Int32) (x4 : Int32) (x5 : Int32) : Option (Int32 × SS) :=
  (iter (X7_layRest_l18b   r1 x2 x3 x4) NF (x5, σ)).bind fun t18 =>
  (X4_at t18 25 0 x4).bind fun v76 =>
    some (v76, t18)
def X7_layRest_j0  (σ : SS) (r1 : Nat) (x2 : Int32) : Option (Int32 × SS) :=
  (X7_everyone σ r1).bind fun v1 =>
  (X0_insideSet σ r1).bind fun v7 =>
  (some (v1 &&& (v7 ^^^ (-1)))).bind fun x4_13 =>
  X7_layRest_l18 σ r1 x2 v1 x4_13 v1
def X7_layRest  (σ : SS) (r1 : Nat) (x2 : Int32) : Option (Int32 × SS) := X7_layRest_j0  σ r1 x2
def X7_firstOfBest_j43  (σ : SS) (r1 : Nat) (x2 : Int32) (x3 : Int32) : Option ((Int32 × SS) ⊕ ((Int32 × SS) ⊕ (SS))) :=
  (some (x3 + 1)).bind fun x3_43 =>
  some (Sum.inl (x3_43, σ))
def X7_firstOfBest_l2c  (σ : SS) (r1 : Nat) (x2 : Int32) (x3 : Int32) : Option ((Int32 × SS) ⊕ ((Int32 × SS) ⊕ (SS))) :=
  (X0_leadCount σ r1).bind fun v4 =>
  if v4 ≤ x3 then (some (Sum.inr (Sum.inr σ))) else
  (if ((x2 >>> (x3 &&& 31)) &&& 1) = 0 then ((X7_secondsWithNext σ r1 x3 x2 (σ.1 6 0 10)).bind fun p26 =>
      (X4_at p26.2 25 0 x2).bind fun v35 =>
      if p26.1 = v35 then (some (Sum.inr (Sum.inl (x3, p26.2)))) else
      (X7_firstOfBest_j43 p26.2 r1 x2 x3)) else
    (X7_firstOfBest_j43 σ r1 x2 x3))
def X7_firstOfBest_l2b   (r1 : Nat) (x2 : Int32) : (Int32 × SS) → Option ((Int32 × SS) ⊕ ((Int32 × SS) ⊕ (SS))) := fun ss => X7_firstOfBest_l2c  ss.2 r1 x2 ss.1
def X7_firstOfBest_l2  (σ : SS) (r1 : Nat) (x2 : Int32) (x3 : Int32) : Option (Int32 × SS) :=
  (iter (X7_firstOfBest_l2b   r1 x2) NF (x3, σ)).bind fun t2 => match t2 with
  | Sum.inl e41 => some (e41.1, e41.2)
  | Sum.inr u41 => (some ((-1), u41))
def X7_firstOfBest_j0  (σ : SS) (r1 : Nat) (x2 : Int32) : Option (Int32 × SS) :=
  X7_firstOfBest_l2 σ r1 x2 0
def X7_firstOfBest  (σ : SS) (r1 : Nat) (x2 : Int32) : Option (Int32 × SS) := X7_firstOfBest_j0  σ r1 x2
def X7_layOrder_j72  (σ : SS) (r1 : Nat) (x2 : Int32) (x3 : Int32) : Option ((Int32 × Int32 × SS) ⊕ (SS)) :=
  (some (x3 + 1)).bind fun x3_72 =>
  some (Sum.inl (x2, x3_72, σ))
def X7_layOrder_l19c  (σ : SS) (r1 : Nat)  (x2 : Int32) (x3 : Int32) : Option ((Int32 × Int32 × SS) ⊕ (SS)) :=
  (X0_leadCount σ r1).bind fun v21 =>
  if v21 ≤ x3 then (some (Sum.inr σ)) else
  ((X7_firstOfBest σ r1 x2).bind fun p30 =>
    if p30.1 = (-1) then (X7_layOrder_j72 p30.2 r1 x2 x3) else
    ((X4_put p30.2 26 0 (p30.2.1 6 0 9) p30.1).bind fun σ52 =>
      (some (wI σ52 6 0 9 ((σ52.1 6 0 9) + 1))).bind fun σ62 =>
      (some (x2 ||| (1 <<< (p30.1 &&& 31)))).bind fun x2_71 =>
      X7_layOrder_j72 σ62 r1 x2_71 x3))
def X7_layOrder_l19b   (r1 : Nat)  : (Int32 × Int32 × SS) → Option ((Int32 × Int32 × SS) ⊕ (SS)) := fun ss => X7_layOrder_l19c  ss.2.2 r1  ss.1 ss.2.1
def X7_layOrder_l19  (σ : SS) (r1 : Nat) (x2 : Int32) (x3 : Int32) : Option (SS) :=
  (iter (X7_layOrder_l19b   r1 ) NF (x2, x3, σ)).bind fun t19 =>
  some t19
def X7_layOrder_j0  (σ : SS) (r1 : Nat)  : Option (SS) :=
  (some (wI σ 6 0 9 0)).bind fun σ2 =>
  (X7_everyone σ2 r1).bind fun v6 =>
  (X0_insideSet σ2 r1).bind fun v10 =>
  (some (v6 &&& (v10 ^^^ (-1)))).bind fun x2_16 =>
  X7_layOrder_l19 σ2 r1 x2_16 0
def X7_layOrder  (σ : SS) (r1 : Nat)  : Option (SS) := X7_layOrder_j0  σ r1 
def X7_findAll_j57  (σ : SS) (r1 : Nat) (x2 : Int32) (x3 : Int32) (x4 : Int32) : Option ((Int32 × Int32 × Int32 × SS) ⊕ (Int32 × Int32 × SS)) :=
  (some (x4 + 1)).bind fun x4_57 =>
  some (Sum.inl (x2, x3, x4_57, σ))
def X7_findAll_j43  (σ : SS) (r1 : Nat) (x2 : Int32) (x3 : Int32) (x4 : Int32) (s0 : Int32) : Option ((Int32 × Int32 × Int32 × SS) ⊕ (Int32 × Int32 × SS)) :=
  X7_findAll_j57 σ r1 (if x2 ≤ s0 then x2 else s0) (if x2 ≤ s0 then x3 else x4) x4
def X7_findAll_l8c  (σ : SS) (r1 : Nat)  (x2 : Int32) (x3 : Int32) (x4 : Int32) : Option ((Int32 × Int32 × Int32 × SS) ⊕ (Int32 × Int32 × SS)) :=
  if 3 < x4 then (some (Sum.inr (x2, x3, σ))) else
  ((X0_secondsToLoosen σ r1 x4).bind fun v17 =>
    if x2 ≤ v17 then (X7_findAll_j43 σ r1 x2 x3 x4 1073741824) else
    ((X7_layRest σ r1 x4).bind fun p34 =>
      X7_findAll_j43 p34.2 r1 x2 x3 x4 (v17 + p34.1)))
def X7_findAll_l8b   (r1 : Nat)  : (Int32 × Int32 × Int32 × SS) → Option ((Int32 × Int32 × Int32 × SS) ⊕ (Int32 × Int32 × SS)) := fun ss => X7_findAll_l8c  ss.2.2.2 r1  ss.1 ss.2.1 ss.2.2.1
def X7_findAll_l8  (σ : SS) (r1 : Nat) (x2 : Int32) (x3 : Int32) (x4 : Int32) : Option (Int32 × SS) :=
  (iter (X7_findAll_l8b   r1 ) NF (x2, x3, x4, σ)).bind fun t8 =>
  (some (wI t8.2.2 6 0 10 t8.2.1)).bind fun σ65 =>
    (some (wI σ65 6 0 11 1)).bind fun σ70 =>
    (X7_layRest σ70 r1 t8.2.1).bind fun p76 =>
    (X7_layOrder p76.2 r1).bind fun σ82 =>
    some (t8.1, σ82)
def X7_findAll_j0  (σ : SS) (r1 : Nat)  : Option (Int32 × SS) :=
  X7_findAll_l8 σ r1 1073741824 0 0
def X7_findAll  (σ : SS) (r1 : Nat)  : Option (Int32 × SS) := X7_findAll_j0  σ r1 
def X7_hasOrder_j0  (σ : SS)   : Option (Int32) :=
  (zb (σ.1 6 0 11)).bind fun b4 =>
  some (σ.1 6 0 11)
def X7_hasOrder  (σ : SS)   : Option (Int32) := X7_hasOrder_j0  σ  
def X7_orderLength_j0  (σ : SS)   : Option (Int32) :=
  some (σ.1 6 0 9)
def X7_orderLength  (σ : SS)   : Option (Int32) := X7_orderLength_j0  σ  
def X7_inOrder_j0  (σ : SS)  (x1 : Int32) : Option (Int32) :=
  (X4_at σ 26 0 x1).bind fun v6 =>
  some v6
def X7_inOrder  (σ : SS)  (x1 : Int32) : Option (Int32) := X7_inOrder_j0  σ  x1
def X7_loosensFirst_j0  (σ : SS)   : Option (Int32) :=
  some (σ.1 6 0 10)
def X7_loosensFirst  (σ : SS)   : Option (Int32) := X7_loosensFirst_j0  σ  
def X8_sixteenthsGrown_j42  (σ : SS) (r1 : Nat) (x2 : Int32) (x4 : Int32) (s0 : Int32) (s1 : Int32) : Option ((Int32 × Int32) ⊕ (Int32)) :=
  (some (s0 + s1)).bind fun x3_43 =>
  (some (x4 + 1)).bind fun x4_44 =>
  some (Sum.inl (x3_43, x4_44))
def X8_sixteenthsGrown_l10c  (σ : SS) (r1 : Nat) (x2 : Int32) (x3 : Int32) (x4 : Int32) : Option ((Int32 × Int32) ⊕ (Int32)) :=
  (X0_leadCount σ r1).bind fun v13 =>
  if v13 ≤ x4 then (some (Sum.inr x3)) else
  (if ((x2 >>> (x4 &&& 31)) &&& 1) = 1 then ((X0_number σ r1 6 x4).bind fun v35 =>
      X8_sixteenthsGrown_j42 σ r1 x2 x4 x3 v35) else
    (X8_sixteenthsGrown_j42 σ r1 x2 x4 x3 0))
def X8_sixteenthsGrown_l10b  (σ : SS) (r1 : Nat) (x2 : Int32) : (Int32 × Int32) → Option ((Int32 × Int32) ⊕ (Int32)) := fun ss => X8_sixteenthsGrown_l10c  σ r1 x2 ss.1 ss.2
def X8_sixteenthsGrown_l10  (σ : SS) (r1 : Nat) (x2 : Int32) (x3 : Int32) (x4 : Int32) : Option (Int32) :=
  (iter (X8_sixteenthsGrown_l10b  σ r1 x2) NF (x3, x4)).bind fun t10 =>
  (J6_bitCount_0f7a4 σ x2).bind fun v51 =>
    if v51 ≤ 1 then (some 0) else
    (some t10)
def X8_sixteenthsGrown_j0  (σ : SS) (r1 : Nat)  : Option (Int32) :=
  (X0_unclippedSet σ r1).bind fun v1 =>
  X8_sixteenthsGrown_l10 σ r1 v1 0 0
def X8_sixteenthsGrown  (σ : SS) (r1 : Nat)  : Option (Int32) := X8_sixteenthsGrown_j0  σ r1 
def X8_openingsForClips_l25c  (σ : SS) (r1 : Nat) (x2 : Int32) (x3 : Int32) (x4 : Int32) : Option ((Int32) ⊕ ((Int32) ⊕ (Unit))) :=
  if 999 < x4 then (some (Sum.inr (Sum.inr ()))) else
  (if (x4 * x2) ≤ x3 then ((some (x4 + 1)).bind fun x4_44 =>
      some (Sum.inl x4_44)) else
    (some (Sum.inr (Sum.inl x4))))
def X8_openingsForClips_l25b  (σ : SS) (r1 : Nat) (x2 : Int32) (x3 : Int32) : (Int32) → Option ((Int32) ⊕ ((Int32) ⊕ (Unit))) := fun ss => X8_openingsForClips_l25c  σ r1 x2 x3 ss
def X8_openingsForClips_l25  (σ : SS) (r1 : Nat) (x2 : Int32) (x3 : Int32) (x4 : Int32) : Option (Int32) :=
  (iter (X8_openingsForClips_l25b  σ r1 x2 x3) NF x4).bind fun t25 => match t25 with
  | Sum.inl e41 => some e41
  | Sum.inr u41 => (some (-1))
def X8_openingsForClips_j0  (σ : SS) (r1 : Nat)  : Option (Int32) :=
  (X8_sixteenthsGrown σ r1).bind fun v2 =>
  (some (v2 * 5)).bind fun x2_7 =>
  (X0_unclippedSet σ r1).bind fun v9 =>
  (J6_bitCount_0f7a4 σ v9).bind fun v12 =>
  (some ((v12 * 12) * 16)).bind fun x3_21 =>
  X8_openingsForClips_l25 σ r1 x2_7 x3_21 1
def X8_openingsForClips  (σ : SS) (r1 : Nat)  : Option (Int32) := X8_openingsForClips_j0  σ r1 
def X8_usedTogether_j36  (σ : SS) (r1 : Nat) (x2 : Int32) (x4 : Int32) (s0 : Int32) (s1 : Int32) : Option ((Int32 × Int32) ⊕ (Int32)) :=
  (some (s0 + s1)).bind fun x3_37 =>
  (some (x4 + 1)).bind fun x4_38 =>
  some (Sum.inl (x3_37, x4_38))
def X8_usedTogether_l5c  (σ : SS) (r1 : Nat) (x2 : Int32) (x3 : Int32) (x4 : Int32) : Option ((Int32 × Int32) ⊕ (Int32)) :=
  (X0_leadCount σ r1).bind fun v8 =>
  if v8 ≤ x4 then (some (Sum.inr x3)) else
  (if ((x2 >>> (x4 &&& 31)) &&& 1) = 1 then ((X0_number σ r1 5 x4).bind fun v29 =>
      X8_usedTogether_j36 σ r1 x2 x4 x3 v29) else
    (X8_usedTogether_j36 σ r1 x2 x4 x3 0))
def X8_usedTogether_l5b  (σ : SS) (r1 : Nat) (x2 : Int32) : (Int32 × Int32) → Option ((Int32 × Int32) ⊕ (Int32)) := fun ss => X8_usedTogether_l5c  σ r1 x2 ss.1 ss.2
def X8_usedTogether_l5  (σ : SS) (r1 : Nat) (x2 : Int32) (x3 : Int32) (x4 : Int32) : Option (Int32) :=
  (iter (X8_usedTogether_l5b  σ r1 x2) NF (x3, x4)).bind fun t5 =>
  some t5
def X8_usedTogether_j0  (σ : SS) (r1 : Nat) (x2 : Int32) : Option (Int32) :=
  X8_usedTogether_l5 σ r1 x2 0 0
def X8_usedTogether  (σ : SS) (r1 : Nat) (x2 : Int32) : Option (Int32) := X8_usedTogether_j0  σ r1 x2
def X8_triedAhead_j78  (σ : SS) (r0 : Nat) (x1 : Int32) (x2 : Int32) (x3 : Int32) (x5 : Int32) (s0 : Int32) (s1 : Int32) : Option ((Int32 × Int32) ⊕ (Int32)) :=
  (some (s0 + s1)).bind fun x4_79 =>
  (some (x5 + 1)).bind fun x5_81 =>
  some (Sum.inl (x4_79, x5_81))
def X8_triedAhead_j77  (σ : SS) (r0 : Nat) (x1 : Int32) (x2 : Int32) (x3 : Int32) (x5 : Int32) (s0 : Int32) : Option ((Int32 × Int32) ⊕ (Int32)) :=
  X8_triedAhead_j78 σ r0 x1 x2 x3 x5 s0 0
def X8_triedAhead_j54  (σ : SS) (r0 : Nat) (x1 : Int32) (x2 : Int32) (x3 : Int32) (x4 : Int32) (x5 : Int32) (s0 : Int32) : Option ((Int32 × Int32) ⊕ (Int32)) :=
  if s0 = 0 then (X8_triedAhead_j77 σ r0 x1 x2 x3 x5 x4) else
  (if ((x1 >>> (x5 &&& 31)) &&& 1) = 1 then (X8_triedAhead_j78 σ r0 x1 x2 x3 x5 x4 1) else
    (X8_triedAhead_j77 σ r0 x1 x2 x3 x5 x4))
def X8_triedAhead_j49  (σ : SS) (r0 : Nat) (x1 : Int32) (x2 : Int32) (x3 : Int32) (x4 : Int32) (x5 : Int32) : Option ((Int32 × Int32) ⊕ (Int32)) :=
  X8_triedAhead_j54 σ r0 x1 x2 x3 x4 x5 1
def X8_triedAhead_j53  (σ : SS) (r0 : Nat) (x1 : Int32) (x2 : Int32) (x3 : Int32) (x4 : Int32) (x5 : Int32) : Option ((Int32 × Int32) ⊕ (Int32)) :=
  X8_triedAhead_j54 σ r0 x1 x2 x3 x4 x5 0
def X8_triedAhead_l13c  (σ : SS) (r0 : Nat) (x1 : Int32) (x2 : Int32) (x3 : Int32) (x4 : Int32) (x5 : Int32) : Option ((Int32 × Int32) ⊕ (Int32)) :=
  (X0_leadCount σ r0).bind fun v16 =>
  if v16 ≤ x5 then (some (Sum.inr x4)) else
  ((X0_number σ r0 5 x5).bind fun v26 =>
    if x3 < v26 then (X8_triedAhead_j49 σ r0 x1 x2 x3 x4 x5) else
    (if v26 = x3 then (if x2 ≤ x5 then (X8_triedAhead_j53 σ r0 x1 x2 x3 x4 x5) else
        (X8_triedAhead_j49 σ r0 x1 x2 x3 x4 x5)) else
      (X8_triedAhead_j53 σ r0 x1 x2 x3 x4 x5)))
def X8_triedAhead_l13b  (σ : SS) (r0 : Nat) (x1 : Int32) (x2 : Int32) (x3 : Int32) : (Int32 × Int32) → Option ((Int32 × Int32) ⊕ (Int32)) := fun ss => X8_triedAhead_l13c  σ r0 x1 x2 x3 ss.1 ss.2
def X8_triedAhead_l13  (σ : SS) (r0 : Nat) (x1 : Int32) (x2 : Int32) (x3 : Int32) (x4 : Int32) (x5 : Int32) : Option (Int32) :=
  (iter (X8_triedAhead_l13b  σ r0 x1 x2 x3) NF (x4, x5)).bind fun t13 =>
  some t13
def X8_triedAhead_j0  (σ : SS) (r0 : Nat) (x1 : Int32) (x2 : Int32) : Option (Int32) :=
  (X0_number σ r0 5 x2).bind fun v3 =>
  X8_triedAhead_l13 σ r0 x1 x2 v3 0 0
def X8_triedAhead  (σ : SS) (r0 : Nat) (x1 : Int32) (x2 : Int32) : Option (Int32) := X8_triedAhead_j0  σ r0 x1 x2
def X8_triesTogether_j44  (σ : SS) (r1 : Nat) (x2 : Int32) (x3 : Int32) (x4 : Int32) : Option ((Int32 × Int32) ⊕ (Int32)) :=
  (some (x4 + 1)).bind fun x4_44 =>
  some (Sum.inl (x3, x4_44))
def X8_triesTogether_l5c  (σ : SS) (r1 : Nat) (x2 : Int32) (x3 : Int32) (x4 : Int32) : Option ((Int32 × Int32) ⊕ (Int32)) :=
  (X0_leadCount σ r1).bind fun v8 =>
  if v8 ≤ x4 then (some (Sum.inr x3)) else
  (if ((x2 >>> (x4 &&& 31)) &&& 1) = 1 then ((X0_number σ r1 5 x4).bind fun v29 =>
      (X8_triedAhead σ r1 x2 x4).bind fun v36 =>
      (some (x3 + (v29 * (v36 + 1)))).bind fun x3_43 =>
      X8_triesTogether_j44 σ r1 x2 x3_43 x4) else
    (X8_triesTogether_j44 σ r1 x2 x3 x4))
def X8_triesTogether_l5b  (σ : SS) (r1 : Nat) (x2 : Int32) : (Int32 × Int32) → Option ((Int32 × Int32) ⊕ (Int32)) := fun ss => X8_triesTogether_l5c  σ r1 x2 ss.1 ss.2
def X8_triesTogether_l5  (σ : SS) (r1 : Nat) (x2 : Int32) (x3 : Int32) (x4 : Int32) : Option (Int32) :=
  (iter (X8_triesTogether_l5b  σ r1 x2) NF (x3, x4)).bind fun t5 =>
  some t5
def X8_triesTogether_j0  (σ : SS) (r1 : Nat) (x2 : Int32) : Option (Int32) :=
  X8_triesTogether_l5 σ r1 x2 0 0
def X8_triesTogether  (σ : SS) (r1 : Nat) (x2 : Int32) : Option (Int32) := X8_triesTogether_j0  σ r1 x2
def X8_triedAt_j36  (σ : SS) (r1 : Nat) (x2 : Int32) (x3 : Int32) (x4 : Int32) : Option ((Int32) ⊕ ((Int32) ⊕ (Unit))) :=
  (some (x4 + 1)).bind fun x4_36 =>
  some (Sum.inl x4_36)
def X8_triedAt_l3c  (σ : SS) (r1 : Nat) (x2 : Int32) (x3 : Int32) (x4 : Int32) : Option ((Int32) ⊕ ((Int32) ⊕ (Unit))) :=
  (X0_leadCount σ r1).bind fun v6 =>
  if v6 ≤ x4 then (some (Sum.inr (Sum.inr ()))) else
  (if ((x2 >>> (x4 &&& 31)) &&& 1) = 1 then ((X8_triedAhead σ r1 x2 x4).bind fun v26 =>
      if v26 = x3 then (some (Sum.inr (Sum.inl x4))) else
      (X8_triedAt_j36 σ r1 x2 x3 x4)) else
    (X8_triedAt_j36 σ r1 x2 x3 x4))
def X8_triedAt_l3b  (σ : SS) (r1 : Nat) (x2 : Int32) (x3 : Int32) : (Int32) → Option ((Int32) ⊕ ((Int32) ⊕ (Unit))) := fun ss => X8_triedAt_l3c  σ r1 x2 x3 ss
def X8_triedAt_l3  (σ : SS) (r1 : Nat) (x2 : Int32) (x3 : Int32) (x4 : Int32) : Option (Int32) :=
  (iter (X8_triedAt_l3b  σ r1 x2 x3) NF x4).bind fun t3 => match t3 with
  | Sum.inl e33 => some e33
  | Sum.inr u33 => (some (-1))
def X8_triedAt_j0  (σ : SS) (r1 : Nat) (x2 : Int32) (x3 : Int32) : Option (Int32) :=
  X8_triedAt_l3 σ r1 x2 x3 0
def X8_triedAt  (σ : SS) (r1 : Nat) (x2 : Int32) (x3 : Int32) : Option (Int32) := X8_triedAt_j0  σ r1 x2 x3
def X8_longest_j31  (σ : SS) (r1 : Nat) (x3 : Int32) (s0 : Int32) (s1 : Int32) : Option ((Int32 × Int32) ⊕ (Int32)) :=
  (some (imax s0 s1)).bind fun x2_34 =>
  (some (x3 + 1)).bind fun x3_35 =>
  some (Sum.inl (x2_34, x3_35))
def X8_longest_l4c  (σ : SS) (r1 : Nat)  (x2 : Int32) (x3 : Int32) : Option ((Int32 × Int32) ⊕ (Int32)) :=
  (X0_leadCount σ r1).bind fun v6 =>
  if v6 ≤ x3 then (some (Sum.inr x2)) else
  ((X0_isIn σ r1 x3).bind fun v15 =>
    if v15 = 0 then (X8_longest_j31 σ r1 x3 x2 0) else
    ((X0_number σ r1 0 x3).bind fun v24 =>
      X8_longest_j31 σ r1 x3 x2 v24))
def X8_longest_l4b  (σ : SS) (r1 : Nat)  : (Int32 × Int32) → Option ((Int32 × Int32) ⊕ (Int32)) := fun ss => X8_longest_l4c  σ r1  ss.1 ss.2
def X8_longest_l4  (σ : SS) (r1 : Nat) (x2 : Int32) (x3 : Int32) : Option (Int32) :=
  (iter (X8_longest_l4b  σ r1 ) NF (x2, x3)).bind fun t4 =>
  some t4
def X8_longest_j0  (σ : SS) (r1 : Nat)  : Option (Int32) :=
  X8_longest_l4 σ r1 0 0
def X8_longest  (σ : SS) (r1 : Nat)  : Option (Int32) := X8_longest_j0  σ r1 
def X8_leastFilled_j105  (σ : SS) (r1 : Nat) (x2 : Int32) (x3 : Int32) (x4 : Int32) (x5 : Int32) : Option ((Int32 × Int32) ⊕ (Int32)) :=
  (some (x5 + 1)).bind fun x5_105 =>
  some (Sum.inl (x4, x5_105))
def X8_leastFilled_j100  (σ : SS) (r1 : Nat) (x2 : Int32) (x3 : Int32) (x5 : Int32) (s0 : Int32) (s1 : Int32) : Option ((Int32 × Int32) ⊕ (Int32)) :=
  (some (imin s0 s1)).bind fun x4_103 =>
  X8_leastFilled_j105 σ r1 x2 x3 x4_103 x5
def X8_leastFilled_j70  (σ : SS) (r1 : Nat) (x2 : Int32) (x3 : Int32) (x4 : Int32) (x5 : Int32) (x6 : Int32) (x7 : Int32) (s0 : Int32) : Option ((Int32 × Int32) ⊕ (Int32)) :=
  X8_leastFilled_j100 σ r1 x2 x3 x5 x4 (if s0 = 0 then ((((x6 >>> (7 &&& 31)) + 1) <<< (7 &&& 31)) + x7) else (x6 + x7))
def X8_leastFilled_l7c  (σ : SS) (r1 : Nat) (x2 : Int32) (x3 : Int32) (x4 : Int32) (x5 : Int32) : Option ((Int32 × Int32) ⊕ (Int32)) :=
  (X0_leadCount σ r1).bind fun v10 =>
  if v10 ≤ x5 then (some (Sum.inr x4)) else
  (if ((x2 >>> (x5 &&& 31)) &&& 1) = 1 then ((X4_at σ 27 0 (x2 &&& ((1 <<< (x5 &&& 31)) ^^^ (-1)))).bind fun v39 =>
      (X0_number σ r1 0 x5).bind fun v48 =>
      X8_leastFilled_j70 σ r1 x2 x3 x4 x5 v39 v48 (if x3 < ((v39 &&& 127) + v48) then 0 else 1)) else
    (X8_leastFilled_j105 σ r1 x2 x3 x4 x5))
def X8_leastFilled_l7b  (σ : SS) (r1 : Nat) (x2 : Int32) (x3 : Int32) : (Int32 × Int32) → Option ((Int32 × Int32) ⊕ (Int32)) := fun ss => X8_leastFilled_l7c  σ r1 x2 x3 ss.1 ss.2
def X8_leastFilled_l7  (σ : SS) (r1 : Nat) (x2 : Int32) (x3 : Int32) (x4 : Int32) (x5 : Int32) : Option (Int32) :=
  (iter (X8_leastFilled_l7b  σ r1 x2 x3) NF (x4, x5)).bind fun t7 =>
  some t7
def X8_leastFilled_j0  (σ : SS) (r1 : Nat) (x2 : Int32) (x3 : Int32) : Option (Int32) :=
  X8_leastFilled_l7 σ r1 x2 x3 1073741824 0
def X8_leastFilled  (σ : SS) (r1 : Nat) (x2 : Int32) (x3 : Int32) : Option (Int32) := X8_leastFilled_j0  σ r1 x2 x3
def X8_fewestBoxes_j51  (σ : SS) (r1 : Nat) (x2 : Int32) (x3 : Int32) (x4 : Int32) : Option ((Int32 × SS) ⊕ (SS)) :=
  (some (x4 + 1)).bind fun x4_51 =>
  some (Sum.inl (x4_51, σ))
def X8_fewestBoxes_l18c  (σ : SS) (r1 : Nat) (x2 : Int32) (x3 : Int32) (x4 : Int32) : Option ((Int32 × SS) ⊕ (SS)) :=
  if x3 < x4 then (some (Sum.inr σ)) else
  (if (x4 &&& (x3 ^^^ (-1))) = 0 then ((X8_leastFilled σ r1 x4 x2).bind fun v45 =>
      (X4_put σ 27 0 x4 v45).bind fun σ48 =>
      X8_fewestBoxes_j51 σ48 r1 x2 x3 x4) else
    (X8_fewestBoxes_j51 σ r1 x2 x3 x4))
def X8_fewestBoxes_l18b   (r1 : Nat) (x2 : Int32) (x3 : Int32) : (Int32 × SS) → Option ((Int32 × SS) ⊕ (SS)) := fun ss => X8_fewestBoxes_l18c  ss.2 r1 x2 x3 ss.1
def X8_fewestBoxes_l18  (σ : SS) (r1 : Nat) (x2 : Int32) (x3 : Int32) (x4 : Int32) : Option (Int32 × SS) :=
  (iter (X8_fewestBoxes_l18b   r1 x2 x3) NF (x4, σ)).bind fun t18 =>
  (X4_at t18 27 0 x3).bind fun v63 =>
    some ((v63 >>> (7 &&& 31)), t18)
def X8_fewestBoxes_j0  (σ : SS) (r1 : Nat) (x2 : Int32) : Option (Int32 × SS) :=
  (X0_insideSet σ r1).bind fun v1 =>
  (X4_put σ 27 0 0 x2).bind fun σ12 =>
  X8_fewestBoxes_l18 σ12 r1 x2 v1 1
def X8_fewestBoxes  (σ : SS) (r1 : Nat) (x2 : Int32) : Option (Int32 × SS) := X8_fewestBoxes_j0  σ r1 x2
def X8_thrown_j77  (σ : SS) (r1 : Nat) (x2 : Int32) (x4 : Int32) (s0 : Int32) (s1 : Int32) : Option ((Int32 × Int32) ⊕ (Int32)) :=
  (some (s0 ||| s1)).bind fun x3_78 =>
  (some (x4 + 1)).bind fun x4_79 =>
  some (Sum.inl (x3_78, x4_79))
def X8_thrown_j61  (σ : SS) (r1 : Nat) (x2 : Int32) (x3 : Int32) (x4 : Int32) (s0 : Int32) : Option ((Int32 × Int32) ⊕ (Int32)) :=
  X8_thrown_j77 σ r1 x2 x4 x3 (if s0 = 0 then 0 else (1 <<< (x4 &&& 31)))
def X8_thrown_j60  (σ : SS) (r1 : Nat) (x2 : Int32) (x3 : Int32) (x4 : Int32) : Option ((Int32 × Int32) ⊕ (Int32)) :=
  X8_thrown_j61 σ r1 x2 x3 x4 0
def X8_thrown_l5c  (σ : SS) (r1 : Nat) (x2 : Int32) (x3 : Int32) (x4 : Int32) : Option ((Int32 × Int32) ⊕ (Int32)) :=
  (X0_leadCount σ r1).bind fun v8 =>
  if v8 ≤ x4 then (some (Sum.inr x3)) else
  ((X0_number σ r1 4 x4).bind fun v18 =>
    (X0_number σ r1 5 x4).bind fun v25 =>
    (some (v18 * v25)).bind fun x5_29 =>
    (X0_isIn σ r1 x4).bind fun v34 =>
    if v34 = 0 then (X8_thrown_j60 σ r1 x2 x3 x4) else
    ((X0_countOn σ r1 x4).bind fun v49 =>
      if ((16 * x2) * v49) ≤ x5_29 then (X8_thrown_j60 σ r1 x2 x3 x4) else
      (X8_thrown_j61 σ r1 x2 x3 x4 1)))
def X8_thrown_l5b  (σ : SS) (r1 : Nat) (x2 : Int32) : (Int32 × Int32) → Option ((Int32 × Int32) ⊕ (Int32)) := fun ss => X8_thrown_l5c  σ r1 x2 ss.1 ss.2
def X8_thrown_l5  (σ : SS) (r1 : Nat) (x2 : Int32) (x3 : Int32) (x4 : Int32) : Option (Int32) :=
  (iter (X8_thrown_l5b  σ r1 x2) NF (x3, x4)).bind fun t5 =>
  some t5
def X8_thrown_j0  (σ : SS) (r1 : Nat) (x2 : Int32) : Option (Int32) :=
  X8_thrown_l5 σ r1 x2 0 0
def X8_thrown  (σ : SS) (r1 : Nat) (x2 : Int32) : Option (Int32) := X8_thrown_j0  σ r1 x2
def X9_isThere_j0  (σ : SS) (t : Nat)  : Option (Int32) :=
  (zb (σ.1 8 t 1)).bind fun b4 =>
  some (σ.1 8 t 1)
def X9_isThere  (σ : SS) (t : Nat)  : Option (Int32) := X9_isThere_j0  σ t 
def X9_setThere_j0  (σ : SS) (t : Nat)  : Option (SS) :=
  (some (wI σ 8 t 1 1)).bind fun σ2 =>
  some σ2
def X9_setThere  (σ : SS) (t : Nat)  : Option (SS) := X9_setThere_j0  σ t 
def X9_stepCount_j0  (σ : SS) (t : Nat)  : Option (Int32) :=
  some (σ.1 8 t 3)
def X9_stepCount  (σ : SS) (t : Nat)  : Option (Int32) := X9_stepCount_j0  σ t 
def X9_isFull_j0  (σ : SS) (t : Nat)  : Option (Int32) :=
  if (σ.1 8 t 3) < 30 then (some 0) else
  (some 1)
def X9_isFull  (σ : SS) (t : Nat)  : Option (Int32) := X9_isFull_j0  σ t 
def X9_addStep_j0  (σ : SS) (t : Nat) (x1 : Int32) (x2 : Int32) (x3 : Int32) : Option (SS) :=
  (X4_put σ (4 * t) 0 (σ.1 8 t 2) x1).bind fun σ10 =>
  (X4_put σ10 (4 * t) 1 (σ10.1 8 t 2) x2).bind fun σ23 =>
  (X4_put σ23 (4 * t) 2 (σ23.1 8 t 2) x3).bind fun σ36 =>
  (X4_put σ36 (4 * t) 3 (σ36.1 8 t 2) (-1)).bind fun σ49 =>
  (some (wI σ49 8 t 2 ((σ49.1 8 t 2) + 1))).bind fun σ59 =>
  (some (wI σ59 8 t 3 ((σ59.1 8 t 3) + 1))).bind fun σ69 =>
  some σ69
def X9_addStep  (σ : SS) (t : Nat) (x1 : Int32) (x2 : Int32) (x3 : Int32) : Option (SS) := X9_addStep_j0  σ t x1 x2 x3
def X9_addEnd_j0  (σ : SS) (t : Nat) (x1 : Int32) : Option (SS) :=
  (X4_put σ (4 * t) 0 (σ.1 8 t 2) 22).bind fun σ11 =>
  (X4_put σ11 (4 * t) 3 (σ11.1 8 t 2) x1).bind fun σ24 =>
  (X4_put σ24 (4 * t) 3 x1 (σ24.1 8 t 2)).bind fun σ37 =>
  (some (wI σ37 8 t 2 ((σ37.1 8 t 2) + 1))).bind fun σ47 =>
  some σ47
def X9_addEnd  (σ : SS) (t : Nat) (x1 : Int32) : Option (SS) := X9_addEnd_j0  σ t x1
def X10_endLine_j0  (σ : SS) (r1 : Nat)  : Option (Int32 × SS) :=
  if (σ.1 9 0 2) = 0 then ((X5_fail σ 2).bind fun p12 =>
    (zb p12.1).bind fun b15 =>
    some (p12.1, p12.2)) else
  ((X5_next σ ).bind fun σ20 =>
    (some (wI σ20 9 0 2 ((σ20.1 9 0 2) - 1))).bind fun σ30 =>
    (X4_at σ30 21 0 (σ30.1 9 0 2)).bind fun v43 =>
    (X9_addEnd σ30 r1 v43).bind fun σ46 =>
    (X5_passSign σ46 59).bind fun p55 =>
    (zb p55.1).bind fun b58 =>
    some (p55.1, p55.2))
def X10_endLine  (σ : SS) (r1 : Nat)  : Option (Int32 × SS) := X10_endLine_j0  σ r1 
def X10_namesLead_j24  (σ : SS)   : Option (Int32) :=
  some 1
def X10_namesLead_j0  (σ : SS)  (x0 : Int32) : Option (Int32) :=
  if x0 = 13 then (X10_namesLead_j24 σ) else
  (if x0 = 15 then (X10_namesLead_j24 σ) else
    (if x0 = 17 then (X10_namesLead_j24 σ) else
      (if x0 = 6 then (X10_namesLead_j24 σ) else
        (some 0))))
def X10_namesLead  (σ : SS)  (x0 : Int32) : Option (Int32) := X10_namesLead_j0  σ  x0
def X10_isPlainStep_j25  (σ : SS)   : Option (Int32) :=
  some 1
def X10_isPlainStep_j0  (σ : SS)  (x0 : Int32) : Option (Int32) :=
  if x0 = 12 then (X10_isPlainStep_j25 σ) else
  (if x0 = 14 then (X10_isPlainStep_j25 σ) else
    (if x0 = 23 then (X10_isPlainStep_j25 σ) else
      ((X10_namesLead σ x0).bind fun v19 =>
        if v19 = 0 then (some 0) else
        (X10_isPlainStep_j25 σ))))
def X10_isPlainStep  (σ : SS)  (x0 : Int32) : Option (Int32) := X10_isPlainStep_j0  σ  x0
def X10_passLead_j0  (σ : SS) (r1 : Nat)  : Option (Int32 × SS) :=
  (X5_nameStands σ ).bind fun v4 =>
  if v4 = 0 then ((X5_fail σ 2).bind fun p15 =>
    some ((-1), p15.2)) else
  ((X5_name σ ).bind fun v26 =>
    (X0_leadNamed σ r1 v26).bind fun v29 =>
    if v29 = (-1) then ((X5_fail σ 3).bind fun p43 =>
      some ((-1), p43.2)) else
    ((X5_next σ ).bind fun σ53 =>
      some (v29, σ53)))
def X10_passLead  (σ : SS) (r1 : Nat)  : Option (Int32 × SS) := X10_passLead_j0  σ r1 
def X10_testStep_j138  (σ : SS) (r1 : Nat) (r2 : Nat) (x3 : Int32) (x4 : Int32) (s0 : Int32) : Option (Int32 × SS) :=
  (X9_addStep σ r2 x3 s0 x4).bind fun σ146 =>
  if s0 = (-1) then (some (0, σ146)) else
  (some (1, σ146))
def X10_testStep_j135  (σ : SS) (r1 : Nat) (r2 : Nat) (x3 : Int32) (x4 : Int32) (s1 : Int32) (s2 : Int32) : Option (Int32 × SS) :=
  (X5_passNumber σ s1 s2).bind fun p135 =>
  X10_testStep_j138 p135.2 r1 r2 x3 x4 p135.1
def X10_testStep_j103  (σ : SS) (r1 : Nat) (r2 : Nat) (x3 : Int32) (x4 : Int32) : Option (Int32 × SS) :=
  if x3 = 20 then ((X10_passLead σ r1).bind fun p111 =>
    X10_testStep_j138 p111.2 r1 r2 x3 x4 p111.1) else
  (X10_testStep_j135 σ r1 r2 x3 x4 0 (if x3 = 19 then 8 else 24))
def X10_testStep_j87  (σ : SS) (r1 : Nat) (r2 : Nat) (x3 : Int32) (s0 : Int32) : Option (Int32 × SS) :=
  (X5_passSign σ s0).bind fun p95 =>
  if p95.1 = 0 then (some (0, p95.2)) else
  (X10_testStep_j103 p95.2 r1 r2 x3 s0)
def X10_testStep_j35  (σ : SS) (r1 : Nat) (r2 : Nat) (x3 : Int32) : Option (Int32 × SS) :=
  (X5_next σ ).bind fun σ39 =>
  if x3 = 20 then (X10_testStep_j103 σ39 r1 r2 x3 0) else
  ((X5_signIs σ39 60).bind fun v57 =>
    if v57 = 0 then ((X5_signIs σ39 62).bind fun v74 =>
      X10_testStep_j87 σ39 r1 r2 x3 (if v74 = 0 then 61 else 62)) else
    (X10_testStep_j87 σ39 r1 r2 x3 60))
def X10_testStep_j0  (σ : SS) (r1 : Nat) (r2 : Nat)  : Option (Int32 × SS) :=
  (X5_word σ ).bind fun v4 =>
  if v4 = 19 then (X10_testStep_j35 σ r1 r2 v4) else
  (if v4 = 7 then (X10_testStep_j35 σ r1 r2 v4) else
    (if v4 = 20 then (X10_testStep_j35 σ r1 r2 v4) else
      ((X5_fail σ 2).bind fun p31 =>
        (zb p31.1).bind fun b34 =>
        some (p31.1, p31.2))))
def X10_testStep  (σ : SS) (r1 : Nat) (r2 : Nat)  : Option (Int32 × SS) := X10_testStep_j0  σ r1 r2 
def X10_wholeStep_j53  (σ : SS) (r2 : Nat) (r3 : Nat) (x1 : Int32) (s0 : Int32) : Option (Int32 × SS) :=
  (X9_addStep σ r3 x1 s0 0).bind fun σ60 =>
  if s0 = (-1) then (some (0, σ60)) else
  (some (1, σ60))
def X10_wholeStep_j17  (σ : SS) (r2 : Nat) (r3 : Nat) (x1 : Int32) (s0 : Int32) : Option (Int32 × SS) :=
  if s0 = 0 then ((X10_namesLead σ x1).bind fun v38 =>
    if v38 = 0 then (X10_wholeStep_j53 σ r2 r3 x1 0) else
    ((X10_passLead σ r2).bind fun p46 =>
      X10_wholeStep_j53 p46.2 r2 r3 x1 p46.1)) else
  ((X5_passNumber σ 1 99).bind fun p31 =>
    X10_wholeStep_j53 p31.2 r2 r3 x1 p31.1)
def X10_wholeStep_j12  (σ : SS) (r2 : Nat) (r3 : Nat) (x1 : Int32) : Option (Int32 × SS) :=
  X10_wholeStep_j17 σ r2 r3 x1 1
def X10_wholeStep_j0  (σ : SS) (r2 : Nat) (r3 : Nat) (x1 : Int32) : Option (Int32 × SS) :=
  if x1 = 12 then (X10_wholeStep_j12 σ r2 r3 x1) else
  (if x1 = 21 then (X10_wholeStep_j12 σ r2 r3 x1) else
    (X10_wholeStep_j17 σ r2 r3 x1 0))
def X10_wholeStep  (σ : SS) (r2 : Nat) (r3 : Nat) (x1 : Int32) : Option (Int32 × SS) := X10_wholeStep_j0  σ r2 r3 x1
def X10_stepLine_j154  (σ : SS) (r1 : Nat) (r2 : Nat)  : Option (Int32 × SS) :=
  (X5_passSign σ 59).bind fun p160 =>
  if p160.1 = 0 then (some (0, p160.2)) else
  (some (1, p160.2))
def X10_stepLine_j126  (σ : SS) (r1 : Nat) (r2 : Nat) (x3 : Int32) : Option (Int32 × SS) :=
  if x3 = 18 then ((X10_testStep σ r1 r2).bind fun p135 =>
    if p135.1 = 0 then (some (0, p135.2)) else
    (X10_stepLine_j154 p135.2 r1 r2)) else
  ((X10_wholeStep σ r1 r2 x3).bind fun p148 =>
    if p148.1 = 0 then (some (0, p148.2)) else
    (X10_stepLine_j154 p148.2 r1 r2))
def X10_stepLine_j88  (σ : SS) (r1 : Nat) (r2 : Nat) (x3 : Int32) (x4 : Int32) : Option (Int32 × SS) :=
  (X5_next σ ).bind fun σ92 =>
  if x4 = 0 then (X10_stepLine_j126 σ92 r1 r2 x3) else
  ((X9_lineCount σ92 r2).bind fun v110 =>
    (X4_put σ92 21 0 (σ92.1 9 0 2) v110).bind fun σ113 =>
    (some (wI σ113 9 0 2 ((σ113.1 9 0 2) + 1))).bind fun σ123 =>
    X10_stepLine_j126 σ123 r1 r2 x3)
def X10_stepLine_j48  (σ : SS) (r1 : Nat) (r2 : Nat) (x3 : Int32) (x4 : Int32) : Option (Int32 × SS) :=
  (X9_isFull σ r2).bind fun v49 =>
  if v49 = 0 then (if x4 = 0 then (X10_stepLine_j88 σ r1 r2 x3 x4) else
    (if (σ.1 9 0 2) < 3 then (X10_stepLine_j88 σ r1 r2 x3 x4) else
      ((X5_fail σ 7).bind fun p84 =>
        (zb p84.1).bind fun b87 =>
        some (p84.1, p84.2)))) else
  ((X5_fail σ 6).bind fun p61 =>
    (zb p61.1).bind fun b64 =>
    some (p61.1, p61.2))
def X10_stepLine_j25  (σ : SS) (r1 : Nat) (r2 : Nat) (x3 : Int32) (s0 : Int32) : Option (Int32 × SS) :=
  if s0 = 0 then ((X10_isPlainStep σ x3).bind fun v33 =>
    if v33 = 0 then ((X5_fail σ 2).bind fun p44 =>
      (zb p44.1).bind fun b47 =>
      some (p44.1, p44.2)) else
    (X10_stepLine_j48 σ r1 r2 x3 s0)) else
  (X10_stepLine_j48 σ r1 r2 x3 s0)
def X10_stepLine_j20  (σ : SS) (r1 : Nat) (r2 : Nat) (x3 : Int32) : Option (Int32 × SS) :=
  X10_stepLine_j25 σ r1 r2 x3 1
def X10_stepLine_j0  (σ : SS) (r1 : Nat) (r2 : Nat)  : Option (Int32 × SS) :=
  (X5_word σ ).bind fun v4 =>
  if v4 = 18 then (X10_stepLine_j20 σ r1 r2 v4) else
  (if v4 = 21 then (X10_stepLine_j20 σ r1 r2 v4) else
    (X10_stepLine_j25 σ r1 r2 v4 0))
def X10_stepLine  (σ : SS) (r1 : Nat) (r2 : Nat)  : Option (Int32 × SS) := X10_stepLine_j0  σ r1 r2 
def X10_isGood_j66  (σ : SS) (r1 : Nat) (r2 : Nat) (x4 : Int32) (s0 : Int32) : Option ((Int32 × Int32 × SS) ⊕ (Int32 × SS)) :=
  (some (x4 + 1)).bind fun x4_67 =>
  some (Sum.inl (s0, x4_67, σ))
def X10_isGood_l18c  (σ : SS) (r1 : Nat) (r2 : Nat)  (x3 : Int32) (x4 : Int32) : Option ((Int32 × Int32 × SS) ⊕ (Int32 × SS)) :=
  if 900 < x4 then (some (Sum.inr (x3, σ))) else
  (if x3 = 0 then (some (Sum.inr (x3, σ))) else
    ((X5_atEnd σ ).bind fun v34 =>
      if v34 = 0 then ((X5_wordIs σ 22).bind fun v46 =>
        if v46 = 0 then ((X10_stepLine σ r1 r2).bind fun p63 =>
          X10_isGood_j66 p63.2 r1 r2 x4 p63.1) else
        ((X10_endLine σ r2).bind fun p54 =>
          X10_isGood_j66 p54.2 r1 r2 x4 p54.1)) else
      (some (Sum.inr (x3, σ)))))
def X10_isGood_l18b   (r1 : Nat) (r2 : Nat)  : (Int32 × Int32 × SS) → Option ((Int32 × Int32 × SS) ⊕ (Int32 × SS)) := fun ss => X10_isGood_l18c  ss.2.2 r1 r2  ss.1 ss.2.1
def X10_isGood_j95  (σ : SS) (r1 : Nat) (r2 : Nat)  : Option (Int32 × SS) :=
  some (1, σ)
def X10_isGood_j73  (σ : SS) (r1 : Nat) (r2 : Nat) (x3 : Int32) : Option (Int32 × SS) :=
  if x3 = 0 then (some (0, σ)) else
  (if (σ.1 9 0 2) = 0 then (X10_isGood_j95 σ r1 r2) else
    ((X5_fail σ 2).bind fun p89 =>
      if p89.1 = 0 then (some (0, p89.2)) else
      (X10_isGood_j95 p89.2 r1 r2)))
def X10_isGood_l18  (σ : SS) (r1 : Nat) (r2 : Nat) (x3 : Int32) (x4 : Int32) : Option (Int32 × SS) :=
  (iter (X10_isGood_l18b   r1 r2 ) NF (x3, x4, σ)).bind fun t18 =>
  X10_isGood_j73 t18.2 r1 r2 t18.1
def X10_isGood_j0  (σ : SS) (r1 : Nat) (r2 : Nat)  : Option (Int32 × SS) :=
  (X9_clear σ r2).bind fun σ1 =>
  (X9_setThere σ1 r2).bind fun σ5 =>
  (some (wI σ5 9 0 2 0)).bind fun σ10 =>
  X10_isGood_l18 σ10 r1 r2 1 0
def X10_isGood  (σ : SS) (r1 : Nat) (r2 : Nat)  : Option (Int32 × SS) := X10_isGood_j0  σ r1 r2 
def X11_status_j0  (σ : SS)   : Option (Int32) :=
  some (σ.1 10 0 11)
def X11_status  (σ : SS)   : Option (Int32) := X11_status_j0  σ  
def X11_top_j0  (σ : SS)   : Option (Int64) :=
  some (σ.2 10 0 12)
def X11_top  (σ : SS)   : Option (Int64) := X11_top_j0  σ  
def X11_bottom_j0  (σ : SS)   : Option (Int64) :=
  some (σ.2 10 0 13)
def X11_bottom  (σ : SS)   : Option (Int64) := X11_bottom_j0  σ  
def X11_answers_j0  (σ : SS)  (x1 : Int32) : Option (Int32 × SS) :=
  (some (wI σ 10 0 11 x1)).bind fun σ2 =>
  if x1 = 0 then (some (1, σ2)) else
  (some (0, σ2))
def X11_answers  (σ : SS)  (x1 : Int32) : Option (Int32 × SS) := X11_answers_j0  σ  x1
def X11_tray_j47  (σ : SS)  (x1 : Int32) (x2 : Int32) (x3 : Int32) (s1 : Int32) : Option (Int32 × SS) :=
  (X11_answers σ s1).bind fun p47 =>
  if p47.1 = 0 then (some (0, p47.2)) else
  ((X6_lay p47.2 x1 x2 x3).bind fun p60 =>
    if p60.1 = 0 then (some (0, p60.2)) else
    (some (1, p60.2)))
def X11_tray_j23  (σ : SS)  (x1 : Int32) (x2 : Int32) (x3 : Int32) : Option (Int32 × SS) :=
  X11_tray_j47 σ x1 x2 x3 1
def X11_tray_j0  (σ : SS)  (x1 : Int32) (x2 : Int32) (x3 : Int32) : Option (Int32 × SS) :=
  (X6_isNumber σ x1).bind fun v6 =>
  if v6 = 0 then (X11_tray_j23 σ x1 x2 x3) else
  ((X6_isSort σ x2).bind fun v17 =>
    if v17 = 0 then (X11_tray_j23 σ x1 x2 x3) else
    (X11_tray_j47 σ x1 x2 x3 (if x3 ≤ 60 then (if 0 ≤ x3 then 0 else 6) else 5)))
def X11_tray  (σ : SS)  (x1 : Int32) (x2 : Int32) (x3 : Int32) : Option (Int32 × SS) := X11_tray_j0  σ  x1 x2 x3
def X11_placeStatus_j0  (σ : SS)  (x1 : Int32) (x2 : Int32) : Option (Int32) :=
  (X6_isNumber σ x1).bind fun v5 =>
  if v5 = 0 then (some 1) else
  ((X6_isThere σ x1).bind fun v20 =>
    if v20 = 0 then (some 3) else
    ((X6_holds σ x1 x2 1).bind fun v37 =>
      if v37 = 0 then (some 4) else
      (some 0)))
def X11_placeStatus  (σ : SS)  (x1 : Int32) (x2 : Int32) : Option (Int32) := X11_placeStatus_j0  σ  x1 x2
def X11_write_j0  (σ : SS)  (x1 : Int32) (x2 : Int32) (y3 : Int64) : Option (Int32 × SS) :=
  (X11_placeStatus σ x1 x2).bind fun v4 =>
  (X11_answers σ v4).bind fun p7 =>
  if p7.1 = 0 then (some (0, p7.2)) else
  ((X6_put p7.2 x1 x2 y3).bind fun p20 =>
    if p20.1 = 0 then (some (0, p20.2)) else
    (some (1, p20.2)))
def X11_write  (σ : SS)  (x1 : Int32) (x2 : Int32) (y3 : Int64) : Option (Int32 × SS) := X11_write_j0  σ  x1 x2 y3
def X11_read_j0  (σ : SS)  (x1 : Int32) (x2 : Int32) : Option (Int64 × SS) :=
  (X11_placeStatus σ x1 x2).bind fun v4 =>
  (X11_answers σ v4).bind fun p7 =>
  if p7.1 = 0 then (some ((-1), p7.2)) else
  ((X6_at p7.2 x1 x2).bind fun v19 =>
    some (v19, p7.2))
def X11_read  (σ : SS)  (x1 : Int32) (x2 : Int32) : Option (Int64 × SS) := X11_read_j0  σ  x1 x2
def X11_pour_j114  (σ : SS)  (x1 : Int32) (x2 : Int32) (x3 : Int32) (x4 : Int32) (x5 : Int32) (s1 : Int32) : Option (Int32 × SS) :=
  (X11_answers σ s1).bind fun p114 =>
  if p114.1 = 0 then (some (0, p114.2)) else
  ((X6_move p114.2 x1 x2 x3 x4 x5).bind fun p131 =>
    if p131.1 = 0 then (some (0, p131.2)) else
    (some (1, p131.2)))
def X11_pour_j23  (σ : SS)  (x1 : Int32) (x2 : Int32) (x3 : Int32) (x4 : Int32) (x5 : Int32) : Option (Int32 × SS) :=
  X11_pour_j114 σ x1 x2 x3 x4 x5 1
def X11_pour_j49  (σ : SS)  (x1 : Int32) (x2 : Int32) (x3 : Int32) (x4 : Int32) (x5 : Int32) : Option (Int32 × SS) :=
  X11_pour_j114 σ x1 x2 x3 x4 x5 3
def X11_pour_j109  (σ : SS)  (x1 : Int32) (x2 : Int32) (x3 : Int32) (x4 : Int32) (x5 : Int32) : Option (Int32 × SS) :=
  X11_pour_j114 σ x1 x2 x3 x4 x5 4
def X11_pour_j0  (σ : SS)  (x1 : Int32) (x2 : Int32) (x3 : Int32) (x4 : Int32) (x5 : Int32) : Option (Int32 × SS) :=
  (X6_isNumber σ x1).bind fun v6 =>
  if v6 = 0 then (X11_pour_j23 σ x1 x2 x3 x4 x5) else
  ((X6_isNumber σ x3).bind fun v17 =>
    if v17 = 0 then (X11_pour_j23 σ x1 x2 x3 x4 x5) else
    ((X6_isThere σ x1).bind fun v32 =>
      if v32 = 0 then (X11_pour_j49 σ x1 x2 x3 x4 x5) else
      ((X6_isThere σ x3).bind fun v43 =>
        if v43 = 0 then (X11_pour_j49 σ x1 x2 x3 x4 x5) else
        ((X6_alike σ x1 x3).bind fun v59 =>
          if v59 = 0 then (X11_pour_j114 σ x1 x2 x3 x4 x5 11) else
          (if 0 ≤ x5 then ((X6_holds σ x1 x2 x5).bind fun v88 =>
              if v88 = 0 then (X11_pour_j109 σ x1 x2 x3 x4 x5) else
              ((X6_holds σ x3 x4 x5).bind fun v103 =>
                if v103 = 0 then (X11_pour_j109 σ x1 x2 x3 x4 x5) else
                (X11_pour_j114 σ x1 x2 x3 x4 x5 0))) else
            (X11_pour_j114 σ x1 x2 x3 x4 x5 6))))))
def X11_pour  (σ : SS)  (x1 : Int32) (x2 : Int32) (x3 : Int32) (x4 : Int32) (x5 : Int32) : Option (Int32 × SS) := X11_pour_j0  σ  x1 x2 x3 x4 x5
def X11_feed_j0  (σ : SS)  (x1 : Int32) (x2 : Int32) (x3 : Int32) (x4 : Int32) (x5 : Int32) : Option (Int32 × SS) :=
  (X5_hasRoom σ ).bind fun v4 =>
  if v4 = 0 then (some ((-1), σ)) else
  ((X5_append σ x1).bind fun p17 =>
    (X5_append p17.2 x2).bind fun p26 =>
    (X5_append p26.2 x3).bind fun p35 =>
    (X5_append p35.2 x4).bind fun p45 =>
    (X5_append p45.2 x5).bind fun p55 =>
    some (p55.1, p55.2))
def X11_feed  (σ : SS)  (x1 : Int32) (x2 : Int32) (x3 : Int32) (x4 : Int32) (x5 : Int32) : Option (Int32 × SS) := X11_feed_j0  σ  x1 x2 x3 x4 x5
def X11_drawer_j58  (σ : SS)  (s1 : Int32) : Option (Int32 × SS) :=
  (X11_answers σ s1).bind fun p58 =>
  if p58.1 = 0 then (some ((-1), p58.2)) else
  ((X0_takeOver p58.2 0 1).bind fun σ74 =>
    (X0_leadCount σ74 0).bind fun v81 =>
    some (v81, σ74))
def X11_drawer_j21  (σ : SS)  (x1 : Int32) (s1 : Int32) : Option (Int32 × SS) :=
  (X11_answers σ s1).bind fun p21 =>
  if p21.1 = 0 then (some ((-1), p21.2)) else
  ((X5_begin p21.2 x1).bind fun σ34 =>
    (X1_isGood σ34 1).bind fun p46 =>
    X11_drawer_j58 p46.2 (if p46.1 = 0 then 10 else 0))
def X11_drawer_j16  (σ : SS)  (x1 : Int32) : Option (Int32 × SS) :=
  X11_drawer_j21 σ x1 5
def X11_drawer_j0  (σ : SS)  (x1 : Int32) : Option (Int32 × SS) :=
  if x1 < 0 then (X11_drawer_j16 σ x1) else
  ((X5_fed σ ).bind fun v10 =>
    if x1 ≤ v10 then (X11_drawer_j21 σ x1 0) else
    (X11_drawer_j16 σ x1))
def X11_drawer  (σ : SS)  (x1 : Int32) : Option (Int32 × SS) := X11_drawer_j0  σ  x1
def X11_years_j72  (σ : SS)  (s1 : Int32) : Option (Int32 × SS) :=
  (X11_answers σ s1).bind fun p72 =>
  if p72.1 = 0 then (some ((-1), p72.2)) else
  ((X9_takeOver p72.2 0 1).bind fun σ94 =>
    (X9_stepCount σ94 0).bind fun v104 =>
    some (v104, σ94))
def X11_years_j28  (σ : SS)  (x1 : Int32) (s1 : Int32) : Option (Int32 × SS) :=
  (X11_answers σ s1).bind fun p28 =>
  if p28.1 = 0 then (some ((-1), p28.2)) else
  ((X5_begin p28.2 x1).bind fun σ41 =>
    (X10_isGood σ41 0 1).bind fun p60 =>
    X11_years_j72 p60.2 (if p60.1 = 0 then 10 else 0))
def X11_years_j23  (σ : SS)  (x1 : Int32) : Option (Int32 × SS) :=
  X11_years_j28 σ x1 5
def X11_years_j0  (σ : SS)  (x1 : Int32) : Option (Int32 × SS) :=
  if x1 < 0 then (X11_years_j23 σ x1) else
  ((X5_fed σ ).bind fun v10 =>
    if v10 < x1 then (X11_years_j23 σ x1) else
    (if x1 ≤ 300 then (X11_years_j28 σ x1 0) else
      (X11_years_j23 σ x1)))
def X11_years  (σ : SS)  (x1 : Int32) : Option (Int32 × SS) := X11_years_j0  σ  x1
def X11_fault_j0  (σ : SS)  (x1 : Int32) : Option (Int32) :=
  if x1 = 0 then ((X5_faultKind σ ).bind fun v8 =>
    some v8) else
  (if x1 = 1 then ((X5_faultPlace σ ).bind fun v23 =>
      some v23) else
    (some (-1)))
def X11_fault  (σ : SS)  (x1 : Int32) : Option (Int32) := X11_fault_j0  σ  x1
def X11_many_j16  (σ : SS)  (x1 : Int32) (s1 : Int32) : Option (Int32 × SS) :=
  (X11_answers σ s1).bind fun p16 =>
  if p16.1 = 0 then (some ((-1), p16.2)) else
  ((X0_total p16.2 0 x1).bind fun v27 =>
    some (v27, p16.2))
def X11_many_j11  (σ : SS)  (x1 : Int32) : Option (Int32 × SS) :=
  X11_many_j16 σ x1 5
def X11_many_j0  (σ : SS)  (x1 : Int32) : Option (Int32 × SS) :=
  if x1 < 0 then (X11_many_j11 σ x1) else
  (if x1 ≤ 7 then (X11_many_j16 σ x1 0) else
    (X11_many_j11 σ x1))
def X11_many  (σ : SS)  (x1 : Int32) : Option (Int32 × SS) := X11_many_j0  σ  x1
def X11_lead_j72  (σ : SS)  (x1 : Int32) (s1 : Int32) : Option (Int32 × SS) :=
  (X0_number σ 0 s1 x1).bind fun v73 =>
  some (v73, σ)
def X11_lead_j31  (σ : SS)  (x1 : Int32) (x2 : Int32) (s1 : Int32) : Option (Int32 × SS) :=
  (X11_answers σ s1).bind fun p31 =>
  if p31.1 = 0 then (some ((-1), p31.2)) else
  (if x2 = 6 then ((X0_countOn p31.2 0 x1).bind fun v50 =>
      some (v50, p31.2)) else
    (X11_lead_j72 p31.2 x1 (if x2 = 7 then 6 else x2)))
def X11_lead_j26  (σ : SS)  (x1 : Int32) (x2 : Int32) : Option (Int32 × SS) :=
  X11_lead_j31 σ x1 x2 5
def X11_lead_j0  (σ : SS)  (x1 : Int32) (x2 : Int32) : Option (Int32 × SS) :=
  (X0_has σ 0 x1).bind fun v6 =>
  if v6 = 0 then (X11_lead_j31 σ x1 x2 2) else
  (if x2 < 0 then (X11_lead_j26 σ x1 x2) else
    (if x2 ≤ 7 then (X11_lead_j31 σ x1 x2 0) else
      (X11_lead_j26 σ x1 x2)))
def X11_lead  (σ : SS)  (x1 : Int32) (x2 : Int32) : Option (Int32 × SS) := X11_lead_j0  σ  x1 x2
def X11_crossing_j35  (σ : SS)  (x1 : Int32) (x2 : Int32) (s1 : Int32) : Option (Int32 × SS) :=
  (X11_answers σ s1).bind fun p35 =>
  if p35.1 = 0 then (some ((-1), p35.2)) else
  ((X0_crossingAt p35.2 0 x2 x1).bind fun v47 =>
    some (v47, p35.2))
def X11_crossing_j10  (σ : SS)  (x1 : Int32) (x2 : Int32) : Option (Int32 × SS) :=
  X11_crossing_j35 σ x1 x2 5
def X11_crossing_j29  (σ : SS)  (x1 : Int32) (x2 : Int32) : Option (Int32 × SS) :=
  X11_crossing_j35 σ x1 x2 8
def X11_crossing_j0  (σ : SS)  (x1 : Int32) (x2 : Int32) : Option (Int32 × SS) :=
  if x2 < 0 then (X11_crossing_j10 σ x1 x2) else
  (if x2 ≤ 2 then (if x1 < 0 then (X11_crossing_j29 σ x1 x2) else
      ((X0_crossingCount σ 0).bind fun v23 =>
        if x1 < v23 then (X11_crossing_j35 σ x1 x2 0) else
        (X11_crossing_j29 σ x1 x2))) else
    (X11_crossing_j10 σ x1 x2))
def X11_crossing  (σ : SS)  (x1 : Int32) (x2 : Int32) : Option (Int32 × SS) := X11_crossing_j0  σ  x1 x2
def X11_along_j38  (σ : SS)  (x1 : Int32) (x2 : Int32) (s1 : Int32) : Option (Int32 × SS) :=
  (X11_answers σ s1).bind fun p38 =>
  if p38.1 = 0 then (some ((-1), p38.2)) else
  ((X0_crossingOn p38.2 0 x1 x2).bind fun v50 =>
    some (v50, p38.2))
def X11_along_j32  (σ : SS)  (x1 : Int32) (x2 : Int32) : Option (Int32 × SS) :=
  X11_along_j38 σ x1 x2 8
def X11_along_j0  (σ : SS)  (x1 : Int32) (x2 : Int32) : Option (Int32 × SS) :=
  (X0_has σ 0 x1).bind fun v6 =>
  if v6 = 0 then (X11_along_j38 σ x1 x2 2) else
  (if x2 < 0 then (X11_along_j32 σ x1 x2) else
    ((X0_countOn σ 0 x1).bind fun v26 =>
      if x2 < v26 then (X11_along_j38 σ x1 x2 0) else
      (X11_along_j32 σ x1 x2)))
def X11_along  (σ : SS)  (x1 : Int32) (x2 : Int32) : Option (Int32 × SS) := X11_along_j0  σ  x1 x2
def X11_look_j17  (σ : SS)  (x1 : Int32) (s1 : Int32) : Option (Int32 × SS) :=
  (X11_answers σ s1).bind fun p17 =>
  if p17.1 = 0 then (some ((-1), p17.2)) else
  ((X0_lookSet p17.2 0 x1).bind fun v28 =>
    some (v28, p17.2))
def X11_look_j0  (σ : SS)  (x1 : Int32) : Option (Int32 × SS) :=
  (X0_hasLook σ 0 x1).bind fun v6 =>
  X11_look_j17 σ x1 (if v6 = 0 then 2 else 0)
def X11_look  (σ : SS)  (x1 : Int32) : Option (Int32 × SS) := X11_look_j0  σ  x1
def X11_between_j37  (σ : SS)  (x1 : Int32) (x2 : Int32) (s1 : Int32) : Option (Int32 × SS) :=
  (X11_answers σ s1).bind fun p37 =>
  if p37.1 = 0 then (some ((-1), p37.2)) else
  ((X0_countBetween p37.2 0 x1 x2).bind fun v49 =>
    some (v49, p37.2))
def X11_between_j23  (σ : SS)  (x1 : Int32) (x2 : Int32) : Option (Int32 × SS) :=
  X11_between_j37 σ x1 x2 2
def X11_between_j0  (σ : SS)  (x1 : Int32) (x2 : Int32) : Option (Int32 × SS) :=
  (X0_has σ 0 x1).bind fun v6 =>
  if v6 = 0 then (X11_between_j23 σ x1 x2) else
  ((X0_has σ 0 x2).bind fun v17 =>
    if v17 = 0 then (X11_between_j23 σ x1 x2) else
    (X11_between_j37 σ x1 x2 (if x1 = x2 then 5 else 0)))
def X11_between  (σ : SS)  (x1 : Int32) (x2 : Int32) : Option (Int32 × SS) := X11_between_j0  σ  x1 x2
def X11_copyStates_l67c  (σ : SS)  (x1 : Int32) (x2 : Int32) (x3 : Int32) : Option ((Int32 × SS) ⊕ (SS)) :=
  if x2 ≤ x3 then (some (Sum.inr σ)) else
  ((X0_stateAt σ 0 x3).bind fun v83 =>
    (X6_put σ x1 x3 (Int32.toInt64 v83)).bind fun p87 =>
    (some (x3 + 1)).bind fun x3_91 =>
    some (Sum.inl (x3_91, p87.2)))
def X11_copyStates_l67b    (x1 : Int32) (x2 : Int32) : (Int32 × SS) → Option ((Int32 × SS) ⊕ (SS)) := fun ss => X11_copyStates_l67c  ss.2  x1 x2 ss.1
def X11_copyStates_l67  (σ : SS)  (x1 : Int32) (x2 : Int32) (x3 : Int32) : Option (Int32 × SS) :=
  (iter (X11_copyStates_l67b    x1 x2) NF (x3, σ)).bind fun t67 =>
  some (x2, t67)
def X11_copyStates_j57  (σ : SS)  (x1 : Int32) (x2 : Int32) (s1 : Int32) : Option (Int32 × SS) :=
  (X11_answers σ s1).bind fun p57 =>
  if p57.1 = 0 then (some ((-1), p57.2)) else
  (X11_copyStates_l67 p57.2 x1 x2 0)
def X11_copyStates_j0  (σ : SS)  (x1 : Int32) : Option (Int32 × SS) :=
  (X0_crossingCount σ 0).bind fun v4 =>
  (X6_isNumber σ x1).bind fun v14 =>
  if v14 = 0 then (X11_copyStates_j57 σ x1 v4 1) else
  ((X6_isThere σ x1).bind fun v29 =>
    if v29 = 0 then (X11_copyStates_j57 σ x1 v4 3) else
    ((X6_holds σ x1 0 v4).bind fun v46 =>
      X11_copyStates_j57 σ x1 v4 (if v46 = 0 then 4 else 0)))
def X11_copyStates  (σ : SS)  (x1 : Int32) : Option (Int32 × SS) := X11_copyStates_j0  σ  x1
def X11_follow_j62  (σ : SS)  (x1 : Int32) (x2 : Int32) (s1 : Int32) : Option (Int32 × SS) :=
  (X11_answers σ s1).bind fun p62 =>
  if p62.1 = 0 then (some ((-1), p62.2)) else
  ((X0_undoNearest p62.2 0 x1 x2).bind fun p74 =>
    some (p74.1, p74.2))
def X11_follow_j25  (σ : SS)  (x1 : Int32) (x2 : Int32) : Option (Int32 × SS) :=
  X11_follow_j62 σ x1 x2 5
def X11_follow_j0  (σ : SS)  (x1 : Int32) (x2 : Int32) : Option (Int32 × SS) :=
  (X0_has σ 0 x1).bind fun v6 =>
  if v6 = 0 then (X11_follow_j62 σ x1 x2 2) else
  (if x2 < 0 then (X11_follow_j25 σ x1 x2) else
    (if x2 ≤ 1 then ((X0_isIn σ 0 x1).bind fun v34 =>
        if v34 = 0 then (X11_follow_j62 σ x1 x2 9) else
        ((X0_countOn σ 0 x1).bind fun v50 =>
          X11_follow_j62 σ x1 x2 (if v50 = 0 then 8 else 0))) else
      (X11_follow_j25 σ x1 x2)))
def X11_follow  (σ : SS)  (x1 : Int32) (x2 : Int32) : Option (Int32 × SS) := X11_follow_j0  σ  x1 x2
def X11_loosen_j0  (σ : SS)   : Option (Int32 × SS) :=
  (X11_answers σ 0).bind fun p2 =>
  (X0_loosenOnce p2.2 0).bind fun p10 =>
  some (p10.1, p10.2)
def X11_loosen  (σ : SS)   : Option (Int32 × SS) := X11_loosen_j0  σ  
def X11_inStatus_j0  (σ : SS)  (x1 : Int32) : Option (Int32) :=
  (X0_has σ 0 x1).bind fun v5 =>
  if v5 = 0 then (some 2) else
  ((X0_isIn σ 0 x1).bind fun v20 =>
    if v20 = 0 then (some 9) else
    (some 0))
def X11_inStatus  (σ : SS)  (x1 : Int32) : Option (Int32) := X11_inStatus_j0  σ  x1
def X11_pull_j48  (σ : SS)  (x2 : Int32) (s1 : Int32) (s2 : Int32) : Option (Int32 × SS) :=
  (X0_pullAt σ 0 s1 s2).bind fun σ48 =>
  (J6_bitCount_0f7a4 σ48 x2).bind fun v52 =>
  some (v52, σ48)
def X11_pull_j0  (σ : SS)  (x1 : Int32) : Option (Int32 × SS) :=
  (X11_inStatus σ x1).bind fun v3 =>
  (X11_answers σ v3).bind fun p6 =>
  if p6.1 = 0 then (some ((-1), p6.2)) else
  ((X0_insideSet p6.2 0).bind fun v23 =>
    (X3_around p6.2 0 x1 v23).bind fun v26 =>
    (J6_bitCount_0f7a4 p6.2 v26).bind fun v36 =>
    X11_pull_j48 p6.2 v26 x1 (if v36 = 1 then 1 else 0))
def X11_pull  (σ : SS)  (x1 : Int32) : Option (Int32 × SS) := X11_pull_j0  σ  x1
def X11_cut_j0  (σ : SS)  (x1 : Int32) : Option (Int32 × SS) :=
  (X11_inStatus σ x1).bind fun v3 =>
  (X11_answers σ v3).bind fun p6 =>
  if p6.1 = 0 then (some ((-1), p6.2)) else
  ((X0_cutOff p6.2 0 x1).bind fun p17 =>
    some (p17.1, p17.2))
def X11_cut  (σ : SS)  (x1 : Int32) : Option (Int32 × SS) := X11_cut_j0  σ  x1
def X11_clip_j33  (σ : SS)  (x1 : Int32) (s1 : Int32) : Option (Int32 × SS) :=
  (X11_answers σ s1).bind fun p33 =>
  if p33.1 = 0 then (some (0, p33.2)) else
  ((X0_putClip p33.2 0 x1).bind fun p44 =>
    if p44.1 = 0 then (some (0, p44.2)) else
    (some (1, p44.2)))
def X11_clip_j0  (σ : SS)  (x1 : Int32) : Option (Int32 × SS) :=
  (X0_has σ 0 x1).bind fun v6 =>
  if v6 = 0 then (X11_clip_j33 σ x1 2) else
  ((X0_canGetClip σ 0 x1).bind fun v21 =>
    X11_clip_j33 σ x1 (if v21 = 0 then 9 else 0))
def X11_clip  (σ : SS)  (x1 : Int32) : Option (Int32 × SS) := X11_clip_j0  σ  x1
def X11_unclip_j44  (σ : SS)  (x1 : Int32) (s1 : Int32) : Option (Int32 × SS) :=
  (X11_answers σ s1).bind fun p44 =>
  if p44.1 = 0 then (some (0, p44.2)) else
  ((X0_takeClip p44.2 0 x1).bind fun p55 =>
    if p55.1 = 0 then (some (0, p55.2)) else
    (some (1, p55.2)))
def X11_unclip_j42  (σ : SS)  (x1 : Int32) : Option (Int32 × SS) :=
  X11_unclip_j44 σ x1 9
def X11_unclip_j0  (σ : SS)  (x1 : Int32) : Option (Int32 × SS) :=
  (X0_has σ 0 x1).bind fun v6 =>
  if v6 = 0 then (X11_unclip_j44 σ x1 2) else
  ((X0_isIn σ 0 x1).bind fun v21 =>
    if v21 = 0 then (X11_unclip_j42 σ x1) else
    ((X0_hasClip σ 0 x1).bind fun v32 =>
      if v32 = 0 then (X11_unclip_j42 σ x1) else
      (X11_unclip_j44 σ x1 0)))
def X11_unclip  (σ : SS)  (x1 : Int32) : Option (Int32 × SS) := X11_unclip_j0  σ  x1
def X11_cross_j88  (σ : SS)  (x1 : Int32) (x2 : Int32) (x3 : Int32) (s1 : Int32) : Option (Int32 × SS) :=
  (X11_answers σ s1).bind fun p88 =>
  if p88.1 = 0 then (some ((-1), p88.2)) else
  ((X0_addCrossing p88.2 0 x1 x2 x3).bind fun p103 =>
    (X0_crossingCount p103.2 0).bind fun v111 =>
    some (v111, p103.2))
def X11_cross_j23  (σ : SS)  (x1 : Int32) (x2 : Int32) (x3 : Int32) : Option (Int32 × SS) :=
  X11_cross_j88 σ x1 x2 x3 2
def X11_cross_j41  (σ : SS)  (x1 : Int32) (x2 : Int32) (x3 : Int32) : Option (Int32 × SS) :=
  X11_cross_j88 σ x1 x2 x3 5
def X11_cross_j86  (σ : SS)  (x1 : Int32) (x2 : Int32) (x3 : Int32) : Option (Int32 × SS) :=
  X11_cross_j88 σ x1 x2 x3 9
def X11_cross_j0  (σ : SS)  (x1 : Int32) (x2 : Int32) (x3 : Int32) : Option (Int32 × SS) :=
  (X0_has σ 0 x1).bind fun v6 =>
  if v6 = 0 then (X11_cross_j23 σ x1 x2 x3) else
  ((X0_has σ 0 x2).bind fun v17 =>
    if v17 = 0 then (X11_cross_j23 σ x1 x2 x3) else
    (if x1 = x2 then (X11_cross_j41 σ x1 x2 x3) else
      (if x3 < 0 then (X11_cross_j41 σ x1 x2 x3) else
        (if x3 ≤ 3 then ((X0_isFull σ 0).bind fun v49 =>
            if v49 = 0 then ((X0_canBeCrossed σ 0 x1).bind fun v65 =>
              if v65 = 0 then (X11_cross_j86 σ x1 x2 x3) else
              ((X0_canBeCrossed σ 0 x2).bind fun v76 =>
                if v76 = 0 then (X11_cross_j86 σ x1 x2 x3) else
                (X11_cross_j88 σ x1 x2 x3 0))) else
            (X11_cross_j88 σ x1 x2 x3 7)) else
          (X11_cross_j41 σ x1 x2 x3)))))
def X11_cross  (σ : SS)  (x1 : Int32) (x2 : Int32) (x3 : Int32) : Option (Int32 × SS) := X11_cross_j0  σ  x1 x2 x3
def X11_isSeed_j0  (σ : SS)  (x0 : Int32) : Option (Int32) :=
  if x0 < 0 then (some 0) else
  (if 9999 < x0 then (some 0) else
    (some 1))
def X11_isSeed  (σ : SS)  (x0 : Int32) : Option (Int32) := X11_isSeed_j0  σ  x0
def X11_open_j13  (σ : SS)  (x1 : Int32) (s1 : Int32) : Option (Int32 × SS) :=
  (X11_answers σ s1).bind fun p13 =>
  if p13.1 = 0 then (some ((-1), p13.2)) else
  ((X0_drawFrom p13.2 0 x1).bind fun σ26 =>
    (X0_openOnce σ26 0).bind fun p33 =>
    some (p33.1, p33.2))
def X11_open_j0  (σ : SS)  (x1 : Int32) : Option (Int32 × SS) :=
  (X11_isSeed σ x1).bind fun v2 =>
  X11_open_j13 σ x1 (if v2 = 0 then 5 else 0)
def X11_open  (σ : SS)  (x1 : Int32) : Option (Int32 × SS) := X11_open_j0  σ  x1
def X11_lump_j0  (σ : SS)  (x1 : Int32) : Option (Int32 × SS) :=
  (X11_inStatus σ x1).bind fun v3 =>
  (X11_answers σ v3).bind fun p6 =>
  if p6.1 = 0 then (some ((-1), p6.2)) else
  ((X0_insideSet p6.2 0).bind fun v21 =>
    (X3_around p6.2 0 x1 v21).bind fun v24 =>
    some (v24, p6.2))
def X11_lump  (σ : SS)  (x1 : Int32) : Option (Int32 × SS) := X11_lump_j0  σ  x1
def X11_lumps_j15  (σ : SS)  (x1 : Int32) (s1 : Int32) : Option (Int32 × SS) :=
  (X11_answers σ s1).bind fun p15 =>
  if p15.1 = 0 then (some ((-1), p15.2)) else
  (if x1 = 0 then ((X3_howMany p15.2 0).bind fun v31 =>
      some (v31, p15.2)) else
    ((X0_insideSet p15.2 0).bind fun v45 =>
      (X3_largest p15.2 0 v45).bind fun v48 =>
      some (v48, p15.2)))
def X11_lumps_j10  (σ : SS)  (x1 : Int32) : Option (Int32 × SS) :=
  X11_lumps_j15 σ x1 5
def X11_lumps_j0  (σ : SS)  (x1 : Int32) : Option (Int32 × SS) :=
  if x1 < 0 then (X11_lumps_j10 σ x1) else
  (if x1 ≤ 1 then (X11_lumps_j15 σ x1 0) else
    (X11_lumps_j10 σ x1))
def X11_lumps  (σ : SS)  (x1 : Int32) : Option (Int32 × SS) := X11_lumps_j0  σ  x1
def X11_comes_j0  (σ : SS)  (x1 : Int32) : Option (Int32 × SS) :=
  (X11_inStatus σ x1).bind fun v3 =>
  (X11_answers σ v3).bind fun p6 =>
  if p6.1 = 0 then (some ((-1), p6.2)) else
  ((X3_isLone p6.2 0 x1).bind fun v17 =>
    if v17 = 0 then (some (0, p6.2)) else
    (some (1, p6.2)))
def X11_comes  (σ : SS)  (x1 : Int32) : Option (Int32 × SS) := X11_comes_j0  σ  x1
def X11_easy_j0  (σ : SS)   : Option (Int32 × SS) :=
  (X11_answers σ 0).bind fun p2 =>
  (X3_lone p2.2 0).bind fun v10 =>
  some (v10, p2.2)
def X11_easy  (σ : SS)   : Option (Int32 × SS) := X11_easy_j0  σ  
def X11_free_j17  (σ : SS)  (x1 : Int32) (s1 : Int32) : Option (Int32 × SS) :=
  (X11_answers σ s1).bind fun p17 =>
  if p17.1 = 0 then (some ((-1), p17.2)) else
  ((X0_isFree p17.2 0 x1).bind fun v28 =>
    if v28 = 0 then (some (0, p17.2)) else
    (some (1, p17.2)))
def X11_free_j0  (σ : SS)  (x1 : Int32) : Option (Int32 × SS) :=
  (X0_has σ 0 x1).bind fun v6 =>
  X11_free_j17 σ x1 (if v6 = 0 then 2 else 0)
def X11_free  (σ : SS)  (x1 : Int32) : Option (Int32 × SS) := X11_free_j0  σ  x1
def X11_inState_j15  (σ : SS)  (x1 : Int32) (s1 : Int32) : Option (Int32 × SS) :=
  (X11_answers σ s1).bind fun p15 =>
  if p15.1 = 0 then (some ((-1), p15.2)) else
  ((X0_countInState p15.2 0 x1).bind fun v26 =>
    some (v26, p15.2))
def X11_inState_j10  (σ : SS)  (x1 : Int32) : Option (Int32 × SS) :=
  X11_inState_j15 σ x1 5
def X11_inState_j0  (σ : SS)  (x1 : Int32) : Option (Int32 × SS) :=
  if x1 < 0 then (X11_inState_j10 σ x1) else
  (if x1 ≤ 3 then (X11_inState_j15 σ x1 0) else
    (X11_inState_j10 σ x1))
def X11_inState  (σ : SS)  (x1 : Int32) : Option (Int32 × SS) := X11_inState_j0  σ  x1
def X11_worse_j46  (σ : SS)  (x1 : Int32) (x2 : Int32) (s1 : Int32) : Option (Int32 × SS) :=
  (X11_answers σ s1).bind fun p46 =>
  if p46.1 = 0 then (some ((-1), p46.2)) else
  ((X0_takeOver p46.2 1 0).bind fun σ62 =>
    (X3_isLone σ62 0 x1).bind fun v75 =>
    (X0_pullAt σ62 1 x1 v75).bind fun σ78 =>
    (X0_countInState σ78 1 x2).bind fun v86 =>
    (X0_countInState σ78 0 x2).bind fun v94 =>
    some ((v86 - v94), σ78))
def X11_worse_j25  (σ : SS)  (x1 : Int32) (x2 : Int32) : Option (Int32 × SS) :=
  X11_worse_j46 σ x1 x2 5
def X11_worse_j0  (σ : SS)  (x1 : Int32) (x2 : Int32) : Option (Int32 × SS) :=
  (X0_has σ 0 x1).bind fun v6 =>
  if v6 = 0 then (X11_worse_j46 σ x1 x2 2) else
  (if x2 < 0 then (X11_worse_j25 σ x1 x2) else
    (if x2 ≤ 3 then ((X0_isIn σ 0 x1).bind fun v34 =>
        X11_worse_j46 σ x1 x2 (if v34 = 0 then 9 else 0)) else
      (X11_worse_j25 σ x1 x2)))
def X11_worse  (σ : SS)  (x1 : Int32) (x2 : Int32) : Option (Int32 × SS) := X11_worse_j0  σ  x1 x2
def X11_someIn_j0  (σ : SS)   : Option (Int32) :=
  (X0_insideSet σ 0).bind fun v4 =>
  if v4 = 0 then (some 8) else
  (some 0)
def X11_someIn  (σ : SS)   : Option (Int32) := X11_someIn_j0  σ  
def X11_worst_j0  (σ : SS)   : Option (Int32 × SS) :=
  (X11_someIn σ ).bind fun v2 =>
  (X11_answers σ v2).bind fun p5 =>
  if p5.1 = 0 then (some ((-1), p5.2)) else
  ((X0_mostCrossed p5.2 0).bind fun v15 =>
    some (v15, p5.2))
def X11_worst  (σ : SS)   : Option (Int32 × SS) := X11_worst_j0  σ  
def X11_key_j0  (σ : SS)   : Option (Int32 × SS) :=
  (X11_someIn σ ).bind fun v2 =>
  (X11_answers σ v2).bind fun p5 =>
  if p5.1 = 0 then (some ((-1), p5.2)) else
  ((X3_bestCut p5.2 0).bind fun v15 =>
    some (v15, p5.2))
def X11_key  (σ : SS)   : Option (Int32 × SS) := X11_key_j0  σ  
def X11_alone_j0  (σ : SS)  (x1 : Int32) : Option (Int32 × SS) :=
  (X11_inStatus σ x1).bind fun v3 =>
  (X11_answers σ v3).bind fun p6 =>
  if p6.1 = 0 then (some ((-1), p6.2)) else
  ((X7_find p6.2 0 x1).bind fun p23 =>
    (X7_keepWay p23.2 ).bind fun σ31 =>
    some (p23.1, σ31))
def X11_alone  (σ : SS)  (x1 : Int32) : Option (Int32 × SS) := X11_alone_j0  σ  x1
def X11_way_j30  (σ : SS)  (x1 : Int32) (s1 : Int32) : Option (Int32 × SS) :=
  (X11_answers σ s1).bind fun p30 =>
  if p30.1 = 0 then (some ((-1), p30.2)) else
  ((X7_keptWay p30.2 x1).bind fun v41 =>
    some (v41, p30.2))
def X11_way_j10  (σ : SS)  (x1 : Int32) : Option (Int32 × SS) :=
  X11_way_j30 σ x1 5
def X11_way_j0  (σ : SS)  (x1 : Int32) : Option (Int32 × SS) :=
  if x1 < 0 then (X11_way_j10 σ x1) else
  (if x1 ≤ 3 then ((X7_hasWay σ ).bind fun v18 =>
      X11_way_j30 σ x1 (if v18 = 0 then 8 else 0)) else
    (X11_way_j10 σ x1))
def X11_way  (σ : SS)  (x1 : Int32) : Option (Int32 × SS) := X11_way_j0  σ  x1
def X11_follows_j71  (σ : SS)  (x1 : Int32) (x2 : Int32) (x3 : Int32) (s1 : Int32) : Option (Int32 × SS) :=
  (X11_answers σ s1).bind fun p71 =>
  if p71.1 = 0 then (some ((-1), p71.2)) else
  ((X7_secondsOfEnds p71.2 0 x1 x2 x3).bind fun p88 =>
    some (p88.1, p88.2))
def X11_follows_j66  (σ : SS)  (x1 : Int32) (x2 : Int32) (x3 : Int32) : Option (Int32 × SS) :=
  X11_follows_j71 σ x1 x2 x3 5
def X11_follows_j0  (σ : SS)  (x1 : Int32) (x2 : Int32) (x3 : Int32) : Option (Int32 × SS) :=
  (X0_has σ 0 x1).bind fun v6 =>
  if v6 = 0 then (X11_follows_j71 σ x1 x2 x3 2) else
  ((X0_isIn σ 0 x1).bind fun v21 =>
    if v21 = 0 then (X11_follows_j71 σ x1 x2 x3 9) else
    (if x2 < 0 then (X11_follows_j66 σ x1 x2 x3) else
      (if x3 < 0 then (X11_follows_j66 σ x1 x2 x3) else
        ((X0_countOn σ 0 x1).bind fun v46 =>
          if v46 < x2 then (X11_follows_j66 σ x1 x2 x3) else
          ((X0_countOn σ 0 x1).bind fun v58 =>
            if x3 ≤ (v58 - x2) then (X11_follows_j71 σ x1 x2 x3 0) else
            (X11_follows_j66 σ x1 x2 x3))))))
def X11_follows  (σ : SS)  (x1 : Int32) (x2 : Int32) (x3 : Int32) : Option (Int32 × SS) := X11_follows_j0  σ  x1 x2 x3
def X11_all_j0  (σ : SS)   : Option (Int32 × SS) :=
  (X11_answers σ 0).bind fun p2 =>
  (X7_findAll p2.2 0).bind fun p14 =>
  some (p14.1, p14.2)
def X11_all  (σ : SS)   : Option (Int32 × SS) := X11_all_j0  σ  
def X11_order_j22  (σ : SS)  (x1 : Int32) (s1 : Int32) : Option (Int32 × SS) :=
  (X11_answers σ s1).bind fun p22 =>
  if p22.1 = 0 then (some ((-1), p22.2)) else
  ((X7_inOrder p22.2 x1).bind fun v33 =>
    some (v33, p22.2))
def X11_order_j16  (σ : SS)  (x1 : Int32) : Option (Int32 × SS) :=
  X11_order_j22 σ x1 8
def X11_order_j0  (σ : SS)  (x1 : Int32) : Option (Int32 × SS) :=
  if x1 < 0 then (X11_order_j16 σ x1) else
  ((X7_orderLength σ ).bind fun v10 =>
    if x1 < v10 then (X11_order_j22 σ x1 0) else
    (X11_order_j16 σ x1))
def X11_order  (σ : SS)  (x1 : Int32) : Option (Int32 × SS) := X11_order_j0  σ  x1
def X11_loosens_j17  (σ : SS)  (s1 : Int32) : Option (Int32 × SS) :=
  (X11_answers σ s1).bind fun p17 =>
  if p17.1 = 0 then (some ((-1), p17.2)) else
  ((X7_loosensFirst p17.2 ).bind fun v27 =>
    some (v27, p17.2))
def X11_loosens_j0  (σ : SS)   : Option (Int32 × SS) :=
  (X7_hasOrder σ ).bind fun v5 =>
  X11_loosens_j17 σ (if v5 = 0 then 8 else 0)
def X11_loosens  (σ : SS)   : Option (Int32 × SS) := X11_loosens_j0  σ  
def X11_soonest_j0  (σ : SS)   : Option (Int32 × SS) :=
  (X11_someIn σ ).bind fun v2 =>
  (X11_answers σ v2).bind fun p5 =>
  if p5.1 = 0 then (some ((-1), p5.2)) else
  ((X7_soonestOf p5.2 0).bind fun p19 =>
    some (p19.1, p19.2))
def X11_soonest  (σ : SS)   : Option (Int32 × SS) := X11_soonest_j0  σ  
def X11_isPence_j0  (σ : SS)  (x0 : Int32) : Option (Int32) :=
  if x0 < 0 then (some 0) else
  (if 999 < x0 then (some 0) else
    (some 1))
def X11_isPence  (σ : SS)  (x0 : Int32) : Option (Int32) := X11_isPence_j0  σ  x0
def X11_commonDivisor_l9c  (σ : SS)   (y4 : Int64) (y6 : Int64) (x8 : Int32) : Option ((Int64 × Int64 × Int32) ⊕ (Int64)) :=
  if 100 ≤ x8 then (some (Sum.inr y4)) else
  (if (lg_cmp y6 0) = 0 then (some (Sum.inr y4)) else
    ((nzL y6).bind fun w27 =>
      (some (y4 - y4 / y6 * y6)).bind fun y9_28 =>
      (some (x8 + 1)).bind fun x8_38 =>
      some (Sum.inl (y6, y9_28, x8_38))))
def X11_commonDivisor_l9b  (σ : SS)   : (Int64 × Int64 × Int32) → Option ((Int64 × Int64 × Int32) ⊕ (Int64)) := fun ss => X11_commonDivisor_l9c  σ   ss.1 ss.2.1 ss.2.2
def X11_commonDivisor_l9  (σ : SS)  (y4 : Int64) (y6 : Int64) (x8 : Int32) : Option (Int64) :=
  (iter (X11_commonDivisor_l9b  σ  ) NF (y4, y6, x8)).bind fun t9 =>
  some t9
def X11_commonDivisor_j0  (σ : SS)  (y0 : Int64) (y2 : Int64) : Option (Int64) :=
  X11_commonDivisor_l9 σ y0 y2 0
def X11_commonDivisor  (σ : SS)  (y0 : Int64) (y2 : Int64) : Option (Int64) := X11_commonDivisor_j0  σ  y0 y2
def X11_tell_j0  (σ : SS)  (y1 : Int64) (y3 : Int64) : Option (Int32 × SS) :=
  (X11_commonDivisor σ (labs y1) y3).bind fun v5 =>
  if (lg_cmp v5 0) ≤ 0 then (some (1, σ)) else
  ((nzL v5).bind fun w21 =>
    (some (wJ σ 10 0 12 (y1 / v5))).bind fun σ22 =>
    (nzL v5).bind fun w29 =>
    (some (wJ σ22 10 0 13 (y3 / v5))).bind fun σ30 =>
    some (1, σ30))
def X11_tell  (σ : SS)  (y1 : Int64) (y3 : Int64) : Option (Int32 × SS) := X11_tell_j0  σ  y1 y3
def X11_fresh_j44  (σ : SS)  (x1 : Int32) (x2 : Int32) (s1 : Int32) : Option (Int32 × SS) :=
  (X11_answers σ s1).bind fun p44 =>
  if p44.1 = 0 then (some (0, p44.2)) else
  ((X7_find p44.2 0 x1).bind fun p60 =>
    (X0_number p60.2 0 4 x1).bind fun v76 =>
    (X11_tell p60.2 (((Int32.toInt64 p60.1) * (Int32.toInt64 x2)) - (60 * (Int32.toInt64 v76))) 60).bind fun p85 =>
    if p85.1 = 0 then (some (0, p85.2)) else
    (some (1, p85.2)))
def X11_fresh_j0  (σ : SS)  (x1 : Int32) (x2 : Int32) : Option (Int32 × SS) :=
  (X0_has σ 0 x1).bind fun v6 =>
  if v6 = 0 then (X11_fresh_j44 σ x1 x2 2) else
  ((X0_isIn σ 0 x1).bind fun v21 =>
    if v21 = 0 then (X11_fresh_j44 σ x1 x2 9) else
    ((X11_isPence σ x2).bind fun v33 =>
      X11_fresh_j44 σ x1 x2 (if v33 = 0 then 5 else 0)))
def X11_fresh  (σ : SS)  (x1 : Int32) (x2 : Int32) : Option (Int32 × SS) := X11_fresh_j0  σ  x1 x2
def X11_grows_j0  (σ : SS)   : Option (Int32 × SS) :=
  (X11_answers σ 0).bind fun p2 =>
  if p2.1 = 0 then (some (0, p2.2)) else
  ((X8_sixteenthsGrown p2.2 0).bind fun v17 =>
    (X11_tell p2.2 (Int32.toInt64 v17) 16).bind fun p24 =>
    if p24.1 = 0 then (some (0, p24.2)) else
    (some (1, p24.2)))
def X11_grows  (σ : SS)   : Option (Int32 × SS) := X11_grows_j0  σ  
def X11_clips_j24  (σ : SS)  (x1 : Int32) (s1 : Int32) : Option (Int32 × SS) :=
  (X11_answers σ s1).bind fun p24 =>
  if p24.1 = 0 then (some ((-1), p24.2)) else
  (some (x1, p24.2))
def X11_clips_j0  (σ : SS)   : Option (Int32 × SS) :=
  (X8_openingsForClips σ 0).bind fun v8 =>
  X11_clips_j24 σ v8 (if v8 = (-1) then 8 else 0)
def X11_clips  (σ : SS)   : Option (Int32 × SS) := X11_clips_j0  σ  
def X11_tries_j68  (σ : SS)  (x2 : Int32) (y3 : Int64) (s1 : Int32) : Option (Int32 × SS) :=
  (X11_answers σ s1).bind fun p68 =>
  if p68.1 = 0 then (some (0, p68.2)) else
  ((X8_triesTogether p68.2 0 x2).bind fun v84 =>
    (X11_tell p68.2 (Int32.toInt64 v84) y3).bind fun p89 =>
    if p89.1 = 0 then (some (0, p89.2)) else
    (some (1, p89.2)))
def X11_tries_j0  (σ : SS)  (x1 : Int32) : Option (Int32 × SS) :=
  (X0_lookSet σ 0 x1).bind fun v5 =>
  (X0_insideSet σ 0).bind fun v12 =>
  (some (v5 &&& v12)).bind fun x2_16 =>
  (X8_usedTogether σ 0 x2_16).bind fun v26 =>
  (some (Int32.toInt64 v26)).bind fun y3_30 =>
  (X0_hasLook σ 0 x1).bind fun v37 =>
  X11_tries_j68 σ x2_16 y3_30 (if v37 = 0 then 2 else (if x2_16 = 0 then 8 else (if (lg_cmp y3_30 0) = 0 then 9 else 0)))
def X11_tries  (σ : SS)  (x1 : Int32) : Option (Int32 × SS) := X11_tries_j0  σ  x1
def X11_nextTry_j51  (σ : SS)  (x2 : Int32) (x3 : Int32) (s1 : Int32) : Option (Int32 × SS) :=
  (X11_answers σ s1).bind fun p51 =>
  if p51.1 = 0 then (some ((-1), p51.2)) else
  ((X8_triedAt p51.2 0 x3 x2).bind fun v67 =>
    some (v67, p51.2))
def X11_nextTry_j45  (σ : SS)  (x2 : Int32) (x3 : Int32) : Option (Int32 × SS) :=
  X11_nextTry_j51 σ x2 x3 8
def X11_nextTry_j0  (σ : SS)  (x1 : Int32) (x2 : Int32) : Option (Int32 × SS) :=
  (X0_lookSet σ 0 x1).bind fun v5 =>
  (X0_insideSet σ 0).bind fun v12 =>
  (some (v5 &&& v12)).bind fun x3_16 =>
  (X0_hasLook σ 0 x1).bind fun v23 =>
  if v23 = 0 then (X11_nextTry_j51 σ x2 x3_16 2) else
  (if x2 < 0 then (X11_nextTry_j45 σ x2 x3_16) else
    ((J6_bitCount_0f7a4 σ x3_16).bind fun v39 =>
      if x2 < v39 then (X11_nextTry_j51 σ x2 x3_16 0) else
      (X11_nextTry_j45 σ x2 x3_16)))
def X11_nextTry  (σ : SS)  (x1 : Int32) (x2 : Int32) : Option (Int32 × SS) := X11_nextTry_j0  σ  x1 x2
def X11_boxes_j37  (σ : SS)  (x1 : Int32) (s1 : Int32) : Option (Int32 × SS) :=
  (X11_answers σ s1).bind fun p37 =>
  if p37.1 = 0 then (some ((-1), p37.2)) else
  ((X8_fewestBoxes p37.2 0 x1).bind fun p52 =>
    some (p52.1, p52.2))
def X11_boxes_j12  (σ : SS)  (x1 : Int32) : Option (Int32 × SS) :=
  X11_boxes_j37 σ x1 5
def X11_boxes_j0  (σ : SS)  (x1 : Int32) : Option (Int32 × SS) :=
  if x1 < 1 then (X11_boxes_j12 σ x1) else
  (if x1 ≤ 99 then ((X8_longest σ 0).bind fun v24 =>
      X11_boxes_j37 σ x1 (if v24 ≤ x1 then 0 else 9)) else
    (X11_boxes_j12 σ x1))
def X11_boxes  (σ : SS)  (x1 : Int32) : Option (Int32 × SS) := X11_boxes_j0  σ  x1
def X11_waste_j13  (σ : SS)  (x1 : Int32) (s1 : Int32) : Option (Int32 × SS) :=
  (X11_answers σ s1).bind fun p13 =>
  if p13.1 = 0 then (some ((-1), p13.2)) else
  ((X8_thrown p13.2 0 x1).bind fun v28 =>
    some (v28, p13.2))
def X11_waste_j0  (σ : SS)  (x1 : Int32) : Option (Int32 × SS) :=
  (X11_isPence σ x1).bind fun v2 =>
  X11_waste_j13 σ x1 (if v2 = 0 then 5 else 0)
def X11_waste  (σ : SS)  (x1 : Int32) : Option (Int32 × SS) := X11_waste_j0  σ  x1
def X11_live_j31  (σ : SS)  (x1 : Int32) (s1 : Int32) : Option (Int32 × SS) :=
  (X11_answers σ s1).bind fun p31 =>
  if p31.1 = 0 then (some ((-1), p31.2)) else
  ((X2_run p31.2 0 x1).bind fun p48 =>
    (X2_keepCounts p48.2 ).bind fun σ56 =>
    some (p48.1, σ56))
def X11_live_j0  (σ : SS)  (x1 : Int32) : Option (Int32 × SS) :=
  (X11_isSeed σ x1).bind fun v2 =>
  if v2 = 0 then (X11_live_j31 σ x1 5) else
  ((X9_isThere σ 0).bind fun v19 =>
    X11_live_j31 σ x1 (if v19 = 0 then 8 else 0))
def X11_live  (σ : SS)  (x1 : Int32) : Option (Int32 × SS) := X11_live_j0  σ  x1
def X11_lived_j30  (σ : SS)  (x1 : Int32) (s1 : Int32) : Option (Int32 × SS) :=
  (X11_answers σ s1).bind fun p30 =>
  if p30.1 = 0 then (some ((-1), p30.2)) else
  ((X2_keptCount p30.2 x1).bind fun v41 =>
    some (v41, p30.2))
def X11_lived_j10  (σ : SS)  (x1 : Int32) : Option (Int32 × SS) :=
  X11_lived_j30 σ x1 5
def X11_lived_j0  (σ : SS)  (x1 : Int32) : Option (Int32 × SS) :=
  if x1 < 0 then (X11_lived_j10 σ x1) else
  (if x1 ≤ 4 then ((X2_hasCounts σ ).bind fun v18 =>
      X11_lived_j30 σ x1 (if v18 = 0 then 8 else 0)) else
    (X11_lived_j10 σ x1))
def X11_lived  (σ : SS)  (x1 : Int32) : Option (Int32 × SS) := X11_lived_j0  σ  x1
def X11_seedsStatus_j29  (σ : SS)   : Option (Int32) :=
  some 5
def X11_seedsStatus_j0  (σ : SS)  (x1 : Int32) (x2 : Int32) : Option (Int32) :=
  (X11_isSeed σ x1).bind fun v1 =>
  if v1 = 0 then (X11_seedsStatus_j29 σ) else
  (if x2 < 1 then (X11_seedsStatus_j29 σ) else
    (if 20 < x2 then (X11_seedsStatus_j29 σ) else
      ((X11_isSeed σ ((x1 + x2) - 1)).bind fun v23 =>
        if v23 = 0 then (X11_seedsStatus_j29 σ) else
        ((X9_isThere σ 0).bind fun v40 =>
          if v40 = 0 then (some 8) else
          (some 0)))))
def X11_seedsStatus  (σ : SS)  (x1 : Int32) (x2 : Int32) : Option (Int32) := X11_seedsStatus_j0  σ  x1 x2
