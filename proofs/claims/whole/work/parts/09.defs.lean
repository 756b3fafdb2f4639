theorem th {α : Type} {c : Prop} {inst : Decidable c} {a b : Option α} {o : α} (h : (@ite _ c inst a b) = some o) (hc : c) : a = some o := by rw [if_pos hc] at h; exact h
theorem el {α : Type} {c : Prop} {inst : Decidable c} {a b : Option α} {o : α} (h : (@ite _ c inst a b) = some o) (hc : ¬ c) : b = some o := by rw [if_neg hc] at h; exact h
theorem lt_in {i : Int32} {n : Nat} (h : ¬ (i < 0 ∨ n ≤ i.toNatClampNeg)) : i.toNatClampNeg < n := Nat.not_le.mp fun q => h (Or.inr q)
def fu : Nat := 700
def fX4_slipsOf_12 (x0 : Int32) (xs0 : Int32) : Option (Int32) :=
    if x0 < (2 : Int32) then
    (some xs0)
    else (some ((2 : Int32) * xs0))
def fX4_slipsOf (x0 : Int32) (x1 : Int32) : Option (Int32) :=
    if x0 < (1 : Int32) then
    (fX4_slipsOf_12 x0 x1)
    else (fX4_slipsOf_12 x0 (x1 + (1 : Int32)))
def fX0_slips (g0 : Nat → Int32) : Option (Int32) :=
    (fX4_slipsOf (g0 0) (g0 1)).bind (fun q1 =>
    some q1)
def fX1_setDrawn (x1 : Int32) (u : SD) : Option (SD) :=
    some ((upd u.1 5 (if (0 : Int32) < (if (6 : Int32) < x1 then (6 : Int32) else x1) then (if (6 : Int32) < x1 then (6 : Int32) else x1) else (0 : Int32))), u.2.1, u.2.2.1, u.2.2.2)
def fX1_empty_26 : Nat → Int32 → Int32 → SD → Option (SD)
  | 0, _, _, _ => none
  | n + 1, x2, x3, u =>
    if (6 : Int32) ≤ x3 then
    ((fX1_setDrawn x2 u).bind (fun q2 =>
    some q2))
    else (if x3 < 0 ∨ 6 ≤ x3.toNatClampNeg then none else
    (fX1_empty_26 n x2 (x3 + (1 : Int32)) (u.1, (upd u.2.1 x3.toNatClampNeg (0 : Int32)), u.2.2.1, u.2.2.2)))
def fX1_empty (x1 : Int32) (x2 : Int32) (u : SD) : Option (SD) :=
    fX1_empty_26 fu x2 (0 : Int32) ((upd (upd (upd u.1 3 (if (0 : Int32) < (if (6 : Int32) < x1 then (6 : Int32) else x1) then (if (6 : Int32) < x1 then (6 : Int32) else x1) else (0 : Int32))) 4 (0 : Int32)) 6 (0 : Int32)), u.2.1, u.2.2.1, u.2.2.2)
def fX1_choose_5 : Nat → Int32 → Int32 → Int64 → Int32 → Option (Int64)
  | 0, _, _, _, _ => none
  | n + 1, x0, x1, x2, x4 =>
    if x1 ≤ x4 then
    (some x2)
    else (if 0 < (x0 - x4) then
    (if (x4 + (1 : Int32)).toInt64 = 0 then none else
    (fX1_choose_5 n x0 x1 ((x2 * (x0 - x4).toInt64) / (x4 + (1 : Int32)).toInt64) (x4 + (1 : Int32))))
    else (some (0 : Int64)))
def fX1_choose (x0 : Int32) (x1 : Int32) : Option (Int64) :=
    fX1_choose_5 fu x0 x1 (1 : Int64) (0 : Int32)
def fX1_setSlips_76 (c40 : Int32 → Int32 → Int32 → SD → Option (SD)) (x1 : Int32) (x2 : Int32) (x3 : Int32) (u : SD) : Option (SD) :=
    c40 x1 x2 (x3 + (1 : Int32)) u
def fX1_setSlips_40 : Nat → Int32 → Int32 → Int32 → SD → Option (SD)
  | 0, _, _, _, _ => none
  | n + 1, x1, x2, x3, u =>
    if (7 : Int32) ≤ x3 then
    (some u)
    else (if (42 : Int32) ≤ ((x1 * (7 : Int32)) + x3) then
    (fX1_setSlips_76 (fX1_setSlips_40 n) x1 x2 x3 u)
    else ((fX1_choose x2 x3).bind (fun q3 =>
    if ((x1 * (7 : Int32)) + x3) < 0 ∨ 42 ≤ ((x1 * (7 : Int32)) + x3).toNatClampNeg then none else
    (fX1_setSlips_76 (fX1_setSlips_40 n) x1 x2 x3 (u.1, u.2.1, (vp_updL u.2.2.1 (((x1 * (7 : Int32)) + x3).toNatClampNeg) q3), u.2.2.2)))))
def fX1_setSlips (x1 : Int32) (x2 : Int32) (u : SD) : Option (SD) :=
    if x1 < 0 then
    (some u)
    else (if x1 < (6 : Int32) then
    (if x1 < 0 ∨ 6 ≤ x1.toNatClampNeg then none else
    (if x1 < 0 ∨ 6 ≤ x1.toNatClampNeg then none else
    (fX1_setSlips_40 fu x1 x2 (0 : Int32) ((upd u.1 6 ((u.1 6) + (x2 - (u.2.1 x1.toNatClampNeg)))), (upd u.2.1 x1.toNatClampNeg x2), u.2.2.1, u.2.2.2))))
    else (some u))
def fX1_setWishes_26 (xs1 : Int32) (u : SD) : Option (SD) :=
    some ((upd u.1 4 xs1), u.2.1, u.2.2.1, u.2.2.2)
def fX1_setWishes (x1 : Int32) (x2 : Int32) (u : SD) : Option (SD) :=
    if x2 = 0 then
    (fX1_setWishes_26 ((u.1 4) &&& (((1 : Int32) <<< (x1 &&& 31)) ^^^ (-1 : Int32))) u)
    else (fX1_setWishes_26 ((u.1 4) ||| ((1 : Int32) <<< (x1 &&& 31))) u)
def fX1_slipsOfOne_22 (u : SD) : Option (Int32) :=
    some (0 : Int32)
def fX1_slipsOfOne (x1 : Int32) (u : SD) : Option (Int32) :=
    if x1 < 0 then
    (fX1_slipsOfOne_22 u)
    else (if (6 : Int32) ≤ x1 then
    (fX1_slipsOfOne_22 u)
    else (if x1 < 0 ∨ 6 ≤ x1.toNatClampNeg then none else
    (some (u.2.1 x1.toNatClampNeg))))
def fX1_taken (u : SD) : Option (Int32) :=
    some (if (u.1 6) < (u.1 5) then (u.1 6) else (u.1 5))
def fX1_draws (u : SD) : Option (Int64) :=
    (fX1_taken u).bind (fun q1 =>
    (fX1_choose (u.1 6) q1).bind (fun q3 =>
    some q3))
def fX1_drawsSparing (x1 : Int32) (u : SD) : Option (Int64) :=
    (fX1_slipsOfOne x1 u).bind (fun q1 =>
    (fX1_taken u).bind (fun q3 =>
    (fX1_choose ((u.1 6) - q1) q3).bind (fun q5 =>
    some q5)))
def fJ6_bitCount_0f7a4 (x0 : Int32) : Option (Int32) :=
    some ((((((((x0 - ((x0.toUInt32 >>> ((1 : Int32).toUInt32 &&& Int32.toUInt32 31)).toInt32 &&& (1431655765 : Int32))) &&& (858993459 : Int32)) + (((x0 - ((x0.toUInt32 >>> ((1 : Int32).toUInt32 &&& Int32.toUInt32 31)).toInt32 &&& (1431655765 : Int32))).toUInt32 >>> ((2 : Int32).toUInt32 &&& Int32.toUInt32 31)).toInt32 &&& (858993459 : Int32))) + ((((x0 - ((x0.toUInt32 >>> ((1 : Int32).toUInt32 &&& Int32.toUInt32 31)).toInt32 &&& (1431655765 : Int32))) &&& (858993459 : Int32)) + (((x0 - ((x0.toUInt32 >>> ((1 : Int32).toUInt32 &&& Int32.toUInt32 31)).toInt32 &&& (1431655765 : Int32))).toUInt32 >>> ((2 : Int32).toUInt32 &&& Int32.toUInt32 31)).toInt32 &&& (858993459 : Int32))).toUInt32 >>> ((4 : Int32).toUInt32 &&& Int32.toUInt32 31)).toInt32) &&& (252645135 : Int32)) + ((((((x0 - ((x0.toUInt32 >>> ((1 : Int32).toUInt32 &&& Int32.toUInt32 31)).toInt32 &&& (1431655765 : Int32))) &&& (858993459 : Int32)) + (((x0 - ((x0.toUInt32 >>> ((1 : Int32).toUInt32 &&& Int32.toUInt32 31)).toInt32 &&& (1431655765 : Int32))).toUInt32 >>> ((2 : Int32).toUInt32 &&& Int32.toUInt32 31)).toInt32 &&& (858993459 : Int32))) + ((((x0 - ((x0.toUInt32 >>> ((1 : Int32).toUInt32 &&& Int32.toUInt32 31)).toInt32 &&& (1431655765 : Int32))) &&& (858993459 : Int32)) + (((x0 - ((x0.toUInt32 >>> ((1 : Int32).toUInt32 &&& Int32.toUInt32 31)).toInt32 &&& (1431655765 : Int32))).toUInt32 >>> ((2 : Int32).toUInt32 &&& Int32.toUInt32 31)).toInt32 &&& (858993459 : Int32))).toUInt32 >>> ((4 : Int32).toUInt32 &&& Int32.toUInt32 31)).toInt32) &&& (252645135 : Int32)).toUInt32 >>> ((8 : Int32).toUInt32 &&& Int32.toUInt32 31)).toInt32) + (((((((x0 - ((x0.toUInt32 >>> ((1 : Int32).toUInt32 &&& Int32.toUInt32 31)).toInt32 &&& (1431655765 : Int32))) &&& (858993459 : Int32)) + (((x0 - ((x0.toUInt32 >>> ((1 : Int32).toUInt32 &&& Int32.toUInt32 31)).toInt32 &&& (1431655765 : Int32))).toUInt32 >>> ((2 : Int32).toUInt32 &&& Int32.toUInt32 31)).toInt32 &&& (858993459 : Int32))) + ((((x0 - ((x0.toUInt32 >>> ((1 : Int32).toUInt32 &&& Int32.toUInt32 31)).toInt32 &&& (1431655765 : Int32))) &&& (858993459 : Int32)) + (((x0 - ((x0.toUInt32 >>> ((1 : Int32).toUInt32 &&& Int32.toUInt32 31)).toInt32 &&& (1431655765 : Int32))).toUInt32 >>> ((2 : Int32).toUInt32 &&& Int32.toUInt32 31)).toInt32 &&& (858993459 : Int32))).toUInt32 >>> ((4 : Int32).toUInt32 &&& Int32.toUInt32 31)).toInt32) &&& (252645135 : Int32)) + ((((((x0 - ((x0.toUInt32 >>> ((1 : Int32).toUInt32 &&& Int32.toUInt32 31)).toInt32 &&& (1431655765 : Int32))) &&& (858993459 : Int32)) + (((x0 - ((x0.toUInt32 >>> ((1 : Int32).toUInt32 &&& Int32.toUInt32 31)).toInt32 &&& (1431655765 : Int32))).toUInt32 >>> ((2 : Int32).toUInt32 &&& Int32.toUInt32 31)).toInt32 &&& (858993459 : Int32))) + ((((x0 - ((x0.toUInt32 >>> ((1 : Int32).toUInt32 &&& Int32.toUInt32 31)).toInt32 &&& (1431655765 : Int32))) &&& (858993459 : Int32)) + (((x0 - ((x0.toUInt32 >>> ((1 : Int32).toUInt32 &&& Int32.toUInt32 31)).toInt32 &&& (1431655765 : Int32))).toUInt32 >>> ((2 : Int32).toUInt32 &&& Int32.toUInt32 31)).toInt32 &&& (858993459 : Int32))).toUInt32 >>> ((4 : Int32).toUInt32 &&& Int32.toUInt32 31)).toInt32) &&& (252645135 : Int32)).toUInt32 >>> ((8 : Int32).toUInt32 &&& Int32.toUInt32 31)).toInt32).toUInt32 >>> ((16 : Int32).toUInt32 &&& Int32.toUInt32 31)).toInt32) &&& (63 : Int32))
def fX1_waysWithLast_91 (c14 : Int32 → Int32 → Int32 → Int32 → Int64 → Int32 → SD → Option (Int64)) (x1 : Int32) (x2 : Int32) (x3 : Int32) (x4 : Int32) (x5 : Int64) (x7 : Int32) (u : SD) : Option (Int64) :=
    c14 x1 x2 x3 x4 x5 (x7 + (1 : Int32)) u
def fX1_waysWithLast_14 : Nat → Int32 → Int32 → Int32 → Int32 → Int64 → Int32 → SD → Option (Int64)
  | 0, _, _, _, _, _, _, _ => none
  | n + 1, x1, x2, x3, x4, x5, x7, u =>
    if x4 < x7 then
    (some x5)
    else (if ((x2 * (7 : Int32)) + x7) < 0 then
    (fX1_waysWithLast_91 (fX1_waysWithLast_14 n) x1 x2 x3 x4 x5 x7 u)
    else (if (42 : Int32) ≤ ((x2 * (7 : Int32)) + x7) then
    (fX1_waysWithLast_91 (fX1_waysWithLast_14 n) x1 x2 x3 x4 x5 x7 u)
    else (if (((x1 * (7 : Int32)) + x3) - x7) < 0 then
    (fX1_waysWithLast_91 (fX1_waysWithLast_14 n) x1 x2 x3 x4 x5 x7 u)
    else (if (448 : Int32) ≤ (((x1 * (7 : Int32)) + x3) - x7) then
    (fX1_waysWithLast_91 (fX1_waysWithLast_14 n) x1 x2 x3 x4 x5 x7 u)
    else (if ((x2 * (7 : Int32)) + x7) < 0 ∨ 42 ≤ ((x2 * (7 : Int32)) + x7).toNatClampNeg then none else
    (if (((x1 * (7 : Int32)) + x3) - x7) < 0 ∨ 448 ≤ (((x1 * (7 : Int32)) + x3) - x7).toNatClampNeg then none else
    (fX1_waysWithLast_91 (fX1_waysWithLast_14 n) x1 x2 x3 x4 (x5 + ((u.2.2.1 ((x2 * (7 : Int32)) + x7).toNatClampNeg) * (u.2.2.2 (((x1 * (7 : Int32)) + x3) - x7).toNatClampNeg))) x7 u)))))))
def fX1_waysWithLast (x1 : Int32) (x2 : Int32) (x3 : Int32) (u : SD) : Option (Int64) :=
    (fJ6_bitCount_0f7a4 x1).bind (fun q1 =>
    fX1_waysWithLast_14 fu x1 x2 x3 (x3 - q1) (0 : Int64) (1 : Int32) u)
def fX1_countFreeingWith_72 (c19 : Int32 → Int32 → Int32 → Int32 → Int32 → SD → Option (SD)) (x1 : Int32) (x2 : Int32) (x3 : Int32) (x4 : Int32) (x5 : Int32) (u : SD) : Option (SD) :=
    c19 x1 x2 x3 x4 (x5 + (1 : Int32)) u
def fX1_countFreeingWith_19 : Nat → Int32 → Int32 → Int32 → Int32 → Int32 → SD → Option (SD)
  | 0, _, _, _, _, _, _ => none
  | n + 1, x1, x2, x3, x4, x5, u =>
    if x3 < x5 then
    (some u)
    else (if (7 : Int32) ≤ x5 then
    (some u)
    else (if ((x4 * (7 : Int32)) + x5) < 0 then
    (fX1_countFreeingWith_72 (fX1_countFreeingWith_19 n) x1 x2 x3 x4 x5 u)
    else (if (448 : Int32) ≤ ((x4 * (7 : Int32)) + x5) then
    (fX1_countFreeingWith_72 (fX1_countFreeingWith_19 n) x1 x2 x3 x4 x5 u)
    else ((fX1_waysWithLast x1 x2 x5 u).bind (fun q5 =>
    if ((x4 * (7 : Int32)) + x5) < 0 ∨ 448 ≤ ((x4 * (7 : Int32)) + x5).toNatClampNeg then none else
    (fX1_countFreeingWith_72 (fX1_countFreeingWith_19 n) x1 x2 x3 x4 x5 (u.1, u.2.1, u.2.2.1, (vp_updL u.2.2.2 (((x4 * (7 : Int32)) + x5).toNatClampNeg) q5))))))))
def fX1_countFreeingWith (x1 : Int32) (x2 : Int32) (u : SD) : Option (SD) :=
    (fX1_taken u).bind (fun q1 =>
    (fJ6_bitCount_0f7a4 (x1 ||| ((1 : Int32) <<< (x2 &&& 31)))).bind (fun q3 =>
    fX1_countFreeingWith_19 fu x1 x2 q1 (x1 ||| ((1 : Int32) <<< (x2 &&& 31))) q3 u))
def fX1_countFreeing_12 (c2 : Int32 → SD → Option (SD)) : Nat → Int32 → Int32 → SD → Option (SD)
  | 0, _, _, _ => none
  | n + 1, x1, x2, u =>
    if ((1 : Int32) <<< (x1 &&& 31)) ≤ x2 then
    (c2 (x1 + (1 : Int32)) u)
    else ((fX1_countFreeingWith x2 x1 u).bind (fun q2 =>
    fX1_countFreeing_12 c2 n x1 (x2 + (1 : Int32)) q2))
def fX1_countFreeing_2 : Nat → Int32 → SD → Option (SD)
  | 0, _, _ => none
  | n + 1, x1, u =>
    if (u.1 3) ≤ x1 then
    (some u)
    else (fX1_countFreeing_12 (fX1_countFreeing_2 n) fu x1 (0 : Int32) u)
def fX1_countFreeing (u : SD) : Option (SD) :=
    fX1_countFreeing_2 fu (0 : Int32) u
def fX1_everybody (u : SD) : Option (Int32) :=
    some (((1 : Int32) <<< ((u.1 3) &&& 31)) - (1 : Int32))
def fX1_freeingBy_39 (u : SD) : Option (Int64) :=
    some (0 : Int64)
def fX1_freeingBy (x1 : Int32) (x2 : Int32) (u : SD) : Option (Int64) :=
    if x1 < 0 then
    (fX1_freeingBy_39 u)
    else (if x2 < 0 then
    (fX1_freeingBy_39 u)
    else (if (7 : Int32) ≤ x2 then
    (fX1_freeingBy_39 u)
    else (if (448 : Int32) ≤ ((x1 * (7 : Int32)) + x2) then
    (fX1_freeingBy_39 u)
    else (if ((x1 * (7 : Int32)) + x2) < 0 ∨ 448 ≤ ((x1 * (7 : Int32)) + x2).toNatClampNeg then none else
    (some (u.2.2.2 ((x1 * (7 : Int32)) + x2).toNatClampNeg))))))
def fX1_drawsLeavingJust (x1 : Int32) (u : SD) : Option (Int64 × SD) :=
    (fX1_countFreeing u).bind (fun q1 =>
    (fX1_everybody q1).bind (fun q3 =>
    (fX1_taken q1).bind (fun q5 =>
    (fX1_freeingBy (q3 &&& (x1 ^^^ (-1 : Int32))) q5 q1).bind (fun q7 =>
    some (q7, q1)))))
def fX1_passesUnder (x1 : Int32) (u : SD) : Option (Int32) :=
    (fJ6_bitCount_0f7a4 (x1 &&& (u.1 4))).bind (fun q1 =>
    (fJ6_bitCount_0f7a4 (x1 &&& ((u.1 4) ^^^ (-1 : Int32)))).bind (fun q3 =>
    if q1 ≤ q3 then
    (if ¬ ((0 : Int32) &&& 1 = (0 : Int32)) then none else some (0 : Int32))
    else (if ¬ ((1 : Int32) &&& 1 = (1 : Int32)) then none else some (1 : Int32))))
def fX1_drawsPassing_49 (c14 : Int32 → Int64 → Int32 → SD → Option (Int64 × SD)) (x1 : Int32) (x2 : Int64) (x4 : Int32) (u : SD) : Option (Int64 × SD) :=
    c14 x1 x2 (x4 + (1 : Int32)) u
def fX1_drawsPassing_14 : Nat → Int32 → Int64 → Int32 → SD → Option (Int64 × SD)
  | 0, _, _, _, _ => none
  | n + 1, x1, x2, x4, u =>
    (fX1_everybody u).bind (fun q1 =>
    if q1 < x4 then
    (some (x2, u))
    else ((fX1_passesUnder x4 u).bind (fun q4 =>
    if q4 = 0 then
    (fX1_drawsPassing_49 (fX1_drawsPassing_14 n) x1 x2 x4 u)
    else ((fX1_everybody u).bind (fun q7 =>
    (fX1_freeingBy (q7 &&& (x4 ^^^ (-1 : Int32))) x1 u).bind (fun q9 =>
    fX1_drawsPassing_49 (fX1_drawsPassing_14 n) x1 (x2 + q9) x4 u))))))
def fX1_drawsPassing (u : SD) : Option (Int64 × SD) :=
    (fX1_countFreeing u).bind (fun q1 =>
    (fX1_taken q1).bind (fun q3 =>
    fX1_drawsPassing_14 fu q3 (0 : Int64) (0 : Int32) q1))
def fX1_passesByHalf (u : SD) : Option (Int32 × SD) :=
    (fX1_drawsPassing u).bind (fun q1 =>
    (fX1_draws q1.2).bind (fun q3 =>
    if (lg_cmp ((2 : Int64) * q1.1) q3) < 0 then
    (if ¬ ((0 : Int32) &&& 1 = (0 : Int32)) then none else some ((0 : Int32), q1.2))
    else (if ¬ ((1 : Int32) &&& 1 = (1 : Int32)) then none else some ((1 : Int32), q1.2))))
def fX1_canLeaveJust_42 (c14 : Int32 → Int32 → Int32 → SD → Option (Int32)) (x2 : Int32) (x3 : Int32) (x4 : Int32) (u : SD) : Option (Int32) :=
    c14 x2 x3 (x4 + (1 : Int32)) u
def fX1_canLeaveJust_71 (u : SD) : Option (Int32) :=
    if ¬ ((0 : Int32) &&& 1 = (0 : Int32)) then none else some (0 : Int32)
def fX1_canLeaveJust_14 : Nat → Int32 → Int32 → Int32 → SD → Option (Int32)
  | 0, _, _, _, _ => none
  | n + 1, x2, x3, x4, u =>
    if (u.1 3) ≤ x4 then
    ((fJ6_bitCount_0f7a4 x2).bind (fun q2 =>
    (fX1_taken u).bind (fun q4 =>
    if q4 < q2 then
    (fX1_canLeaveJust_71 u)
    else ((fX1_taken u).bind (fun q7 =>
    if x3 < q7 then
    (fX1_canLeaveJust_71 u)
    else (if ¬ ((1 : Int32) &&& 1 = (1 : Int32)) then none else some (1 : Int32)))))))
    else (if ((x2 >>> (x4 &&& 31)) &&& (1 : Int32)) = (1 : Int32) then
    ((fX1_slipsOfOne x4 u).bind (fun q11 =>
    fX1_canLeaveJust_42 (fX1_canLeaveJust_14 n) x2 (x3 + q11) x4 u))
    else (fX1_canLeaveJust_42 (fX1_canLeaveJust_14 n) x2 x3 x4 u))
def fX1_canLeaveJust (x1 : Int32) (u : SD) : Option (Int32) :=
    (fX1_everybody u).bind (fun q1 =>
    fX1_canLeaveJust_14 fu (q1 &&& (x1 ^^^ (-1 : Int32))) (0 : Int32) (0 : Int32) u)
def fX2_begin_29 : Nat → Nat → Int32 → SX → Option (Nat → SR)
  | 0, _, _, _ => none
  | n + 1, k0, x3, u =>
    if (60 : Int32) ≤ x3 then
    (some u.2.2.2.1)
    else (if x3 < 0 ∨ 60 ≤ x3.toNatClampNeg then none else
    (fX2_begin_29 n k0 (x3 + (1 : Int32)) (u.1, u.2.1, u.2.2.1, (va_up u.2.2.2.1 k0 ((u.2.2.2.1 k0).1, upd (u.2.2.2.1 k0).2 x3.toNatClampNeg (0 : Int32))), u.2.2.2.2)))
def fX2_begin (k0 : Nat) (x1 : Int32) (x2 : Int32) (u : SX) : Option (Nat → SR) :=
    if ¬ ((1 : Int32) &&& 1 = (1 : Int32)) then none else
    (fX2_begin_29 fu k0 (0 : Int32) (u.1, u.2.1, u.2.2.1, (va_up (va_up (va_up u.2.2.2.1 k0 (upd (u.2.2.2.1 k0).1 1 (1 : Int32), (u.2.2.2.1 k0).2)) k0 (upd ((va_up u.2.2.2.1 k0 (upd (u.2.2.2.1 k0).1 1 (1 : Int32), (u.2.2.2.1 k0).2)) k0).1 2 x1, ((va_up u.2.2.2.1 k0 (upd (u.2.2.2.1 k0).1 1 (1 : Int32), (u.2.2.2.1 k0).2)) k0).2)) k0 (upd ((va_up (va_up u.2.2.2.1 k0 (upd (u.2.2.2.1 k0).1 1 (1 : Int32), (u.2.2.2.1 k0).2)) k0 (upd ((va_up u.2.2.2.1 k0 (upd (u.2.2.2.1 k0).1 1 (1 : Int32), (u.2.2.2.1 k0).2)) k0).1 2 x1, ((va_up u.2.2.2.1 k0 (upd (u.2.2.2.1 k0).1 1 (1 : Int32), (u.2.2.2.1 k0).2)) k0).2)) k0).1 3 (if (0 : Int32) < (if (60 : Int32) < x2 then (60 : Int32) else x2) then (if (60 : Int32) < x2 then (60 : Int32) else x2) else (0 : Int32)), ((va_up (va_up u.2.2.2.1 k0 (upd (u.2.2.2.1 k0).1 1 (1 : Int32), (u.2.2.2.1 k0).2)) k0 (upd ((va_up u.2.2.2.1 k0 (upd (u.2.2.2.1 k0).1 1 (1 : Int32), (u.2.2.2.1 k0).2)) k0).1 2 x1, ((va_up u.2.2.2.1 k0 (upd (u.2.2.2.1 k0).1 1 (1 : Int32), (u.2.2.2.1 k0).2)) k0).2)) k0).2)), u.2.2.2.2))
def fX2_end (k0 : Nat) (u : SX) : Option (Nat → SR) :=
    if ¬ ((0 : Int32) &&& 1 = (0 : Int32)) then none else
    (some (va_up u.2.2.2.1 k0 (upd (u.2.2.2.1 k0).1 1 (0 : Int32), (u.2.2.2.1 k0).2)))
def fX2_holds_30 (r : SR) : Option (Int32) :=
    if ¬ ((0 : Int32) &&& 1 = (0 : Int32)) then none else some (0 : Int32)
def fX2_holds (x1 : Int32) (x2 : Int32) (r : SR) : Option (Int32) :=
    if x1 < 0 then
    (fX2_holds_30 r)
    else (if x2 < 0 then
    (fX2_holds_30 r)
    else (if (r.1 3) < x1 then
    (fX2_holds_30 r)
    else (if ((r.1 3) - x1) < x2 then
    (fX2_holds_30 r)
    else (if ¬ ((1 : Int32) &&& 1 = (1 : Int32)) then none else some (1 : Int32)))))
def fX2_at_22 (r : SR) : Option (Int32) :=
    some (0 : Int32)
def fX2_at (x1 : Int32) (r : SR) : Option (Int32) :=
    if x1 < 0 then
    (fX2_at_22 r)
    else (if (60 : Int32) ≤ x1 then
    (fX2_at_22 r)
    else (if x1 < 0 ∨ 60 ≤ x1.toNatClampNeg then none else
    (some (r.2 x1.toNatClampNeg))))
def fX2_cut (x1 : Int32) (r : SR) : Option (Int32) :=
    if (r.1 2) = (0 : Int32) then
    (some x1.toInt8.toInt32)
    else if (r.1 2) = (1 : Int32) then
    (some x1.toInt16.toInt32)
    else (some x1)
def fX2_set (k0 : Nat) (x1 : Int32) (x2 : Int32) (u : SX) : Option (Nat → SR) :=
    if x1 < 0 then
    (some u.2.2.2.1)
    else (if (60 : Int32) ≤ x1 then
    (some u.2.2.2.1)
    else ((fX2_cut x2 (u.2.2.2.1 k0)).bind (fun q3 =>
    if x1 < 0 ∨ 60 ≤ x1.toNatClampNeg then none else
    (some (va_up u.2.2.2.1 k0 ((u.2.2.2.1 k0).1, upd (u.2.2.2.1 k0).2 x1.toNatClampNeg q3))))))
def fX2_has_3 : Nat → Int32 → Int32 → Int32 → Int32 → SR → Option (Int32)
  | 0, _, _, _, _, _ => none
  | n + 1, x1, x2, x3, x4, r =>
    if x3 ≤ x4 then
    (if ¬ ((0 : Int32) &&& 1 = (0 : Int32)) then none else some (0 : Int32))
    else ((fX2_at (x2 + x4) r).bind (fun q2 =>
    if q2 = x1 then
    (if ¬ ((1 : Int32) &&& 1 = (1 : Int32)) then none else some (1 : Int32))
    else (fX2_has_3 n x1 x2 x3 (x4 + (1 : Int32)) r)))
def fX2_has (x1 : Int32) (x2 : Int32) (x3 : Int32) (r : SR) : Option (Int32) :=
    fX2_has_3 fu x1 x2 x3 (0 : Int32) r
def fX3_isDigit_20 : Option (Int32) :=
    if ¬ ((0 : Int32) &&& 1 = (0 : Int32)) then none else some (0 : Int32)
def fX3_isDigit (x0 : Int32) (x1 : Int32) (x2 : Int32) : Option (Int32) :=
    if x0 < ((48 : Int32) + x1) then
    (fX3_isDigit_20)
    else (if ((48 : Int32) + x2) < x0 then
    (fX3_isDigit_20)
    else (if ¬ ((1 : Int32) &&& 1 = (1 : Int32)) then none else some (1 : Int32)))
def fX3_citizenGoesOnWith_66 : Option (Int32) :=
    if ¬ ((1 : Int32) &&& 1 = (1 : Int32)) then none else some (1 : Int32)
def fX3_citizenGoesOnWith_100 : Option (Int32) :=
    if ¬ ((1 : Int32) &&& 1 = (1 : Int32)) then none else some (1 : Int32)
def fX3_citizenGoesOnWith (x0 : Int32) (x1 : Int32) : Option (Int32) :=
    if x1 = (0 : Int32) then
    (if x0 = (59 : Int32) then
    (if ¬ ((1 : Int32) &&& 1 = (1 : Int32)) then none else some (1 : Int32))
    else (if ¬ ((0 : Int32) &&& 1 = (0 : Int32)) then none else some (0 : Int32)))
    else if x1 = (1 : Int32) then
    (if x0 = (99 : Int32) then
    (fX3_citizenGoesOnWith_66)
    else (if x0 = (114 : Int32) then
    (fX3_citizenGoesOnWith_66)
    else (if x0 = (109 : Int32) then
    (fX3_citizenGoesOnWith_66)
    else (if ¬ ((0 : Int32) &&& 1 = (0 : Int32)) then none else some (0 : Int32)))))
    else if x1 = (2 : Int32) then
    ((fX3_isDigit x0 (1 : Int32) (9 : Int32)).bind (fun q8 =>
    if ¬ (q8 &&& 1 = q8) then none else some q8))
    else if x1 = (3 : Int32) then
    ((fX3_isDigit x0 (0 : Int32) (9 : Int32)).bind (fun q11 =>
    if ¬ (q11 &&& 1 = q11) then none else some q11))
    else if x1 = (4 : Int32) then
    ((fX3_isDigit x0 (0 : Int32) (9 : Int32)).bind (fun q14 =>
    if ¬ (q14 &&& 1 = q14) then none else some q14))
    else (if x0 = (121 : Int32) then
    (fX3_citizenGoesOnWith_100)
    else (if x0 = (110 : Int32) then
    (fX3_citizenGoesOnWith_100)
    else (if ¬ ((0 : Int32) &&& 1 = (0 : Int32)) then none else some (0 : Int32))))
def fX3_goesOnWith_79 : Option (Int32) :=
    if ¬ ((0 : Int32) &&& 1 = (0 : Int32)) then none else some (0 : Int32)
def fX3_goesOnWith (x0 : Int32) (x1 : Int32) : Option (Int32) :=
    if x1 = (0 : Int32) then
    (if x0 = (108 : Int32) then
    (if ¬ ((1 : Int32) &&& 1 = (1 : Int32)) then none else some (1 : Int32))
    else (if ¬ ((0 : Int32) &&& 1 = (0 : Int32)) then none else some (0 : Int32)))
    else if x1 = (1 : Int32) then
    ((fX3_isDigit x0 (0 : Int32) (6 : Int32)).bind (fun q4 =>
    if ¬ (q4 &&& 1 = q4) then none else some q4))
    else if x1 = (2 : Int32) then
    ((fX3_isDigit x0 (1 : Int32) (9 : Int32)).bind (fun q7 =>
    if ¬ (q7 &&& 1 = q7) then none else some q7))
    else (if (39 : Int32) ≤ x1 then
    (fX3_goesOnWith_79)
    else (if (6 : Int32) = 0 then none else
    ((fX3_citizenGoesOnWith x0 ((x1 - (3 : Int32)) - (x1 - (3 : Int32)) / (6 : Int32) * (6 : Int32))).bind (fun q11 =>
    if q11 = 0 then
    (fX3_goesOnWith_79)
    else (if ¬ ((1 : Int32) &&& 1 = (1 : Int32)) then none else some (1 : Int32))))))
def fX3_firstFault_49 (x2 : Int32) (xs0 : Int32) (r : SR) : Option (Int32) :=
    if xs0 = 0 then
    (some x2)
    else (some (-9 : Int32))
def fX3_firstFault_48 (x2 : Int32) (r : SR) : Option (Int32) :=
    fX3_firstFault_49 x2 (0 : Int32) r
def fX3_firstFault_2 : Nat → Int32 → Int32 → Int32 → SR → Option (Int32)
  | 0, _, _, _, _ => none
  | n + 1, x1, x2, x3, r =>
    if x2 ≤ x3 then
    (if x2 < (9 : Int32) then
    (fX3_firstFault_48 x2 r)
    else (if (6 : Int32) = 0 then none else
    (if ((x2 - (3 : Int32)) - (x2 - (3 : Int32)) / (6 : Int32) * (6 : Int32)) = 0 then
    (fX3_firstFault_49 x2 (1 : Int32) r)
    else (fX3_firstFault_48 x2 r))))
    else ((fX2_at (x1 + x3) r).bind (fun q5 =>
    (fX3_goesOnWith q5 x3).bind (fun q7 =>
    if q7 = 0 then
    (some x3)
    else (fX3_firstFault_2 n x1 x2 (x3 + (1 : Int32)) r))))
def fX3_firstFault (x1 : Int32) (x2 : Int32) (r : SR) : Option (Int32) :=
    fX3_firstFault_2 fu x1 x2 (0 : Int32) r
def fX3_digit (x0 : Int32) : Option (Int32) :=
    some (x0 - (48 : Int32))
def fX3_citizensIn (x0 : Int32) : Option (Int32) :=
    if (6 : Int32) = 0 then none else
    (some (if (6 : Int32) < ((x0 - (3 : Int32)) / (6 : Int32)) then (6 : Int32) else ((x0 - (3 : Int32)) / (6 : Int32))))
def fX3_tellCitizen_93 (ks0 : Nat) (xs1 : Int32) (u : SX) : Option (Nat → Nat → Int32) :=
    if ¬ (xs1 &&& 1 = xs1) then none else
    (some (va_up u.2.2.1 ks0 (upd (u.2.2.1 ks0) 3 xs1)))
def fX3_tellCitizen_30 (k0 : Nat) (x1 : Int32) (k2 : Nat) (ks0 : Nat) (xs1 : Int32) (u : SX) : Option (Nat → Nat → Int32) :=
    (fX2_at (x1 + (2 : Int32)) (u.2.2.2.1 k0)).bind (fun q1 =>
    (fX3_digit q1).bind (fun q3 =>
    (fX2_at (x1 + (3 : Int32)) (u.2.2.2.1 k0)).bind (fun q5 =>
    (fX3_digit q5).bind (fun q7 =>
    (fX2_at (x1 + (4 : Int32)) (u.2.2.2.1 k0)).bind (fun q9 =>
    (fX3_digit q9).bind (fun q11 =>
    (fX2_at (x1 + (5 : Int32)) (u.2.2.2.1 k0)).bind (fun q13 =>
    if q13 = (121 : Int32) then
    (fX3_tellCitizen_93 k2 (1 : Int32) (u.1, u.2.1, (va_up (va_up (va_up u.2.2.1 ks0 (upd (u.2.2.1 ks0) 0 xs1)) k2 (upd ((va_up u.2.2.1 ks0 (upd (u.2.2.1 ks0) 0 xs1)) k2) 1 q3)) k2 (upd ((va_up (va_up u.2.2.1 ks0 (upd (u.2.2.1 ks0) 0 xs1)) k2 (upd ((va_up u.2.2.1 ks0 (upd (u.2.2.1 ks0) 0 xs1)) k2) 1 q3)) k2) 2 (((10 : Int32) * q7) + q11))), u.2.2.2.1, u.2.2.2.2))
    else (fX3_tellCitizen_93 k2 (0 : Int32) (u.1, u.2.1, (va_up (va_up (va_up u.2.2.1 ks0 (upd (u.2.2.1 ks0) 0 xs1)) k2 (upd ((va_up u.2.2.1 ks0 (upd (u.2.2.1 ks0) 0 xs1)) k2) 1 q3)) k2 (upd ((va_up (va_up u.2.2.1 ks0 (upd (u.2.2.1 ks0) 0 xs1)) k2 (upd ((va_up u.2.2.1 ks0 (upd (u.2.2.1 ks0) 0 xs1)) k2) 1 q3)) k2) 2 (((10 : Int32) * q7) + q11))), u.2.2.2.1, u.2.2.2.2)))))))))
def fX3_tellCitizen (k0 : Nat) (x1 : Int32) (k2 : Nat) (u : SX) : Option (Nat → Nat → Int32) :=
    (fX2_at (x1 + (1 : Int32)) (u.2.2.2.1 k0)).bind (fun q1 =>
    if q1 = (109 : Int32) then
    (fX3_tellCitizen_30 k0 x1 k2 k2 (2 : Int32) u)
    else (if q1 = (114 : Int32) then
    (fX3_tellCitizen_30 k0 x1 k2 k2 (1 : Int32) u)
    else (fX3_tellCitizen_30 k0 x1 k2 k2 (0 : Int32) u)))
def fX4_isSheet_13 : Option (Int32) :=
    if ¬ ((0 : Int32) &&& 1 = (0 : Int32)) then none else some (0 : Int32)
def fX4_isSheet (x0 : Int32) : Option (Int32) :=
    if x0 < 0 then
    (fX4_isSheet_13)
    else (if (4 : Int32) ≤ x0 then
    (fX4_isSheet_13)
    else (if ¬ ((1 : Int32) &&& 1 = (1 : Int32)) then none else some (1 : Int32)))
def fX4_isLane_13 : Option (Int32) :=
    if ¬ ((0 : Int32) &&& 1 = (0 : Int32)) then none else some (0 : Int32)
def fX4_isLane (x0 : Int32) : Option (Int32) :=
    if x0 < 0 then
    (fX4_isLane_13)
    else (if (3 : Int32) ≤ x0 then
    (fX4_isLane_13)
    else (if ¬ ((1 : Int32) &&& 1 = (1 : Int32)) then none else some (1 : Int32)))
def fX4_placeOf_25 (u : SX) : Option (Option Nat) :=
    some none
def fX4_placeOf (x1 : Int32) (u : SX) : Option (Option Nat) :=
    (fX4_isSheet x1).bind (fun q1 =>
    if q1 = 0 then
    (fX4_placeOf_25 u)
    else (if (4 : Int32) ≤ x1 then
    (fX4_placeOf_25 u)
    else (if x1 < 0 ∨ 4 ≤ x1.toNatClampNeg then none else
    (some (some x1.toNatClampNeg)))))
def fX4_rowOf_21 (u : SX) : Option (Option Nat) :=
    some none
def fX4_rowOf (x1 : Int32) (u : SX) : Option (Option Nat) :=
    (fX4_placeOf x1 u).bind (fun q1 => q1.elim
    (fX4_rowOf_21 u)
    (fun k3 => if ¬ k3 < 4 then none else (if ((u.2.2.2.1 k3).1 1) = 0 then
    (fX4_rowOf_21 u)
    else (some (some k3)))))
def fX4_faultOf (x1 : Int32) (x2 : Int32) (x3 : Int32) (r : SR) : Option (Int32) :=
    if (r.1 2) = x1 then
    (if 0 ≤ x3 then
    ((fX2_holds x2 x3 r).bind (fun q3 =>
    if q3 = 0 then
    (some (3 : Int32))
    else (some (0 : Int32))))
    else (some (4 : Int32)))
    else (some (2 : Int32))
def fX4_faultOfN (x1 : Int32) (x2 : Int32) (x3 : Int32) : Option (Int32) :=
    some (1 : Int32)
def fX4_faulted (x1 : Int32) (u : SX) : Option (Int32 × SX) :=
    some (((-10 : Int32) - x1), ((upd u.1 9 x1), u.2.1, u.2.2.1, u.2.2.2.1, u.2.2.2.2))
def fX4_citizen_30 (u : SX) : Option (Option Nat) :=
    some none
def fX4_citizen (x1 : Int32) (u : SX) : Option (Option Nat) :=
    if x1 < 0 then
    (fX4_citizen_30 u)
    else (if (u.1 1) ≤ x1 then
    (fX4_citizen_30 u)
    else (if (6 : Int32) ≤ x1 then
    (fX4_citizen_30 u)
    else (if x1 < 0 ∨ 6 ≤ x1.toNatClampNeg then none else
    (some (some x1.toNatClampNeg)))))
def fX4_takeText_81 (c44 : Nat → Int32 → Int32 → SX → Option (SX)) (k1 : Nat) (x2 : Int32) (x4 : Int32) (u : SX) : Option (SX) :=
    c44 k1 x2 (x4 + (1 : Int32)) u
def fX4_takeText_44 : Nat → Nat → Int32 → Int32 → SX → Option (SX)
  | 0, _, _, _, _ => none
  | n + 1, k1, x2, x4, u =>
    if (u.1 1) ≤ x4 then
    (some u)
    else ((fX4_citizen x4 u).bind (fun q2 => q2.elim
    (fX4_takeText_81 (fX4_takeText_44 n) k1 x2 x4 u)
    (fun k4 => if ¬ k4 < 6 then none else ((fX3_tellCitizen k1 ((x2 + (3 : Int32)) + (x4 * (6 : Int32))) k4 u).bind (fun q6 =>
    fX4_takeText_81 (fX4_takeText_44 n) k1 x2 x4 (u.1, u.2.1, q6, u.2.2.2.1, u.2.2.2.2))))))
def fX4_takeText (k1 : Nat) (x2 : Int32) (x3 : Int32) (u : SX) : Option (SX) :=
    (fX3_citizensIn x3).bind (fun q1 =>
    (fX2_at (x2 + (1 : Int32)) (u.2.2.2.1 k1)).bind (fun q3 =>
    (fX3_digit q3).bind (fun q5 =>
    (fX2_at (x2 + (2 : Int32)) (u.2.2.2.1 k1)).bind (fun q7 =>
    (fX3_digit q7).bind (fun q9 =>
    fX4_takeText_44 fu k1 x2 (0 : Int32) ((upd (upd (upd (upd u.1 1 q1) 2 q5) 3 q9) 5 (0 : Int32)), u.2.1, u.2.2.1, u.2.2.2.1, u.2.2.2.2))))))
def fX4_republic_52 (x6 : Int32) (u : SX) : Option (Int32 × SX) :=
    (fX4_faulted x6 u).bind (fun q1 =>
    some (q1.1, q1.2))
def fX4_republic (x1 : Int32) (x2 : Int32) (x3 : Int32) (x4 : Int32) (u : SX) : Option (Int32 × SX) :=
    (fX4_isSheet x1).bind (fun q1 =>
    if q1 = 0 then
    (some ((-1 : Int32), ((upd u.1 9 (0 : Int32)), u.2.1, u.2.2.1, u.2.2.2.1, u.2.2.2.2)))
    else ((fX4_isLane x2).bind (fun q4 =>
    if q4 = 0 then
    (some ((-2 : Int32), ((upd u.1 9 (0 : Int32)), u.2.1, u.2.2.1, u.2.2.2.1, u.2.2.2.2)))
    else ((fX4_rowOf x1 ((upd u.1 9 (0 : Int32)), u.2.1, u.2.2.1, u.2.2.2.1, u.2.2.2.2)).bind (fun q7 => q7.elim
    ((fX4_faultOfN x2 x3 x4).bind (fun q11 =>
    fX4_republic_52 q11 ((upd u.1 9 (0 : Int32)), u.2.1, u.2.2.1, u.2.2.2.1, u.2.2.2.2)))
    (fun k9 => if ¬ k9 < 4 then none else ((fX4_faultOf x2 x3 x4 (u.2.2.2.1 k9)).bind (fun q13 =>
    if q13 = 0 then
    ((fX3_firstFault x3 x4 (u.2.2.2.1 k9)).bind (fun q16 =>
    if q16 = (-9 : Int32) then
    ((fX4_takeText k9 x3 x4 ((upd u.1 9 (0 : Int32)), u.2.1, u.2.2.1, u.2.2.2.1, u.2.2.2.2)).bind (fun q19 =>
    some ((q19.1 1), q19)))
    else (some (((-100 : Int32) - q16), ((upd u.1 9 (0 : Int32)), u.2.1, u.2.2.1, u.2.2.2.1, u.2.2.2.2)))))
    else (fX4_republic_52 q13 ((upd u.1 9 (0 : Int32)), u.2.1, u.2.2.1, u.2.2.2.1, u.2.2.2.2))))))))))
def fX4_slipsAhead_31 (c4 : Int32 → Int32 → Int32 → SX → Option (Int32)) (x1 : Int32) (x3 : Int32) (xs0 : Int32) (xs1 : Int32) (u : SX) : Option (Int32) :=
    c4 x1 (xs0 + xs1) (x3 + (1 : Int32)) u
def fX4_slipsAhead_4 : Nat → Int32 → Int32 → Int32 → SX → Option (Int32)
  | 0, _, _, _, _ => none
  | n + 1, x1, x2, x3, u =>
    if x1 ≤ x3 then
    (some x2)
    else ((fX4_citizen x3 u).bind (fun q2 => q2.elim
    (fX4_slipsAhead_31 (fX4_slipsAhead_4 n) x1 x3 x2 (0 : Int32) u)
    (fun k4 => if ¬ k4 < 6 then none else ((fX0_slips (u.2.2.1 k4)).bind (fun q6 =>
    fX4_slipsAhead_31 (fX4_slipsAhead_4 n) x1 x3 x2 q6 u)))))
def fX4_slipsAhead (x1 : Int32) (u : SX) : Option (Int32) :=
    fX4_slipsAhead_4 fu x1 (0 : Int32) (0 : Int32) u
def fX4_ofCitizen (x1 : Int32) (x2 : Int32) (u : SX) : Option (Int32) :=
    (fX4_citizen x1 u).bind (fun q1 => q1.elim
    (some (-1 : Int32))
    (fun k3 => if ¬ k3 < 6 then none else (if x2 = (0 : Int32) then
    (some (u.2.2.1 k3 0))
    else if x2 = (1 : Int32) then
    (some (u.2.2.1 k3 1))
    else if x2 = (2 : Int32) then
    (some (u.2.2.1 k3 2))
    else if x2 = (3 : Int32) then
    (if (u.2.2.1 k3 3) = 0 then
    (some (0 : Int32))
    else (some (1 : Int32)))
    else if x2 = (4 : Int32) then
    ((fX0_slips (u.2.2.1 k3)).bind (fun q11 =>
    some q11))
    else if x2 = (5 : Int32) then
    ((fX4_slipsAhead x1 u).bind (fun q14 =>
    some q14))
    else (some (-2 : Int32)))))
def fX4_drawn_10 (u : SX) : Option (Int32 × SX) :=
    some ((-2 : Int32), u)
def fX4_drawn (x1 : Int32) (u : SX) : Option (Int32 × SX) :=
    if x1 < 0 then
    (fX4_drawn_10 u)
    else (if x1 ≤ (6 : Int32) then
    (if (u.1 1) = 0 then
    (some ((-3 : Int32), u))
    else (some ((u.1 2), ((upd u.1 2 x1), u.2.1, u.2.2.1, u.2.2.2.1, u.2.2.2.2))))
    else (fX4_drawn_10 u))
def fX4_price_11 (u : SX) : Option (Int32 × SX) :=
    some ((-2 : Int32), u)
def fX4_price (x1 : Int32) (u : SX) : Option (Int32 × SX) :=
    if x1 < (1 : Int32) then
    (fX4_price_11 u)
    else (if x1 ≤ (9 : Int32) then
    (if (u.1 1) = 0 then
    (some ((-3 : Int32), u))
    else (some ((u.1 3), ((upd u.1 3 x1), u.2.1, u.2.2.1, u.2.2.2.1, u.2.2.2.2))))
    else (fX4_price_11 u))
def fX4_wish (x1 : Int32) (x2 : Int32) (u : SX) : Option (Int32 × SX) :=
    (fX4_citizen x1 u).bind (fun q1 => q1.elim
    (some ((-1 : Int32), u))
    (fun k3 => if ¬ k3 < 6 then none else (if (u.2.2.1 k3 3) = x2 then
    (some ((0 : Int32), u))
    else (if ¬ (x2 &&& 1 = x2) then none else
    (some ((1 : Int32), (u.1, u.2.1, (va_up u.2.2.1 k3 (upd (u.2.2.1 k3) 3 x2)), u.2.2.2.1, u.2.2.2.2)))))))
def fX4_ownerOf_39 (c4 : Int32 → Int32 → Int32 → SX → Option (Int32)) (x1 : Int32) (x3 : Int32) (xs0 : Int32) (xs1 : Int32) (u : SX) : Option (Int32) :=
    if (xs0 + xs1) ≤ x1 then
    (c4 x1 (xs0 + xs1) (x3 + (1 : Int32)) u)
    else (some x3)
def fX4_ownerOf_54 (u : SX) : Option (Int32) :=
    some (-9 : Int32)
def fX4_ownerOf_4 : Nat → Int32 → Int32 → Int32 → SX → Option (Int32)
  | 0, _, _, _, _ => none
  | n + 1, x1, x2, x3, u =>
    if (u.1 1) ≤ x3 then
    (fX4_ownerOf_54 u)
    else (if x1 < x2 then
    (fX4_ownerOf_54 u)
    else ((fX4_citizen x3 u).bind (fun q3 => q3.elim
    (fX4_ownerOf_39 (fX4_ownerOf_4 n) x1 x3 x2 (0 : Int32) u)
    (fun k5 => if ¬ k5 < 6 then none else ((fX0_slips (u.2.2.1 k5)).bind (fun q7 =>
    fX4_ownerOf_39 (fX4_ownerOf_4 n) x1 x3 x2 q7 u))))))
def fX4_ownerOf (x1 : Int32) (u : SX) : Option (Int32) :=
    fX4_ownerOf_4 fu x1 (0 : Int32) (0 : Int32) u
def fX4_firstWrong_42 (x4 : Int32) (u : SX) : Option (Int32) :=
    some x4
def fX4_firstWrong_3 : Nat → Nat → Int32 → Int32 → Int32 → SX → Option (Int32)
  | 0, _, _, _, _, _ => none
  | n + 1, k1, x2, x3, x4, u =>
    if x3 ≤ x4 then
    (some (-9 : Int32))
    else ((fX2_at (x2 + x4) (u.2.2.2.1 k1)).bind (fun q2 =>
    (fX4_ownerOf q2 u).bind (fun q4 =>
    if q4 = (-9 : Int32) then
    (fX4_firstWrong_42 x4 u)
    else ((fX2_has q2 x2 x4 (u.2.2.2.1 k1)).bind (fun q7 =>
    if q7 = 0 then
    (fX4_firstWrong_3 n k1 x2 x3 (x4 + (1 : Int32)) u)
    else (fX4_firstWrong_42 x4 u))))))
def fX4_firstWrong (k1 : Nat) (x2 : Int32) (x3 : Int32) (u : SX) : Option (Int32) :=
    fX4_firstWrong_3 fu k1 x2 x3 (0 : Int32) u
def fX4_rulersBy_51 (c13 : Nat → Int32 → Int32 → Int32 → Int32 → SX → Option (Int32)) (k1 : Nat) (x2 : Int32) (x3 : Int32) (x4 : Int32) (x5 : Int32) (u : SX) : Option (Int32) :=
    c13 k1 x2 x3 x4 (x5 + (1 : Int32)) u
def fX4_rulersBy_13 : Nat → Nat → Int32 → Int32 → Int32 → Int32 → SX → Option (Int32)
  | 0, _, _, _, _, _, _ => none
  | n + 1, k1, x2, x3, x4, x5, u =>
    if x3 ≤ x5 then
    (some x4)
    else ((fX2_at (x2 + x5) (u.2.2.2.1 k1)).bind (fun q2 =>
    (fX4_ownerOf q2 u).bind (fun q4 =>
    if q4 = (-9 : Int32) then
    (fX4_rulersBy_51 (fX4_rulersBy_13 n) k1 x2 x3 x4 x5 u)
    else (fX4_rulersBy_51 (fX4_rulersBy_13 n) k1 x2 x3 (x4 &&& (((1 : Int32) <<< (q4 &&& 31)) ^^^ (-1 : Int32))) x5 u))))
def fX4_rulersBy (k1 : Nat) (x2 : Int32) (x3 : Int32) (u : SX) : Option (Int32) :=
    fX4_rulersBy_13 fu k1 x2 x3 (((1 : Int32) <<< ((u.1 1) &&& 31)) - (1 : Int32)) (0 : Int32) u
def fX4_fillDrum_59 (c17 : Int32 → SX → Option (SX)) (x1 : Int32) (u : SX) : Option (SX) :=
    c17 (x1 + (1 : Int32)) u
def fX4_fillDrum_17 : Nat → Int32 → SX → Option (SX)
  | 0, _, _ => none
  | n + 1, x1, u =>
    if (u.1 1) ≤ x1 then
    (some u)
    else ((fX4_citizen x1 u).bind (fun q2 => q2.elim
    (fX4_fillDrum_59 (fX4_fillDrum_17 n) x1 u)
    (fun k4 => if ¬ k4 < 6 then none else ((fX0_slips (u.2.2.1 k4)).bind (fun q6 =>
    (fX1_setSlips x1 q6 u.2.2.2.2).bind (fun q8 =>
    (fX1_setWishes x1 (u.2.2.1 k4 3) q8).bind (fun q10 =>
    fX4_fillDrum_59 (fX4_fillDrum_17 n) x1 (u.1, u.2.1, u.2.2.1, u.2.2.2.1, q10))))))))
def fX4_fillDrum (u : SX) : Option (SX) :=
    (fX1_empty (u.1 1) (u.1 2) u.2.2.2.2).bind (fun q1 =>
    fX4_fillDrum_17 fu (0 : Int32) (u.1, u.2.1, u.2.2.1, u.2.2.2.1, q1))
def fX4_draw_44 (u : SX) : Option (Int32 × SX) :=
    some ((-2 : Int32), u)
def fX4_draw_85 (x7 : Int32) (u : SX) : Option (Int32 × SX) :=
    (fX4_faulted x7 u).bind (fun q1 =>
    some (q1.1, q1.2))
def fX4_draw (x1 : Int32) (x2 : Int32) (x3 : Int32) (x4 : Int32) (x5 : Int32) (u : SX) : Option (Int32 × SX) :=
    (fX4_isSheet x1).bind (fun q1 =>
    if q1 = 0 then
    (some ((-1 : Int32), ((upd u.1 9 (0 : Int32)), u.2.1, u.2.2.1, u.2.2.2.1, u.2.2.2.2)))
    else ((fX4_isLane x2).bind (fun q4 =>
    if q4 = 0 then
    (fX4_draw_44 ((upd u.1 9 (0 : Int32)), u.2.1, u.2.2.1, u.2.2.2.1, u.2.2.2.2))
    else (if x4 < 0 then
    (fX4_draw_44 ((upd u.1 9 (0 : Int32)), u.2.1, u.2.2.1, u.2.2.2.1, u.2.2.2.2))
    else (if (20 : Int32) < x4 then
    (fX4_draw_44 ((upd u.1 9 (0 : Int32)), u.2.1, u.2.2.1, u.2.2.2.1, u.2.2.2.2))
    else (if x5 < 0 then
    (fX4_draw_44 ((upd u.1 9 (0 : Int32)), u.2.1, u.2.2.1, u.2.2.2.1, u.2.2.2.2))
    else (if x5 ≤ (2 : Int32) then
    (if ((upd u.1 9 (0 : Int32)) 1) = 0 then
    (some ((-3 : Int32), ((upd u.1 9 (0 : Int32)), u.2.1, u.2.2.1, u.2.2.2.1, u.2.2.2.2)))
    else ((fX4_rowOf x1 ((upd u.1 9 (0 : Int32)), u.2.1, u.2.2.1, u.2.2.2.1, u.2.2.2.2)).bind (fun q12 => q12.elim
    ((fX4_faultOfN x2 x3 x4).bind (fun q16 =>
    fX4_draw_85 q16 ((upd u.1 9 (0 : Int32)), u.2.1, u.2.2.1, u.2.2.2.1, u.2.2.2.2)))
    (fun k14 => if ¬ k14 < 4 then none else ((fX4_faultOf x2 x3 x4 (u.2.2.2.1 k14)).bind (fun q18 =>
    if q18 = 0 then
    ((fX4_firstWrong k14 x3 x4 ((upd u.1 9 (0 : Int32)), u.2.1, u.2.2.1, u.2.2.2.1, u.2.2.2.2)).bind (fun q21 =>
    if x5 = (1 : Int32) then
    (some (q21, ((upd u.1 9 (0 : Int32)), u.2.1, u.2.2.1, u.2.2.2.1, u.2.2.2.2)))
    else (if q21 = (-9 : Int32) then
    ((fX4_rulersBy k14 x3 x4 ((upd u.1 9 (0 : Int32)), u.2.1, u.2.2.1, u.2.2.2.1, u.2.2.2.2)).bind (fun q25 =>
    if x5 = 0 then
    (some (q25, ((upd u.1 9 (0 : Int32)), u.2.1, u.2.2.1, u.2.2.2.1, u.2.2.2.2)))
    else ((fX4_fillDrum ((upd u.1 9 (0 : Int32)), u.2.1, u.2.2.1, u.2.2.2.1, u.2.2.2.2)).bind (fun q28 =>
    (fX1_passesUnder q25 q28.2.2.2.2).bind (fun q30 =>
    if q30 = 0 then
    (some ((0 : Int32), q28))
    else (some ((1 : Int32), q28)))))))
    else (some (((-100 : Int32) - q21), ((upd u.1 9 (0 : Int32)), u.2.1, u.2.2.1, u.2.2.2.1, u.2.2.2.2))))))
    else (fX4_draw_85 q18 ((upd u.1 9 (0 : Int32)), u.2.1, u.2.2.1, u.2.2.2.1, u.2.2.2.2))))))))
    else (fX4_draw_44 ((upd u.1 9 (0 : Int32)), u.2.1, u.2.2.1, u.2.2.2.1, u.2.2.2.2)))))))))
def fX4_isWhich_9 : Option (Int32) :=
    if ¬ ((1 : Int32) &&& 1 = (1 : Int32)) then none else some (1 : Int32)
def fX4_isWhich (x0 : Int32) : Option (Int32) :=
    if x0 = 0 then
    (fX4_isWhich_9)
    else (if x0 = (1 : Int32) then
    (fX4_isWhich_9)
    else (if ¬ ((0 : Int32) &&& 1 = (0 : Int32)) then none else some (0 : Int32)))
def fX4_partOf_54 (x5 : Int64) (xs0 : Int64) : Option (Int64) :=
    if (lg_cmp x5 (0 : Int64)) = 0 then
    (some xs0)
    else (if x5 = 0 then none else
    (some (xs0 / x5)))
def fX4_partOf_44 (x0 : Int64) (x2 : Int64) (x4 : Int32) (x5 : Int64) : Option (Int64) :=
    if x4 = 0 then
    (fX4_partOf_54 x5 x0)
    else (fX4_partOf_54 x5 x2)
def fX4_partOf_9 : Nat → Int64 → Int64 → Int32 → Int64 → Int64 → Int32 → Option (Int64)
  | 0, _, _, _, _, _, _ => none
  | n + 1, x0, x2, x4, x5, x7, x9 =>
    if (100 : Int32) ≤ x9 then
    (fX4_partOf_44 x0 x2 x4 x5)
    else (if (lg_cmp x7 (0 : Int64)) = 0 then
    (fX4_partOf_44 x0 x2 x4 x5)
    else (if x7 = 0 then none else
    (fX4_partOf_9 n x0 x2 x4 x7 (x5 - x5 / x7 * x7) (x9 + (1 : Int32)))))
def fX4_partOf (x0 : Int64) (x2 : Int64) (x4 : Int32) : Option (Int64) :=
    fX4_partOf_9 fu x0 x2 x4 x0 x2 (0 : Int32)
def fX4_rules_15 (u : SX) : Option (Int64 × SX) :=
    some ((-9223372036854775808 : Int64), u)
def fX4_rules (x1 : Int32) (x2 : Int32) (u : SX) : Option (Int64 × SX) :=
    (fX4_citizen x1 u).bind (fun q1 => q1.elim
    (fX4_rules_15 u)
    (fun k3 => if ¬ k3 < 6 then none else ((fX4_isWhich x2).bind (fun q5 =>
    if q5 = 0 then
    (fX4_rules_15 u)
    else ((fX4_fillDrum u).bind (fun q8 =>
    (fX1_drawsSparing x1 q8.2.2.2.2).bind (fun q10 =>
    (fX1_draws q8.2.2.2.2).bind (fun q12 =>
    (fX4_partOf q10 q12 x2).bind (fun q14 =>
    some (q14, q8))))))))))
def fX4_isSet_18 (u : SX) : Option (Int32) :=
    if ¬ ((0 : Int32) &&& 1 = (0 : Int32)) then none else some (0 : Int32)
def fX4_isSet (x1 : Int32) (u : SX) : Option (Int32) :=
    if x1 < 0 then
    (fX4_isSet_18 u)
    else (if ((1 : Int32) <<< ((u.1 1) &&& 31)) ≤ x1 then
    (fX4_isSet_18 u)
    else (if ¬ ((1 : Int32) &&& 1 = (1 : Int32)) then none else some (1 : Int32)))
def fX4_just_22 (u : SX) : Option (Int64 × SX) :=
    some ((-9223372036854775808 : Int64), u)
def fX4_just (x1 : Int32) (x2 : Int32) (u : SX) : Option (Int64 × SX) :=
    if (u.1 1) = 0 then
    (fX4_just_22 u)
    else ((fX4_isSet x1 u).bind (fun q2 =>
    if q2 = 0 then
    (fX4_just_22 u)
    else ((fX4_isWhich x2).bind (fun q5 =>
    if q5 = 0 then
    (fX4_just_22 u)
    else ((fX4_fillDrum u).bind (fun q8 =>
    (fX1_drawsLeavingJust x1 q8.2.2.2.2).bind (fun q10 =>
    (fX1_draws q10.2).bind (fun q12 =>
    (fX4_partOf q10.1 q12 x2).bind (fun q14 =>
    some (q14, (q8.1, q8.2.1, q8.2.2.1, q8.2.2.2.1, q10.2)))))))))))
def fX4_mean_14 (u : SX) : Option (Int64 × SX) :=
    some ((-9223372036854775808 : Int64), u)
def fX4_mean_27 : Nat → Int32 → Int64 → Int32 → SX → Option (Int64 × SX)
  | 0, _, _, _, _ => none
  | n + 1, x1, x2, x4, u =>
    if (u.1 1) ≤ x4 then
    ((fX1_draws u.2.2.2.2).bind (fun q2 =>
    (fX4_partOf x2 q2 x1).bind (fun q4 =>
    some (q4, u))))
    else ((fX1_drawsSparing x4 u.2.2.2.2).bind (fun q6 =>
    fX4_mean_27 n x1 (x2 + q6) (x4 + (1 : Int32)) u))
def fX4_mean (x1 : Int32) (u : SX) : Option (Int64 × SX) :=
    if (u.1 1) = 0 then
    (fX4_mean_14 u)
    else ((fX4_isWhich x1).bind (fun q2 =>
    if q2 = 0 then
    (fX4_mean_14 u)
    else ((fX4_fillDrum u).bind (fun q5 =>
    fX4_mean_27 fu x1 (0 : Int64) (0 : Int32) q5))))
def fX4_passes_14 (u : SX) : Option (Int64 × SX) :=
    some ((-9223372036854775808 : Int64), u)
def fX4_passes (x1 : Int32) (u : SX) : Option (Int64 × SX) :=
    if (u.1 1) = 0 then
    (fX4_passes_14 u)
    else ((fX4_isWhich x1).bind (fun q2 =>
    if q2 = 0 then
    (fX4_passes_14 u)
    else ((fX4_fillDrum u).bind (fun q5 =>
    (fX1_drawsPassing q5.2.2.2.2).bind (fun q7 =>
    (fX1_draws q7.2).bind (fun q9 =>
    (fX4_partOf q7.1 q9 x1).bind (fun q11 =>
    some (q11, (q5.1, q5.2.1, q5.2.2.1, q5.2.2.2.1, q7.2)))))))))
def fX4_buy_37 (u : SX) : Option (Int32 × SX) :=
    some ((-2 : Int32), u)
def fX4_buy_131 (u : SX) : Option (Int32 × SX) :=
    some ((-9 : Int32), u)
def fX4_buy_47 : Nat → Int32 → Int32 → Int32 → Nat → Int32 → SX → Option (Int32 × SX)
  | 0, _, _, _, _, _, _ => none
  | n + 1, x1, x2, x3, k4, x5, u =>
    if (20 : Int32) < x5 then
    (fX4_buy_131 u)
    else (if (u.2.2.1 k4 2) < (x5 * (u.1 3)) then
    (fX4_buy_131 u)
    else ((fX0_slips (u.2.2.1 k4)).bind (fun q3 =>
    (fX1_setSlips x1 (q3 + x5) u.2.2.2.2).bind (fun q5 =>
    (fX1_draws q5).bind (fun q7 =>
    (fX1_drawsSparing x1 q5).bind (fun q9 =>
    (fX1_draws q5).bind (fun q11 =>
    if (lg_cmp ((q7 - q9) * x3.toInt64) (x2.toInt64 * q11)) < 0 then
    (fX4_buy_47 n x1 x2 x3 k4 (x5 + (1 : Int32)) (u.1, u.2.1, u.2.2.1, u.2.2.2.1, q5))
    else (some (x5, (u.1, u.2.1, u.2.2.1, u.2.2.2.1, q5))))))))))
def fX4_buy (x1 : Int32) (x2 : Int32) (x3 : Int32) (u : SX) : Option (Int32 × SX) :=
    (fX4_citizen x1 u).bind (fun q1 => q1.elim
    (some ((-1 : Int32), u))
    (fun k3 => if ¬ k3 < 6 then none else (if x2 < 0 then
    (fX4_buy_37 u)
    else (if (999 : Int32) < x2 then
    (fX4_buy_37 u)
    else (if x3 < (1 : Int32) then
    (fX4_buy_37 u)
    else (if x3 ≤ (999 : Int32) then
    ((fX4_fillDrum u).bind (fun q9 =>
    fX4_buy_47 fu x1 x2 x3 k3 (0 : Int32) q9))
    else (fX4_buy_37 u)))))))
def fX4_isMore (x0 : Int64) (x2 : Int64) (x4 : Int64) (x6 : Int64) : Option (Int32) :=
    if (lg_cmp ((x0 * x6) ^^^ (-9223372036854775808 : Int64)) ((x4 * x2) ^^^ (-9223372036854775808 : Int64))) ≤ 0 then
    (if ¬ ((0 : Int32) &&& 1 = (0 : Int32)) then none else some (0 : Int32))
    else (if ¬ ((1 : Int32) &&& 1 = (1 : Int32)) then none else some (1 : Int32))
def fX4_lend_183 (c72 : Int32 → Int64 → Int64 → Int32 → Int32 → SX → Option (Int32 × SX)) (x1 : Int32) (x3 : Int64) (x5 : Int64) (x7 : Int32) (x8 : Int32) (u : SX) : Option (Int32 × SX) :=
    c72 x1 x3 x5 x7 (x8 + (1 : Int32)) u
def fX4_lend_169 (c72 : Int32 → Int64 → Int64 → Int32 → Int32 → SX → Option (Int32 × SX)) (x1 : Int32) (x3 : Int64) (x5 : Int64) (x7 : Int32) (x8 : Int32) (k9 : Nat) (u : SX) : Option (Int32 × SX) :=
    (fX0_slips (u.2.2.1 k9)).bind (fun q1 =>
    (fX1_setSlips x8 q1 u.2.2.2.2).bind (fun q3 =>
    fX4_lend_183 c72 x1 x3 x5 x7 x8 (u.1, u.2.1, u.2.2.1, u.2.2.2.1, q3)))
def fX4_lend_72 : Nat → Int32 → Int64 → Int64 → Int32 → Int32 → SX → Option (Int32 × SX)
  | 0, _, _, _, _, _, _ => none
  | n + 1, x1, x3, x5, x7, x8, u =>
    if (u.1 1) ≤ x8 then
    (some (x7, u))
    else ((fX4_citizen x8 u).bind (fun q2 => q2.elim
    (if x8 = x1 then
    (fX4_lend_183 (fX4_lend_72 n) x1 x3 x5 x7 x8 u)
    else (fX4_lend_183 (fX4_lend_72 n) x1 x3 x5 x7 x8 u))
    (fun k4 => if ¬ k4 < 6 then none else (if x8 = x1 then
    (fX4_lend_183 (fX4_lend_72 n) x1 x3 x5 x7 x8 u)
    else ((fX4_slipsOf (u.2.2.1 k4 0) ((u.2.2.1 k4 1) + (1 : Int32))).bind (fun q8 =>
    (fX1_setSlips x8 q8 u.2.2.2.2).bind (fun q10 =>
    (fX1_drawsPassing q10).bind (fun q12 =>
    (fX1_draws q12.2).bind (fun q14 =>
    (fX4_isMore q12.1 q14 x3 x5).bind (fun q16 =>
    if q16 = 0 then
    (fX4_lend_169 (fX4_lend_72 n) x1 x3 x5 x7 x8 k4 (u.1, u.2.1, u.2.2.1, u.2.2.2.1, q12.2))
    else (fX4_lend_169 (fX4_lend_72 n) x1 q12.1 q14 x8 x8 k4 (u.1, u.2.1, u.2.2.1, u.2.2.2.1, q12.2))))))))))))
def fX4_lend (x1 : Int32) (u : SX) : Option (Int32 × SX) :=
    (fX4_citizen x1 u).bind (fun q1 => q1.elim
    (some ((-1 : Int32), u))
    (fun k3 => if ¬ k3 < 6 then none else (if (2 : Int32) ≤ (u.2.2.1 k3 1) then
    ((fX4_fillDrum u).bind (fun q6 =>
    (fX1_drawsPassing q6.2.2.2.2).bind (fun q8 =>
    (fX1_draws q8.2).bind (fun q10 =>
    (fX4_slipsOf (q6.2.2.1 k3 0) ((q6.2.2.1 k3 1) - (1 : Int32))).bind (fun q12 =>
    (fX1_setSlips x1 q12 q8.2).bind (fun q14 =>
    fX4_lend_72 fu x1 q8.1 q10 (-9 : Int32) (0 : Int32) (q6.1, q6.2.1, q6.2.2.1, q6.2.2.2.1, q14)))))))
    else (some ((-3 : Int32), u)))))
def fX4_least_9 (u : SX) : Option (Int32 × SX) :=
    some ((-2 : Int32), u)
def fX4_least_155 (c56 : Int32 → Int32 → Int32 → Int32 → SX → Option (Int32 × SX)) (x1 : Int32) (x2 : Int32) (x3 : Int32) (x4 : Int32) (u : SX) : Option (Int32 × SX) :=
    c56 x1 x2 x3 (x4 + (1 : Int32)) u
def fX4_least_145 (c56 : Int32 → Int32 → Int32 → Int32 → SX → Option (Int32 × SX)) (x1 : Int32) (x2 : Int32) (x3 : Int32) (x4 : Int32) (u : SX) : Option (Int32 × SX) :=
    (fX1_setWishes x4 (0 : Int32) u.2.2.2.2).bind (fun q1 =>
    fX4_least_155 c56 x1 x2 x3 x4 (u.1, u.2.1, u.2.2.1, u.2.2.2.1, q1))
def fX4_least_139 (c56 : Int32 → Int32 → Int32 → Int32 → SX → Option (Int32 × SX)) (x1 : Int32) (x4 : Int32) (x6 : Int32) (u : SX) : Option (Int32 × SX) :=
    fX4_least_145 c56 x1 x6 x4 x4 u
def fX4_least_56 : Nat → Int32 → Int32 → Int32 → Int32 → SX → Option (Int32 × SX)
  | 0, _, _, _, _, _ => none
  | n + 1, x1, x2, x3, x4, u =>
    if (u.1 1) ≤ x4 then
    (if x1 = 0 then
    (some (x2, u))
    else (some (x3, u)))
    else ((fX4_citizen x4 u).bind (fun q3 => q3.elim
    (fX4_least_155 (fX4_least_56 n) x1 x2 x3 x4 u)
    (fun k5 => if ¬ k5 < 6 then none else (if (u.2.2.1 k5 3) = 0 then
    ((fX1_setWishes x4 (1 : Int32) u.2.2.2.2).bind (fun q8 =>
    (fX1_passesByHalf q8).bind (fun q10 =>
    if q10.1 = 0 then
    (fX4_least_145 (fX4_least_56 n) x1 x2 x3 x4 (u.1, u.2.1, u.2.2.1, u.2.2.2.1, q10.2))
    else (if x3 = (-9 : Int32) then
    (fX4_least_139 (fX4_least_56 n) x1 x4 ((u.2.2.1 k5 2) + ((u.1 3) * (u.2.2.1 k5 1))) (u.1, u.2.1, u.2.2.1, u.2.2.2.1, q10.2))
    else (if x2 ≤ ((u.2.2.1 k5 2) + ((u.1 3) * (u.2.2.1 k5 1))) then
    (fX4_least_145 (fX4_least_56 n) x1 x2 x3 x4 (u.1, u.2.1, u.2.2.1, u.2.2.2.1, q10.2))
    else (fX4_least_139 (fX4_least_56 n) x1 x4 ((u.2.2.1 k5 2) + ((u.1 3) * (u.2.2.1 k5 1))) (u.1, u.2.1, u.2.2.1, u.2.2.2.1, q10.2)))))))
    else (fX4_least_155 (fX4_least_56 n) x1 x2 x3 x4 u)))))
def fX4_least (x1 : Int32) (u : SX) : Option (Int32 × SX) :=
    if x1 < 0 then
    (fX4_least_9 u)
    else (if x1 ≤ (1 : Int32) then
    (if (u.1 1) = 0 then
    (some ((-3 : Int32), u))
    else ((fX4_fillDrum u).bind (fun q4 =>
    (fX1_passesByHalf q4.2.2.2.2).bind (fun q6 =>
    if q6.1 = 0 then
    (fX4_least_56 fu x1 (-9 : Int32) (-9 : Int32) (0 : Int32) (q4.1, q4.2.1, q4.2.2.1, q4.2.2.2.1, q6.2))
    else (if x1 = 0 then
    (some ((0 : Int32), (q4.1, q4.2.1, q4.2.2.1, q4.2.2.2.1, q6.2)))
    else (some ((-9 : Int32), (q4.1, q4.2.1, q4.2.2.1, q4.2.2.2.1, q6.2))))))))
    else (fX4_least_9 u))
def fX4_reading_40 (u : SX) : Option (Int32 × SX) :=
    some ((-4 : Int32), u)
def fX4_reading (x1 : Int32) (u : SX) : Option (Int32 × SX) :=
    if (u.1 1) = 0 then
    (some ((-3 : Int32), u))
    else ((fX4_isSet x1 u).bind (fun q2 =>
    if q2 = 0 then
    (some ((-2 : Int32), u))
    else (if (u.1 5) < 0 then
    (fX4_reading_40 u)
    else (if (u.1 5) < (8 : Int32) then
    (if (u.1 5) < 0 ∨ 8 ≤ (u.1 5).toNatClampNeg then none else
    (some ((((upd u.1 5 ((u.1 5) + (1 : Int32))) 5) - (1 : Int32)), ((upd u.1 5 ((u.1 5) + (1 : Int32))), (upd u.2.1 ((u.1 5).toNatClampNeg) x1), u.2.2.1, u.2.2.2.1, u.2.2.2.2))))
    else (fX4_reading_40 u)))))
def fX4_back_12 (u : SX) : Option (Int32 × SX) :=
    some ((-2 : Int32), u)
def fX4_back (x1 : Int32) (u : SX) : Option (Int32 × SX) :=
    if x1 < 0 then
    (fX4_back_12 u)
    else (if x1 ≤ (u.1 5) then
    (some (((upd u.1 5 ((u.1 5) - x1)) 5), ((upd u.1 5 ((u.1 5) - x1)), u.2.1, u.2.2.1, u.2.2.2.1, u.2.2.2.2)))
    else (fX4_back_12 u))
def fX4_allReadingsCanBe_43 (u : SX) : Option (Int32) :=
    if ¬ ((1 : Int32) &&& 1 = (1 : Int32)) then none else some (1 : Int32)
def fX4_allReadingsCanBe_2 : Nat → Int32 → SX → Option (Int32)
  | 0, _, _ => none
  | n + 1, x1, u =>
    if (u.1 5) ≤ x1 then
    (fX4_allReadingsCanBe_43 u)
    else (if (8 : Int32) ≤ x1 then
    (fX4_allReadingsCanBe_43 u)
    else (if x1 < 0 ∨ 8 ≤ x1.toNatClampNeg then none else
    ((fX1_canLeaveJust (u.2.1 x1.toNatClampNeg) u.2.2.2.2).bind (fun q4 =>
    if q4 = 0 then
    (if ¬ ((0 : Int32) &&& 1 = (0 : Int32)) then none else some (0 : Int32))
    else (fX4_allReadingsCanBe_2 n (x1 + (1 : Int32)) u)))))
def fX4_allReadingsCanBe (u : SX) : Option (Int32) :=
    fX4_allReadingsCanBe_2 fu (0 : Int32) u
def fX4_tickets_59 (c21 : Int32 → Nat → Int32 → Int32 → SX → Option (Int32 × SX)) (x1 : Int32) (k2 : Nat) (x3 : Int32) (x4 : Int32) (u : SX) : Option (Int32 × SX) :=
    c21 x1 k2 x3 (x4 + (1 : Int32)) u
def fX4_tickets_21 : Nat → Int32 → Nat → Int32 → Int32 → SX → Option (Int32 × SX)
  | 0, _, _, _, _, _ => none
  | n + 1, x1, k2, x3, x4, u =>
    if (9 : Int32) < x4 then
    (some (x3, u))
    else ((fX4_slipsOf (u.2.2.1 k2 0) x4).bind (fun q2 =>
    (fX1_setSlips x1 q2 u.2.2.2.2).bind (fun q4 =>
    (fX4_allReadingsCanBe (u.1, u.2.1, u.2.2.1, u.2.2.2.1, q4)).bind (fun q6 =>
    if q6 = 0 then
    (fX4_tickets_59 (fX4_tickets_21 n) x1 k2 x3 x4 (u.1, u.2.1, u.2.2.1, u.2.2.2.1, q4))
    else (fX4_tickets_59 (fX4_tickets_21 n) x1 k2 (x3 ||| ((1 : Int32) <<< (x4 &&& 31))) x4 (u.1, u.2.1, u.2.2.1, u.2.2.2.1, q4))))))
def fX4_tickets (x1 : Int32) (u : SX) : Option (Int32 × SX) :=
    (fX4_citizen x1 u).bind (fun q1 => q1.elim
    (some ((-1 : Int32), u))
    (fun k3 => if ¬ k3 < 6 then none else ((fX4_fillDrum u).bind (fun q5 =>
    fX4_tickets_21 fu x1 k3 (0 : Int32) (1 : Int32) q5))))
def fX4_kinds_58 (c21 : Int32 → Nat → Int32 → Int32 → SX → Option (Int32 × SX)) (x1 : Int32) (k2 : Nat) (x3 : Int32) (x4 : Int32) (u : SX) : Option (Int32 × SX) :=
    c21 x1 k2 x3 (x4 + (1 : Int32)) u
def fX4_kinds_21 : Nat → Int32 → Nat → Int32 → Int32 → SX → Option (Int32 × SX)
  | 0, _, _, _, _, _ => none
  | n + 1, x1, k2, x3, x4, u =>
    if (2 : Int32) < x4 then
    (some (x3, u))
    else ((fX4_slipsOf x4 (u.2.2.1 k2 1)).bind (fun q2 =>
    (fX1_setSlips x1 q2 u.2.2.2.2).bind (fun q4 =>
    (fX4_allReadingsCanBe (u.1, u.2.1, u.2.2.1, u.2.2.2.1, q4)).bind (fun q6 =>
    if q6 = 0 then
    (fX4_kinds_58 (fX4_kinds_21 n) x1 k2 x3 x4 (u.1, u.2.1, u.2.2.1, u.2.2.2.1, q4))
    else (fX4_kinds_58 (fX4_kinds_21 n) x1 k2 (x3 ||| ((1 : Int32) <<< (x4 &&& 31))) x4 (u.1, u.2.1, u.2.2.1, u.2.2.2.1, q4))))))
def fX4_kinds (x1 : Int32) (u : SX) : Option (Int32 × SX) :=
    (fX4_citizen x1 u).bind (fun q1 => q1.elim
    (some ((-1 : Int32), u))
    (fun k3 => if ¬ k3 < 6 then none else ((fX4_fillDrum u).bind (fun q5 =>
    fX4_kinds_21 fu x1 k3 (0 : Int32) (0 : Int32) q5))))
def fX4_counts_45 (c18 : Int32 → Int32 → SX → Option (Int32 × SX)) (x1 : Int32) (x2 : Int32) (u : SX) : Option (Int32 × SX) :=
    c18 x1 (x2 + (1 : Int32)) u
def fX4_counts_18 : Nat → Int32 → Int32 → SX → Option (Int32 × SX)
  | 0, _, _, _ => none
  | n + 1, x1, x2, u =>
    if (6 : Int32) < x2 then
    (some (x1, u))
    else ((fX1_setDrawn x2 u.2.2.2.2).bind (fun q2 =>
    (fX4_allReadingsCanBe (u.1, u.2.1, u.2.2.1, u.2.2.2.1, q2)).bind (fun q4 =>
    if q4 = 0 then
    (fX4_counts_45 (fX4_counts_18 n) x1 x2 (u.1, u.2.1, u.2.2.1, u.2.2.2.1, q2))
    else (fX4_counts_45 (fX4_counts_18 n) (x1 ||| ((1 : Int32) <<< (x2 &&& 31))) x2 (u.1, u.2.1, u.2.2.1, u.2.2.2.1, q2)))))
def fX4_counts (u : SX) : Option (Int32 × SX) :=
    if (u.1 1) = 0 then
    (some ((-3 : Int32), u))
    else ((fX4_fillDrum u).bind (fun q2 =>
    fX4_counts_18 fu (0 : Int32) (0 : Int32) q2))
def fX4_sheet_32 (u : SX) : Option (Int32 × SX) :=
    some ((-2 : Int32), u)
def fX4_sheet (x1 : Int32) (x2 : Int32) (x3 : Int32) (u : SX) : Option (Int32 × SX) :=
    (fX4_placeOf x1 ((upd u.1 9 (0 : Int32)), u.2.1, u.2.2.1, u.2.2.2.1, u.2.2.2.2)).bind (fun q1 => q1.elim
    (some ((-1 : Int32), ((upd u.1 9 (0 : Int32)), u.2.1, u.2.2.1, u.2.2.2.1, u.2.2.2.2)))
    (fun k3 => if ¬ k3 < 4 then none else ((fX4_isLane x2).bind (fun q5 =>
    if q5 = 0 then
    (fX4_sheet_32 ((upd u.1 9 (0 : Int32)), u.2.1, u.2.2.1, u.2.2.2.1, u.2.2.2.2))
    else (if x3 ≤ (60 : Int32) then
    (if 0 ≤ x3 then
    ((fX2_begin k3 x2 x3 ((upd u.1 9 (0 : Int32)), u.2.1, u.2.2.1, u.2.2.2.1, u.2.2.2.2)).bind (fun q10 =>
    some ((1 : Int32), ((upd u.1 9 (0 : Int32)), u.2.1, u.2.2.1, q10, u.2.2.2.2))))
    else ((fX4_faulted (4 : Int32) ((upd u.1 9 (0 : Int32)), u.2.1, u.2.2.1, u.2.2.2.1, u.2.2.2.2)).bind (fun q12 =>
    some (q12.1, q12.2))))
    else (fX4_sheet_32 ((upd u.1 9 (0 : Int32)), u.2.1, u.2.2.1, u.2.2.2.1, u.2.2.2.2)))))))
def fX4_lose (x1 : Int32) (u : SX) : Option (Int32 × SX) :=
    (fX4_isSheet x1).bind (fun q1 =>
    if q1 = 0 then
    (some ((-1 : Int32), u))
    else ((fX4_rowOf x1 u).bind (fun q4 => q4.elim
    (some ((0 : Int32), u))
    (fun k6 => if ¬ k6 < 4 then none else ((fX2_end k6 u).bind (fun q8 =>
    some ((1 : Int32), (u.1, u.2.1, u.2.2.1, q8, u.2.2.2.2))))))))
def fX4_put (x1 : Int32) (x2 : Int32) (x3 : Int32) (u : SX) : Option (Int32 × SX) :=
    (fX4_isSheet x1).bind (fun q1 =>
    if q1 = 0 then
    (some ((-1 : Int32), ((upd u.1 9 (0 : Int32)), u.2.1, u.2.2.1, u.2.2.2.1, u.2.2.2.2)))
    else ((fX4_rowOf x1 ((upd u.1 9 (0 : Int32)), u.2.1, u.2.2.1, u.2.2.2.1, u.2.2.2.2)).bind (fun q4 => q4.elim
    ((fX4_faulted (1 : Int32) ((upd u.1 9 (0 : Int32)), u.2.1, u.2.2.1, u.2.2.2.1, u.2.2.2.2)).bind (fun q8 =>
    some (q8.1, q8.2)))
    (fun k6 => if ¬ k6 < 4 then none else ((fX2_holds x2 (1 : Int32) (u.2.2.2.1 k6)).bind (fun q10 =>
    if q10 = 0 then
    ((fX4_faulted (3 : Int32) ((upd u.1 9 (0 : Int32)), u.2.1, u.2.2.1, u.2.2.2.1, u.2.2.2.2)).bind (fun q15 =>
    some (q15.1, q15.2)))
    else ((fX2_set k6 x2 x3 ((upd u.1 9 (0 : Int32)), u.2.1, u.2.2.1, u.2.2.2.1, u.2.2.2.2)).bind (fun q13 =>
    some ((1 : Int32), ((upd u.1 9 (0 : Int32)), u.2.1, u.2.2.1, q13, u.2.2.2.2))))))))))
def fX4_cell_19 (u : SX) : Option (Int64 × SX) :=
    some ((-9223372036854775808 : Int64), u)
def fX4_cell_50 (x5 : Int32) (u : SX) : Option (Int64 × SX) :=
    some ((-9223372036854775808 : Int64), ((upd u.1 9 x5), u.2.1, u.2.2.1, u.2.2.2.1, u.2.2.2.2))
def fX4_cell (x1 : Int32) (x2 : Int32) (x3 : Int32) (u : SX) : Option (Int64 × SX) :=
    (fX4_isSheet x1).bind (fun q1 =>
    if q1 = 0 then
    (fX4_cell_19 ((upd u.1 9 (0 : Int32)), u.2.1, u.2.2.1, u.2.2.2.1, u.2.2.2.2))
    else ((fX4_isLane x3).bind (fun q4 =>
    if q4 = 0 then
    (fX4_cell_19 ((upd u.1 9 (0 : Int32)), u.2.1, u.2.2.1, u.2.2.2.1, u.2.2.2.2))
    else ((fX4_rowOf x1 ((upd u.1 9 (0 : Int32)), u.2.1, u.2.2.1, u.2.2.2.1, u.2.2.2.2)).bind (fun q7 => q7.elim
    ((fX4_faultOfN x3 x2 (1 : Int32)).bind (fun q11 =>
    fX4_cell_50 q11 ((upd u.1 9 (0 : Int32)), u.2.1, u.2.2.1, u.2.2.2.1, u.2.2.2.2)))
    (fun k9 => if ¬ k9 < 4 then none else ((fX4_faultOf x3 x2 (1 : Int32) (u.2.2.2.1 k9)).bind (fun q13 =>
    if q13 = 0 then
    ((fX2_at x2 (u.2.2.2.1 k9)).bind (fun q16 =>
    some (q16.toInt64, ((upd u.1 9 (0 : Int32)), u.2.1, u.2.2.1, u.2.2.2.1, u.2.2.2.2))))
    else (fX4_cell_50 q13 ((upd u.1 9 (0 : Int32)), u.2.1, u.2.2.1, u.2.2.2.1, u.2.2.2.2))))))))))
def fX4_copy_19 (u : SX) : Option (Int32 × SX) :=
    some ((-1 : Int32), u)
def fX4_copy_45 (u : SX) : Option (Int32 × SX) :=
    (fX4_faulted (1 : Int32) u).bind (fun q1 =>
    some (q1.1, q1.2))
def fX4_copy_93 (u : SX) : Option (Int32 × SX) :=
    (fX4_faulted (3 : Int32) u).bind (fun q1 =>
    some (q1.1, q1.2))
def fX4_copy (x1 : Int32) (x2 : Int32) (x3 : Int32) (x4 : Int32) (x5 : Int32) (u : SX) : Option (Int32 × SX) :=
    (fX4_isSheet x1).bind (fun q1 =>
    if q1 = 0 then
    (fX4_copy_19 ((upd u.1 9 (0 : Int32)), u.2.1, u.2.2.1, u.2.2.2.1, u.2.2.2.2))
    else ((fX4_isSheet x3).bind (fun q4 =>
    if q4 = 0 then
    (fX4_copy_19 ((upd u.1 9 (0 : Int32)), u.2.1, u.2.2.1, u.2.2.2.1, u.2.2.2.2))
    else ((fX4_rowOf x1 ((upd u.1 9 (0 : Int32)), u.2.1, u.2.2.1, u.2.2.2.1, u.2.2.2.2)).bind (fun q7 => q7.elim
    ((fX4_rowOf x3 ((upd u.1 9 (0 : Int32)), u.2.1, u.2.2.1, u.2.2.2.1, u.2.2.2.2)).bind (fun q11 => q11.elim
    (fX4_copy_45 ((upd u.1 9 (0 : Int32)), u.2.1, u.2.2.1, u.2.2.2.1, u.2.2.2.2))
    (fun k13 => if ¬ k13 < 4 then none else (fX4_copy_45 ((upd u.1 9 (0 : Int32)), u.2.1, u.2.2.1, u.2.2.2.1, u.2.2.2.2)))))
    (fun k9 => if ¬ k9 < 4 then none else ((fX4_rowOf x3 ((upd u.1 9 (0 : Int32)), u.2.1, u.2.2.1, u.2.2.2.1, u.2.2.2.2)).bind (fun q15 => q15.elim
    (fX4_copy_45 ((upd u.1 9 (0 : Int32)), u.2.1, u.2.2.1, u.2.2.2.1, u.2.2.2.2))
    (fun k17 => if ¬ k17 < 4 then none else (if ((u.2.2.2.1 k9).1 2) = ((u.2.2.2.1 k17).1 2) then
    ((fX2_holds x2 x5 (u.2.2.2.1 k9)).bind (fun q20 =>
    if q20 = 0 then
    (fX4_copy_93 ((upd u.1 9 (0 : Int32)), u.2.1, u.2.2.1, u.2.2.2.1, u.2.2.2.2))
    else ((fX2_holds x4 x5 (u.2.2.2.1 k17)).bind (fun q23 =>
    if q23 = 0 then
    (fX4_copy_93 ((upd u.1 9 (0 : Int32)), u.2.1, u.2.2.1, u.2.2.2.1, u.2.2.2.2))
    else (if x2 < 0 ∨ x4 < 0 ∨ x5 < 0 ∨ 60 < x2.toNatClampNeg + x5.toNatClampNeg ∨ 60 < x4.toNatClampNeg + x5.toNatClampNeg then none else
    (some (x5, ((upd u.1 9 (0 : Int32)), u.2.1, u.2.2.1, (va_up u.2.2.2.1 k17 ((u.2.2.2.1 k17).1, va_cpy (u.2.2.2.1 k9).2 (u.2.2.2.1 k17).2 x2.toNatClampNeg x4.toNatClampNeg x5.toNatClampNeg)), u.2.2.2.2))))))))
    else ((fX4_faulted (2 : Int32) ((upd u.1 9 (0 : Int32)), u.2.1, u.2.2.1, u.2.2.2.1, u.2.2.2.2)).bind (fun q27 =>
    some (q27.1, q27.2)))))))))))))
def fX4_leaveInTrace (x1 : Int32) (u : SX) : Option (SX) :=
    some ((upd u.1 8 (((31 : Int32) * (u.1 8)) + x1)), u.2.1, u.2.2.1, u.2.2.2.1, u.2.2.2.2)
def fX4_citizenTells (x1 : Int32) (u : SX) : Option (Int32 × SX) :=
    (fX4_leaveInTrace (1 : Int32) u).bind (fun q1 =>
    some (x1, q1))
def fX4_richTells (x1 : Int32) (u : SX) : Option (Int32 × SX) :=
    (fX4_leaveInTrace (2 : Int32) u).bind (fun q1 =>
    (fX4_citizenTells x1 q1).bind (fun q3 =>
    some ((q3.1 + (100 : Int32)), q3.2)))
def fX4_miserTells (x1 : Int32) (u : SX) : Option (Int32 × SX) :=
    (fX4_leaveInTrace (3 : Int32) u).bind (fun q1 =>
    (fX4_richTells x1 q1).bind (fun q3 =>
    (fX4_citizenTells x1 q3.2).bind (fun q5 =>
    some ((q3.1 + q5.1), q5.2))))
def fX4_tell (x1 : Int32) (u : SX) : Option (Int32 × SX) :=
    (fX4_citizen x1 u).bind (fun q1 => q1.elim
    (some ((-1 : Int32), u))
    (fun k3 => if ¬ k3 < 6 then none else (if (u.2.2.1 k3 0) = (1 : Int32) then
    ((fX4_richTells (u.2.2.1 k3 1) u).bind (fun q6 =>
    some (q6.1, q6.2)))
    else if (u.2.2.1 k3 0) = (2 : Int32) then
    ((fX4_miserTells (u.2.2.1 k3 1) u).bind (fun q9 =>
    some (q9.1, q9.2)))
    else ((fX4_citizenTells (u.2.2.1 k3 1) u).bind (fun q11 =>
    some (q11.1, q11.2))))))
def fX4_call (x1 : Int32) (u : SX) : Option (Int32 × SX) :=
    (fX4_citizen x1 u).bind (fun q1 => q1.elim
    (some ((-1 : Int32), u))
    (fun k3 => if ¬ k3 < 6 then none else (if (u.2.2.1 k3 0) = (2 : Int32) then
    ((fX4_leaveInTrace (5 : Int32) u).bind (fun q8 =>
    some ((20 : Int32), q8)))
    else ((fX4_leaveInTrace (4 : Int32) u).bind (fun q6 =>
    some (x1, q6))))))
def fX4_as_26 (u : SX) : Option (Int32 × SX) :=
    some ((-2 : Int32), u)
def fX4_as (x1 : Int32) (x2 : Int32) (u : SX) : Option (Int32 × SX) :=
    (fX4_citizen x1 ((upd u.1 9 (0 : Int32)), u.2.1, u.2.2.1, u.2.2.2.1, u.2.2.2.2)).bind (fun q1 => q1.elim
    (some ((-1 : Int32), ((upd u.1 9 (0 : Int32)), u.2.1, u.2.2.1, u.2.2.2.1, u.2.2.2.2)))
    (fun k3 => if ¬ k3 < 6 then none else (if x2 < 0 then
    (fX4_as_26 ((upd u.1 9 (0 : Int32)), u.2.1, u.2.2.1, u.2.2.2.1, u.2.2.2.2))
    else (if x2 ≤ (2 : Int32) then
    (if x2 ≤ (u.2.2.1 k3 0) then
    (some ((1 : Int32), ((upd u.1 9 (0 : Int32)), u.2.1, u.2.2.1, u.2.2.2.1, u.2.2.2.2)))
    else ((fX4_faulted (2 : Int32) ((upd u.1 9 (0 : Int32)), u.2.1, u.2.2.1, u.2.2.2.1, u.2.2.2.2)).bind (fun q8 =>
    some (q8.1, q8.2))))
    else (fX4_as_26 ((upd u.1 9 (0 : Int32)), u.2.1, u.2.2.1, u.2.2.2.1, u.2.2.2.2))))))
def fX4_trace (u : SX) : Option (Int32) :=
    some (u.1 8)
def fX4_fault (u : SX) : Option (Int32) :=
    some (u.1 9)
def fX4_many (x1 : Int32) (u : SX) : Option (Int32) :=
    if x1 = (0 : Int32) then
    (some (u.1 1))
    else if x1 = (1 : Int32) then
    ((fX4_slipsAhead (u.1 1) u).bind (fun q3 =>
    some q3))
    else if x1 = (2 : Int32) then
    (some (u.1 2))
    else if x1 = (3 : Int32) then
    (some (u.1 3))
    else if x1 = (4 : Int32) then
    (some (u.1 5))
    else (some (-2 : Int32))
def fX5_in_17 : Option (Int32) :=
    if ¬ ((0 : Int32) &&& 1 = (0 : Int32)) then none else some (0 : Int32)
def fX5_in (x0 : Int64) (x2 : Int64) (x4 : Int64) : Option (Int32) :=
    if (lg_cmp x0 x2) < 0 then
    (fX5_in_17)
    else (if 0 < (lg_cmp x0 x4) then
    (fX5_in_17)
    else (if ¬ ((1 : Int32) &&& 1 = (1 : Int32)) then none else some (1 : Int32)))
def fX5_lost : Option (Int64) :=
    some (-9223372036854775808 : Int64)
def fX5_isIn (x0 : Int32) (x1 : Int32) : Option (Int32) :=
    if ((x0 >>> (x1 &&& 31)) &&& (1 : Int32)) = (1 : Int32) then
    (if ¬ ((1 : Int32) &&& 1 = (1 : Int32)) then none else some (1 : Int32))
    else (if ¬ ((0 : Int32) &&& 1 = (0 : Int32)) then none else some (0 : Int32))
def fX5_bits_4 : Nat → Int32 → Int32 → Option (Int32)
  | 0, _, _ => none
  | n + 1, x1, x2 =>
    if x2 ≤ 0 then
    (some x1)
    else (fX5_bits_4 n (x1 + (x2 &&& (1 : Int32))) (x2 >>> ((1 : Int32) &&& 31)))
def fX5_bits (x0 : Int32) : Option (Int32) :=
    fX5_bits_4 fu (0 : Int32) x0
def fX5_share_41 (x5 : Int64) (xs0 : Int64) : Option (Int64) :=
    if x5 = 0 then none else
    (some (xs0 / x5))
def fX5_share_6 : Nat → Int64 → Int64 → Int32 → Int64 → Int64 → Option (Int64)
  | 0, _, _, _, _, _ => none
  | n + 1, x0, x2, x4, x5, x7 =>
    if (lg_cmp x7 (0 : Int64)) = 0 then
    (if x4 = 0 then
    (fX5_share_41 x5 x0)
    else (fX5_share_41 x5 x2))
    else (if x7 = 0 then none else
    (fX5_share_6 n x0 x2 x4 x7 (x5 - x5 / x7 * x7)))
def fX5_share (x0 : Int64) (x2 : Int64) (x4 : Int32) : Option (Int64) :=
    fX5_share_6 fu x0 x2 x4 x0 x2
def fX5_isAbove_91 (c17 : Int64 → Int64 → Int64 → Int64 → Int32 → Option (Int32)) (x8 : Int64) (x10 : Int64) (x12 : Int64) (x14 : Int64) (xs0 : Int32) : Option (Int32) :=
    c17 x8 x10 x12 x14 xs0
def fX5_isAbove_96 (x8 : Int64) (x10 : Int64) (x12 : Int64) (x14 : Int64) (x16 : Int32) : Option (Int32) :=
    if x10 = 0 then none else
    (if x14 = 0 then none else
    (if (lg_cmp (x8 / x10) (x12 / x14)) = 0 then
    (if x16 = 0 then
    (if x10 = 0 then none else
    (if x14 = 0 then none else
    (if (lg_cmp (x8 - x8 / x10 * x10) (x12 - x12 / x14 * x14)) ≤ 0 then
    (if ¬ ((0 : Int32) &&& 1 = (0 : Int32)) then none else some (0 : Int32))
    else (if ¬ ((1 : Int32) &&& 1 = (1 : Int32)) then none else some (1 : Int32)))))
    else (if x10 = 0 then none else
    (if x14 = 0 then none else
    (if 0 ≤ (lg_cmp (x8 - x8 / x10 * x10) (x12 - x12 / x14 * x14)) then
    (if ¬ ((0 : Int32) &&& 1 = (0 : Int32)) then none else some (0 : Int32))
    else (if ¬ ((1 : Int32) &&& 1 = (1 : Int32)) then none else some (1 : Int32))))))
    else (if x16 = 0 then
    (if x10 = 0 then none else
    (if x14 = 0 then none else
    (if (lg_cmp (x8 / x10) (x12 / x14)) ≤ 0 then
    (if ¬ ((0 : Int32) &&& 1 = (0 : Int32)) then none else some (0 : Int32))
    else (if ¬ ((1 : Int32) &&& 1 = (1 : Int32)) then none else some (1 : Int32)))))
    else (if x10 = 0 then none else
    (if x14 = 0 then none else
    (if 0 ≤ (lg_cmp (x8 / x10) (x12 / x14)) then
    (if ¬ ((0 : Int32) &&& 1 = (0 : Int32)) then none else some (0 : Int32))
    else (if ¬ ((1 : Int32) &&& 1 = (1 : Int32)) then none else some (1 : Int32))))))))
def fX5_isAbove_17 : Nat → Int64 → Int64 → Int64 → Int64 → Int32 → Option (Int32)
  | 0, _, _, _, _, _ => none
  | n + 1, x8, x10, x12, x14, x16 =>
    if x10 = 0 then none else
    (if x14 = 0 then none else
    (if (lg_cmp (x8 / x10) (x12 / x14)) = 0 then
    (if x10 = 0 then none else
    (if (lg_cmp (x8 - x8 / x10 * x10) (0 : Int64)) = 0 then
    (fX5_isAbove_96 x8 x10 x12 x14 x16)
    else (if x14 = 0 then none else
    (if (lg_cmp (x12 - x12 / x14 * x14) (0 : Int64)) = 0 then
    (fX5_isAbove_96 x8 x10 x12 x14 x16)
    else (if x10 = 0 then none else
    (if x14 = 0 then none else
    (if x16 = 0 then
    (fX5_isAbove_91 (fX5_isAbove_17 n) x10 (x8 - x8 / x10 * x10) x14 (x12 - x12 / x14 * x14) (1 : Int32))
    else (fX5_isAbove_91 (fX5_isAbove_17 n) x10 (x8 - x8 / x10 * x10) x14 (x12 - x12 / x14 * x14) (0 : Int32)))))))))
    else (fX5_isAbove_96 x8 x10 x12 x14 x16)))
def fX5_isAbove (x0 : Int64) (x2 : Int64) (x4 : Int64) (x6 : Int64) : Option (Int32) :=
    fX5_isAbove_17 fu x0 x2 x4 x6 (0 : Int32)
def fX5_waysOf_46 (x2 : Int64) : Option (Int64) :=
    some x2
def fX5_waysOf_14 : Nat → Int32 → Int32 → Int64 → Int32 → Option (Int64)
  | 0, _, _, _, _ => none
  | n + 1, x0, x1, x2, x4 =>
    if x1 ≤ x4 then
    (fX5_waysOf_46 x2)
    else (if (lg_cmp x2 (0 : Int64)) ≤ 0 then
    (fX5_waysOf_46 x2)
    else (if (x4 + (1 : Int32)).toInt64 = 0 then none else
    (fX5_waysOf_14 n x0 x1 ((x2 * (x0 - x4).toInt64) / (x4 + (1 : Int32)).toInt64) (x4 + (1 : Int32)))))
def fX5_waysOf_10 (x0 : Int32) (x1 : Int32) (xs0 : Int64) : Option (Int64) :=
    fX5_waysOf_14 fu x0 x1 xs0 (0 : Int32)
def fX5_waysOf (x0 : Int32) (x1 : Int32) : Option (Int64) :=
    if x1 ≤ x0 then
    (fX5_waysOf_10 x0 x1 (1 : Int64))
    else (fX5_waysOf_10 x0 x1 (0 : Int64))
def fX5_refused (x1 : Int32) (u : SM) : Option (Int32 × SM) :=
    some (x1, ((upd u.1 0 (0 : Int32)), u.2))
def fX5_failed (x1 : Int32) (u : SM) : Option (Int32 × SM) :=
    some (((-10 : Int32) - x1), ((upd u.1 0 x1), u.2))
def fX5_failedLong (x1 : Int32) (u : SM) : Option (Int64 × SM) :=
    (fX5_lost).bind (fun q1 =>
    some (q1, ((upd u.1 0 x1), u.2)))
def fX5_noCitizen (x1 : Int32) (u : SM) : Option (Int32) :=
    (fX5_in x1.toInt64 (0 : Int64) ((u.1 3).toInt64 - (1 : Int64))).bind (fun q1 =>
    if q1 = 0 then
    (if ¬ ((1 : Int32) &&& 1 = (1 : Int32)) then none else some (1 : Int32))
    else (if ¬ ((0 : Int32) &&& 1 = (0 : Int32)) then none else some (0 : Int32)))
def fX5_everybody (u : SM) : Option (Int32) :=
    some (((1 : Int32) <<< ((u.1 3) &&& 31)) - (1 : Int32))
def fX5_codeAt (x1 : Int32) (x2 : Int32) (u : SM) : Option (Int32) :=
    if x2 ≤ (u.1 8) then
    (some (-9 : Int32))
    else (if (x1 + (u.1 8)) < 0 ∨ 240 ≤ (x1 + (u.1 8)).toNatClampNeg then none else
    (some (u.2 10 (x1 + (u.1 8)).toNatClampNeg)))
def fX5_figure_39 (x5 : Int32) (x6 : Int32) (xs1 : Int32) (xs2 : Int32) (u : SM) : Option (Int32 × SM) :=
    if x6 = 0 then
    (some ((-9 : Int32), ((upd u.1 8 (xs1 + xs2)), u.2)))
    else (some (x5, ((upd u.1 8 (xs1 + xs2)), u.2)))
def fX5_figure (x1 : Int32) (x2 : Int32) (x3 : Int32) (x4 : Int32) (u : SM) : Option (Int32 × SM) :=
    (fX5_codeAt x1 x2 u).bind (fun q1 =>
    (fX5_in ((q1 - (48 : Int32)).toInt64) x3.toInt64 x4.toInt64).bind (fun q3 =>
    if q3 = 0 then
    (fX5_figure_39 (q1 - (48 : Int32)) q3 (u.1 8) (0 : Int32) u)
    else (fX5_figure_39 (q1 - (48 : Int32)) q3 (u.1 8) (1 : Int32) u)))
def fX5_readsCitizen_20 (u : SM) : Option (Int32 × SM) :=
    if ¬ ((0 : Int32) &&& 1 = (0 : Int32)) then none else some ((0 : Int32), u)
def fX5_readsCitizen_246 (xs1 : Int32) (xs2 : Int32) (u : SM) : Option (Int32 × SM) :=
    if ¬ ((1 : Int32) &&& 1 = (1 : Int32)) then none else some ((1 : Int32), ((upd (upd u.1 12 (xs1 ||| xs2)) 11 (((upd u.1 12 (xs1 ||| xs2)) 11) + (1 : Int32))), u.2))
def fX5_readsCitizen_195 (x4 : Int32) (x5 : Int32) (x6 : Int32) (x7 : Int32) (xs1 : Int32) (xs2 : Int32) (u : SM) : Option (Int32 × SM) :=
    if xs1 < 0 ∨ 6 ≤ xs1.toNatClampNeg then none else
    (if (u.1 11) < 0 ∨ 6 ≤ (u.1 11).toNatClampNeg then none else
    (if (u.1 11) < 0 ∨ 6 ≤ (u.1 11).toNatClampNeg then none else
    (if x7 = (121 : Int32) then
    (fX5_readsCitizen_246 (u.1 12) ((1 : Int32) <<< ((u.1 11) &&& 31)) (u.1, (va_up (va_up (va_up u.2 4 (upd (u.2 4) xs1.toNatClampNeg xs2)) 5 (upd ((va_up u.2 4 (upd (u.2 4) xs1.toNatClampNeg xs2)) 5) ((u.1 11).toNatClampNeg) x4)) 6 (upd ((va_up (va_up u.2 4 (upd (u.2 4) xs1.toNatClampNeg xs2)) 5 (upd ((va_up u.2 4 (upd (u.2 4) xs1.toNatClampNeg xs2)) 5) ((u.1 11).toNatClampNeg) x4)) 6) ((u.1 11).toNatClampNeg) (((10 : Int32) * x5) + x6)))))
    else (fX5_readsCitizen_246 (u.1 12) (0 : Int32) (u.1, (va_up (va_up (va_up u.2 4 (upd (u.2 4) xs1.toNatClampNeg xs2)) 5 (upd ((va_up u.2 4 (upd (u.2 4) xs1.toNatClampNeg xs2)) 5) ((u.1 11).toNatClampNeg) x4)) 6 (upd ((va_up (va_up u.2 4 (upd (u.2 4) xs1.toNatClampNeg xs2)) 5 (upd ((va_up u.2 4 (upd (u.2 4) xs1.toNatClampNeg xs2)) 5) ((u.1 11).toNatClampNeg) x4)) 6) ((u.1 11).toNatClampNeg) (((10 : Int32) * x5) + x6))))))))
def fX5_readsCitizen_156 (x3 : Int32) (x4 : Int32) (x5 : Int32) (x6 : Int32) (x7 : Int32) (u : SM) : Option (Int32 × SM) :=
    if x3 = (99 : Int32) then
    (fX5_readsCitizen_195 x4 x5 x6 x7 ((upd u.1 8 ((u.1 8) + (1 : Int32))) 11) (0 : Int32) ((upd u.1 8 ((u.1 8) + (1 : Int32))), u.2))
    else (if x3 = (114 : Int32) then
    (fX5_readsCitizen_195 x4 x5 x6 x7 ((upd u.1 8 ((u.1 8) + (1 : Int32))) 11) (1 : Int32) ((upd u.1 8 ((u.1 8) + (1 : Int32))), u.2))
    else (fX5_readsCitizen_195 x4 x5 x6 x7 ((upd u.1 8 ((u.1 8) + (1 : Int32))) 11) (2 : Int32) ((upd u.1 8 ((u.1 8) + (1 : Int32))), u.2)))
def fX5_readsCitizen_138 (x3 : Int32) (x4 : Int32) (x5 : Int32) (x6 : Int32) (xs0 : Int32) (u : SM) : Option (Int32 × SM) :=
    if xs0 = (121 : Int32) then
    (fX5_readsCitizen_156 x3 x4 x5 x6 xs0 u)
    else (if xs0 = (110 : Int32) then
    (fX5_readsCitizen_156 x3 x4 x5 x6 xs0 u)
    else (if ¬ ((0 : Int32) &&& 1 = (0 : Int32)) then none else some ((0 : Int32), u)))
def fX5_readsCitizen_120 (x1 : Int32) (x2 : Int32) (x3 : Int32) (x4 : Int32) (x5 : Int32) (xs0 : Int32) (u : SM) : Option (Int32 × SM) :=
    if 0 ≤ xs0 then
    ((fX5_codeAt x1 x2 u).bind (fun q2 =>
    fX5_readsCitizen_138 x3 x4 x5 xs0 q2 u))
    else (fX5_readsCitizen_138 x3 x4 x5 xs0 (-9 : Int32) u)
def fX5_readsCitizen_99 (x1 : Int32) (x2 : Int32) (x3 : Int32) (x4 : Int32) (xs0 : Int32) (u : SM) : Option (Int32 × SM) :=
    if 0 ≤ xs0 then
    ((fX5_figure x1 x2 (0 : Int32) (9 : Int32) u).bind (fun q2 =>
    fX5_readsCitizen_120 x1 x2 x3 x4 xs0 q2.1 q2.2))
    else (fX5_readsCitizen_120 x1 x2 x3 x4 xs0 (-9 : Int32) u)
def fX5_readsCitizen_59 (x1 : Int32) (x2 : Int32) (x3 : Int32) (u : SM) : Option (Int32 × SM) :=
    (fX5_figure x1 x2 (1 : Int32) (9 : Int32) ((upd u.1 8 ((u.1 8) + (1 : Int32))), u.2)).bind (fun q1 =>
    if 0 ≤ q1.1 then
    ((fX5_figure x1 x2 (0 : Int32) (9 : Int32) q1.2).bind (fun q4 =>
    fX5_readsCitizen_99 x1 x2 x3 q1.1 q4.1 q4.2))
    else (fX5_readsCitizen_99 x1 x2 x3 q1.1 (-9 : Int32) q1.2))
def fX5_readsCitizen (x1 : Int32) (x2 : Int32) (u : SM) : Option (Int32 × SM) :=
    if (u.1 11) = (6 : Int32) then
    (fX5_readsCitizen_20 u)
    else ((fX5_codeAt x1 x2 u).bind (fun q2 =>
    if q2 = (59 : Int32) then
    ((fX5_codeAt x1 x2 ((upd u.1 8 ((u.1 8) + (1 : Int32))), u.2)).bind (fun q5 =>
    if q5 = (99 : Int32) then
    (fX5_readsCitizen_59 x1 x2 q5 ((upd u.1 8 ((u.1 8) + (1 : Int32))), u.2))
    else (if q5 = (114 : Int32) then
    (fX5_readsCitizen_59 x1 x2 q5 ((upd u.1 8 ((u.1 8) + (1 : Int32))), u.2))
    else (if q5 = (109 : Int32) then
    (fX5_readsCitizen_59 x1 x2 q5 ((upd u.1 8 ((u.1 8) + (1 : Int32))), u.2))
    else (if ¬ ((0 : Int32) &&& 1 = (0 : Int32)) then none else some ((0 : Int32), ((upd u.1 8 ((u.1 8) + (1 : Int32))), u.2)))))))
    else (fX5_readsCitizen_20 u)))
def fX5_readsRepublic_129 (c110 : Int32 → Int32 → Int32 → SM → Option (Int32 × SM)) (x1 : Int32) (x2 : Int32) (u : SM) : Option (Int32 × SM) :=
    (fX5_readsCitizen x1 x2 u).bind (fun q1 =>
    c110 x1 x2 q1.1 q1.2)
def fX5_readsRepublic_139 (x3 : Int32) (u : SM) : Option (Int32 × SM) :=
    if ¬ (x3 &&& 1 = x3) then none else some (x3, u)
def fX5_readsRepublic_110 : Nat → Int32 → Int32 → Int32 → SM → Option (Int32 × SM)
  | 0, _, _, _, _ => none
  | n + 1, x1, x2, x3, u =>
    if x3 = 0 then
    (fX5_readsRepublic_139 x3 u)
    else (if (u.1 11) = 0 then
    (fX5_readsRepublic_129 (fX5_readsRepublic_110 n) x1 x2 u)
    else (if x2 ≤ (u.1 8) then
    (fX5_readsRepublic_139 x3 u)
    else (fX5_readsRepublic_129 (fX5_readsRepublic_110 n) x1 x2 u)))
def fX5_readsRepublic_109 (x1 : Int32) (x2 : Int32) (xs0 : Int32) (u : SM) : Option (Int32 × SM) :=
    fX5_readsRepublic_110 fu x1 x2 xs0 u
def fX5_readsRepublic_94 (x1 : Int32) (x2 : Int32) (xs1 : Int32) (u : SM) : Option (Int32 × SM) :=
    if ((upd u.1 10 xs1) 10) ≤ 0 then
    (fX5_readsRepublic_109 x1 x2 (0 : Int32) ((upd u.1 10 xs1), u.2))
    else (fX5_readsRepublic_109 x1 x2 (1 : Int32) ((upd u.1 10 xs1), u.2))
def fX5_readsRepublic_69 (x1 : Int32) (x2 : Int32) (xs1 : Int32) (u : SM) : Option (Int32 × SM) :=
    if ((upd u.1 9 xs1) 9) < 0 then
    (fX5_readsRepublic_94 x1 x2 (-9 : Int32) ((upd u.1 9 xs1), u.2))
    else ((fX5_figure x1 x2 (1 : Int32) (9 : Int32) ((upd u.1 9 xs1), u.2)).bind (fun q2 =>
    fX5_readsRepublic_94 x1 x2 q2.1 q2.2))
def fX5_readsRepublic_46 (x1 : Int32) (x2 : Int32) (x3 : Int32) (xs1 : Int32) (xs2 : Int32) (u : SM) : Option (Int32 × SM) :=
    if x3 = 0 then
    (fX5_readsRepublic_69 x1 x2 (-9 : Int32) ((upd u.1 8 (xs1 + xs2)), u.2))
    else ((fX5_figure x1 x2 (0 : Int32) (6 : Int32) ((upd u.1 8 (xs1 + xs2)), u.2)).bind (fun q2 =>
    fX5_readsRepublic_69 x1 x2 q2.1 q2.2))
def fX5_readsRepublic_31 (x1 : Int32) (x2 : Int32) (xs0 : Int32) (u : SM) : Option (Int32 × SM) :=
    if xs0 = 0 then
    (fX5_readsRepublic_46 x1 x2 xs0 (u.1 8) (0 : Int32) u)
    else (fX5_readsRepublic_46 x1 x2 xs0 (u.1 8) (1 : Int32) u)
def fX5_readsRepublic (x1 : Int32) (x2 : Int32) (u : SM) : Option (Int32 × SM) :=
    (fX5_codeAt x1 x2 ((upd (upd (upd u.1 8 (0 : Int32)) 11 (0 : Int32)) 12 (0 : Int32)), u.2)).bind (fun q1 =>
    if q1 = (108 : Int32) then
    (fX5_readsRepublic_31 x1 x2 (1 : Int32) ((upd (upd (upd u.1 8 (0 : Int32)) 11 (0 : Int32)) 12 (0 : Int32)), u.2))
    else (fX5_readsRepublic_31 x1 x2 (0 : Int32) ((upd (upd (upd u.1 8 (0 : Int32)) 11 (0 : Int32)) 12 (0 : Int32)), u.2)))
def fX5_isBeyond_20 : Option (Int32) :=
    if ¬ ((1 : Int32) &&& 1 = (1 : Int32)) then none else some (1 : Int32)
def fX5_isBeyond (x0 : Int32) (x1 : Int64) (x3 : Int32) : Option (Int32) :=
    if x0 < 0 then
    (fX5_isBeyond_20)
    else (if (lg_cmp x1 (0 : Int64)) < 0 then
    (fX5_isBeyond_20)
    else (if (lg_cmp (x0.toInt64 + x1) x3.toInt64) ≤ 0 then
    (if ¬ ((0 : Int32) &&& 1 = (0 : Int32)) then none else some (0 : Int32))
    else (fX5_isBeyond_20)))
def fX5_cellsBarred_25 (x1 : Int32) (x3 : Int32) (x4 : Int64) (u : SM) : Option (Int32 × SM) :=
    if x1 < 0 ∨ 4 ≤ x1.toNatClampNeg then none else
    (if 0 ≤ (u.2 8 x1.toNatClampNeg) then
    (if 0 ≤ (lg_cmp x4 (0 : Int64)) then
    (if x1 < 0 ∨ 4 ≤ x1.toNatClampNeg then none else
    ((fX5_isBeyond x3 x4 (u.2 8 x1.toNatClampNeg)).bind (fun q5 =>
    if q5 = 0 then
    (some ((0 : Int32), u))
    else ((fX5_failed (3 : Int32) u).bind (fun q8 =>
    some (q8.1, q8.2))))))
    else ((fX5_failed (4 : Int32) u).bind (fun q10 =>
    some (q10.1, q10.2))))
    else ((fX5_failed (1 : Int32) u).bind (fun q12 =>
    some (q12.1, q12.2))))
def fX5_cellsBarred (x1 : Int32) (x2 : Int32) (x3 : Int32) (x4 : Int64) (u : SM) : Option (Int32 × SM) :=
    if x1 < 0 ∨ 4 ≤ x1.toNatClampNeg then none else
    (if (u.2 8 x1.toNatClampNeg) < 0 then
    (fX5_cellsBarred_25 x1 x3 x4 u)
    else (if x1 < 0 ∨ 4 ≤ x1.toNatClampNeg then none else
    (if (u.2 9 x1.toNatClampNeg) = x2 then
    (fX5_cellsBarred_25 x1 x3 x4 u)
    else ((fX5_failed (2 : Int32) u).bind (fun q5 =>
    some (q5.1, q5.2))))))
def fX5_noSheet (x0 : Int32) : Option (Int32) :=
    (fX5_in x0.toInt64 (0 : Int64) (3 : Int64)).bind (fun q1 =>
    if q1 = 0 then
    (if ¬ ((1 : Int32) &&& 1 = (1 : Int32)) then none else some (1 : Int32))
    else (if ¬ ((0 : Int32) &&& 1 = (0 : Int32)) then none else some (0 : Int32)))
def fX5_republic_114 : Nat → Int32 → SM → Option (Int32 × SM)
  | 0, _, _ => none
  | n + 1, x6, u =>
    if (u.1 3) ≤ x6 then
    ((fX5_refused ((upd u.1 17 (0 : Int32)) 3) ((upd u.1 17 (0 : Int32)), u.2)).bind (fun q2 =>
    some (q2.1, q2.2)))
    else (if x6 < 0 ∨ 6 ≤ x6.toNatClampNeg then none else
    (if x6 < 0 ∨ 6 ≤ x6.toNatClampNeg then none else
    (if x6 < 0 ∨ 6 ≤ x6.toNatClampNeg then none else
    (if x6 < 0 ∨ 6 ≤ x6.toNatClampNeg then none else
    (if x6 < 0 ∨ 6 ≤ x6.toNatClampNeg then none else
    (if x6 < 0 ∨ 6 ≤ x6.toNatClampNeg then none else
    (fX5_republic_114 n (x6 + (1 : Int32)) (u.1, (va_up (va_up (va_up u.2 1 (upd (u.2 1) x6.toNatClampNeg (u.2 4 x6.toNatClampNeg))) 2 (upd ((va_up u.2 1 (upd (u.2 1) x6.toNatClampNeg (u.2 4 x6.toNatClampNeg))) 2) x6.toNatClampNeg ((va_up u.2 1 (upd (u.2 1) x6.toNatClampNeg (u.2 4 x6.toNatClampNeg))) 5 x6.toNatClampNeg))) 3 (upd ((va_up (va_up u.2 1 (upd (u.2 1) x6.toNatClampNeg (u.2 4 x6.toNatClampNeg))) 2 (upd ((va_up u.2 1 (upd (u.2 1) x6.toNatClampNeg (u.2 4 x6.toNatClampNeg))) 2) x6.toNatClampNeg ((va_up u.2 1 (upd (u.2 1) x6.toNatClampNeg (u.2 4 x6.toNatClampNeg))) 5 x6.toNatClampNeg))) 3) x6.toNatClampNeg ((va_up (va_up u.2 1 (upd (u.2 1) x6.toNatClampNeg (u.2 4 x6.toNatClampNeg))) 2 (upd ((va_up u.2 1 (upd (u.2 1) x6.toNatClampNeg (u.2 4 x6.toNatClampNeg))) 2) x6.toNatClampNeg ((va_up u.2 1 (upd (u.2 1) x6.toNatClampNeg (u.2 4 x6.toNatClampNeg))) 5 x6.toNatClampNeg))) 6 x6.toNatClampNeg)))))))))))
def fX5_republic (x1 : Int32) (x2 : Int32) (x3 : Int32) (x4 : Int32) (u : SM) : Option (Int32 × SM) :=
    (fX5_noSheet x1).bind (fun q1 =>
    if q1 = 0 then
    ((fX5_in x2.toInt64 (0 : Int64) (2 : Int64)).bind (fun q4 =>
    if q4 = 0 then
    ((fX5_refused (-2 : Int32) u).bind (fun q15 =>
    some (q15.1, q15.2)))
    else ((fX5_cellsBarred x1 x2 x3 x4.toInt64 u).bind (fun q7 =>
    if 0 ≤ q7.1 then
    ((fX5_readsRepublic (((60 : Int32) * x1) + x3) x4 q7.2).bind (fun q10 =>
    if q10.1 = 0 then
    ((fX5_refused ((-100 : Int32) - (q10.2.1 8)) q10.2).bind (fun q13 =>
    some (q13.1, q13.2)))
    else (fX5_republic_114 fu (0 : Int32) ((upd (upd (upd (upd q10.2.1 1 (q10.2.1 9)) 2 ((upd q10.2.1 1 (q10.2.1 9)) 10)) 3 ((upd (upd q10.2.1 1 (q10.2.1 9)) 2 ((upd q10.2.1 1 (q10.2.1 9)) 10)) 11)) 7 ((upd (upd (upd q10.2.1 1 (q10.2.1 9)) 2 ((upd q10.2.1 1 (q10.2.1 9)) 10)) 3 ((upd (upd q10.2.1 1 (q10.2.1 9)) 2 ((upd q10.2.1 1 (q10.2.1 9)) 10)) 11)) 12)), q10.2.2))))
    else (some (q7.1, q7.2))))))
    else ((fX5_refused (-1 : Int32) u).bind (fun q17 =>
    some (q17.1, q17.2))))
def fX5_slipsOf (x1 : Int32) (u : SM) : Option (Int32) :=
    if x1 < 0 ∨ 6 ≤ x1.toNatClampNeg then none else
    (if x1 < 0 ∨ 6 ≤ x1.toNatClampNeg then none else
    (if (u.2 1 x1.toNatClampNeg) = 0 then
    (some (u.2 2 x1.toNatClampNeg))
    else (if x1 < 0 ∨ 6 ≤ x1.toNatClampNeg then none else
    (if (u.2 1 x1.toNatClampNeg) = (1 : Int32) then
    (some ((u.2 2 x1.toNatClampNeg) + (1 : Int32)))
    else (some ((2 : Int32) * ((u.2 2 x1.toNatClampNeg) + (1 : Int32))))))))
def fX5_slipsOfAll_30 (c4 : Int32 → Int32 → Int32 → SM → Option (Int32)) (x1 : Int32) (x3 : Int32) (xs0 : Int32) (xs1 : Int32) (u : SM) : Option (Int32) :=
    c4 x1 (xs0 + xs1) (x3 + (1 : Int32)) u
def fX5_slipsOfAll_4 : Nat → Int32 → Int32 → Int32 → SM → Option (Int32)
  | 0, _, _, _, _ => none
  | n + 1, x1, x2, x3, u =>
    if (u.1 3) ≤ x3 then
    (some x2)
    else ((fX5_isIn x1 x3).bind (fun q2 =>
    if q2 = 0 then
    (fX5_slipsOfAll_30 (fX5_slipsOfAll_4 n) x1 x3 x2 (0 : Int32) u)
    else ((fX5_slipsOf x3 u).bind (fun q5 =>
    fX5_slipsOfAll_30 (fX5_slipsOfAll_4 n) x1 x3 x2 q5 u))))
def fX5_slipsOfAll (x1 : Int32) (u : SM) : Option (Int32) :=
    fX5_slipsOfAll_4 fu x1 (0 : Int32) (0 : Int32) u
def fX5_drawnOf (x1 : Int32) (u : SM) : Option (Int32) :=
    if x1 ≤ (u.1 1) then
    (some x1)
    else (some (u.1 1))
def fX5_ofCitizen (x1 : Int32) (x2 : Int32) (u : SM) : Option (Int32) :=
    (fX5_noCitizen x1 u).bind (fun q1 =>
    if q1 = 0 then
    (if x2 = (0 : Int32) then
    (if x1 < 0 ∨ 6 ≤ x1.toNatClampNeg then none else
    (some (u.2 1 x1.toNatClampNeg)))
    else if x2 = (1 : Int32) then
    (if x1 < 0 ∨ 6 ≤ x1.toNatClampNeg then none else
    (some (u.2 2 x1.toNatClampNeg)))
    else if x2 = (2 : Int32) then
    (if x1 < 0 ∨ 6 ≤ x1.toNatClampNeg then none else
    (some (u.2 3 x1.toNatClampNeg)))
    else if x2 = (3 : Int32) then
    ((fX5_isIn (u.1 7) x1).bind (fun q11 =>
    if q11 = 0 then
    (some (0 : Int32))
    else (some (1 : Int32))))
    else if x2 = (4 : Int32) then
    ((fX5_slipsOf x1 u).bind (fun q15 =>
    some q15))
    else if x2 = (5 : Int32) then
    ((fX5_slipsOfAll (((1 : Int32) <<< (x1 &&& 31)) - (1 : Int32)) u).bind (fun q18 =>
    some q18))
    else (some (-2 : Int32)))
    else (some (-1 : Int32)))
def fX5_drawn (x1 : Int32) (u : SM) : Option (Int32 × SM) :=
    (fX5_in x1.toInt64 (0 : Int64) (6 : Int64)).bind (fun q1 =>
    if q1 = 0 then
    (some ((-2 : Int32), u))
    else (if (u.1 3) = 0 then
    (some ((-3 : Int32), u))
    else (some ((u.1 1), ((upd u.1 1 x1), u.2)))))
def fX5_price (x1 : Int32) (u : SM) : Option (Int32 × SM) :=
    (fX5_in x1.toInt64 (1 : Int64) (9 : Int64)).bind (fun q1 =>
    if q1 = 0 then
    (some ((-2 : Int32), u))
    else (if (u.1 3) = 0 then
    (some ((-3 : Int32), u))
    else (some ((u.1 2), ((upd u.1 2 x1), u.2)))))
def fX5_wish_45 (x2 : Int32) (x3 : Int32) (xs1 : Int32) (u : SM) : Option (Int32 × SM) :=
    if x3 = x2 then
    (some ((0 : Int32), ((upd u.1 7 xs1), u.2)))
    else (some ((1 : Int32), ((upd u.1 7 xs1), u.2)))
def fX5_wish (x1 : Int32) (x2 : Int32) (u : SM) : Option (Int32 × SM) :=
    (fX5_noCitizen x1 u).bind (fun q1 =>
    if q1 = 0 then
    ((fX5_isIn (u.1 7) x1).bind (fun q4 =>
    if x2 = 0 then
    (fX5_wish_45 x2 q4 ((u.1 7) &&& (((1 : Int32) <<< (x1 &&& 31)) ^^^ (-1 : Int32))) u)
    else (fX5_wish_45 x2 q4 ((u.1 7) ||| ((1 : Int32) <<< (x1 &&& 31))) u)))
    else (some ((-1 : Int32), u)))
def fX5_ownerOf_4 : Nat → Int32 → Int32 → SM → Option (Int32)
  | 0, _, _, _ => none
  | n + 1, x2, x3, u =>
    (fX5_slipsOf x2 u).bind (fun q1 =>
    if x3 < q1 then
    (some x2)
    else ((fX5_slipsOf x2 u).bind (fun q4 =>
    fX5_ownerOf_4 n (x2 + (1 : Int32)) (x3 - q4) u)))
def fX5_ownerOf (x1 : Int32) (u : SM) : Option (Int32) :=
    fX5_ownerOf_4 fu (0 : Int32) x1 u
def fX5_doesPass (x1 : Int32) (u : SM) : Option (Int32) :=
    (fX5_bits (x1 &&& (u.1 7))).bind (fun q1 =>
    (fX5_bits (x1 &&& ((u.1 7) ^^^ (-1 : Int32)))).bind (fun q3 =>
    if q1 ≤ q3 then
    (if ¬ ((0 : Int32) &&& 1 = (0 : Int32)) then none else some (0 : Int32))
    else (if ¬ ((1 : Int32) &&& 1 = (1 : Int32)) then none else some (1 : Int32))))
def fX5_freeBy_97 (c11 : Int32 → Int32 → Int32 → Int32 → SM → Option (Int32 × SM)) (c66 : Int32 → Int32 → Int32 → Int32 → Int32 → Int32 → Int32 → SM → Option (Int32 × SM)) (x1 : Int32) (x2 : Int32) (x3 : Int32) (x4 : Int32) (x5 : Int32) (x7 : Int32) (xs0 : Int32) (u : SM) : Option (Int32 × SM) :=
    c66 x1 x2 x3 x4 x5 xs0 (x7 + (1 : Int32)) u
def fX5_freeBy_92 (c11 : Int32 → Int32 → Int32 → Int32 → SM → Option (Int32 × SM)) (c66 : Int32 → Int32 → Int32 → Int32 → Int32 → Int32 → Int32 → SM → Option (Int32 × SM)) (x1 : Int32) (x2 : Int32) (x3 : Int32) (x4 : Int32) (x5 : Int32) (x7 : Int32) (u : SM) : Option (Int32 × SM) :=
    fX5_freeBy_97 c11 c66 x1 x2 x3 x4 x5 x7 (1 : Int32) u
def fX5_freeBy_139 (c11 : Int32 → Int32 → Int32 → Int32 → SM → Option (Int32 × SM)) (x1 : Int32) (x2 : Int32) (x4 : Int32) (xs0 : Int32) (xs1 : Int32) (u : SM) : Option (Int32 × SM) :=
    c11 x1 x2 (xs0 ||| xs1) (x4 + (1 : Int32)) u
def fX5_freeBy_118 (c11 : Int32 → Int32 → Int32 → Int32 → SM → Option (Int32 × SM)) (x1 : Int32) (x2 : Int32) (x3 : Int32) (x4 : Int32) (x5 : Int32) (x6 : Int32) (xs1 : Int32) (u : SM) : Option (Int32 × SM) :=
    if x6 = 0 then
    ((fX5_ownerOf x5 ((upd u.1 16 xs1), u.2)).bind (fun q2 =>
    fX5_freeBy_139 c11 x1 x2 x4 x3 ((1 : Int32) <<< (q2 &&& 31)) ((upd u.1 16 xs1), u.2)))
    else (fX5_freeBy_139 c11 x1 x2 x4 x3 (0 : Int32) ((upd u.1 16 xs1), u.2))
def fX5_freeBy_66 (c11 : Int32 → Int32 → Int32 → Int32 → SM → Option (Int32 × SM)) : Nat → Int32 → Int32 → Int32 → Int32 → Int32 → Int32 → Int32 → SM → Option (Int32 × SM)
  | 0, _, _, _, _, _, _, _, _ => none
  | n + 1, x1, x2, x3, x4, x5, x6, x7, u =>
    if x4 ≤ x7 then
    (if x6 = 0 then
    (fX5_freeBy_118 c11 x1 x2 x3 x4 x5 x6 (-9 : Int32) u)
    else (fX5_freeBy_118 c11 x1 x2 x3 x4 x5 x6 x4 u))
    else (if x6 = 0 then
    (if (x1 + x7) < 0 ∨ 240 ≤ (x1 + x7).toNatClampNeg then none else
    (if (u.2 10 (x1 + x7).toNatClampNeg) = x5 then
    (fX5_freeBy_92 c11 (fX5_freeBy_66 c11 n) x1 x2 x3 x4 x5 x7 u)
    else (fX5_freeBy_97 c11 (fX5_freeBy_66 c11 n) x1 x2 x3 x4 x5 x7 (0 : Int32) u)))
    else (fX5_freeBy_92 c11 (fX5_freeBy_66 c11 n) x1 x2 x3 x4 x5 x7 u))
def fX5_freeBy_61 (c11 : Int32 → Int32 → Int32 → Int32 → SM → Option (Int32 × SM)) (x1 : Int32) (x2 : Int32) (x3 : Int32) (x4 : Int32) (x5 : Int32) (xs0 : Int32) (u : SM) : Option (Int32 × SM) :=
    fX5_freeBy_66 c11 fu x1 x2 x3 x4 x5 xs0 (0 : Int32) u
def fX5_freeBy_147 (x3 : Int32) (u : SM) : Option (Int32 × SM) :=
    some (x3, u)
def fX5_freeBy_11 : Nat → Int32 → Int32 → Int32 → Int32 → SM → Option (Int32 × SM)
  | 0, _, _, _, _, _ => none
  | n + 1, x1, x2, x3, x4, u =>
    if x2 ≤ x4 then
    (fX5_freeBy_147 x3 u)
    else (if 0 ≤ (u.1 16) then
    (fX5_freeBy_147 x3 u)
    else (if (x1 + x4) < 0 ∨ 240 ≤ (x1 + x4).toNatClampNeg then none else
    ((fX5_everybody u).bind (fun q4 =>
    (fX5_slipsOfAll q4 u).bind (fun q6 =>
    (fX5_in ((u.2 10 (x1 + x4).toNatClampNeg).toInt64) (0 : Int64) (q6.toInt64 - (1 : Int64))).bind (fun q8 =>
    if q8 = 0 then
    (fX5_freeBy_61 (fX5_freeBy_11 n) x1 x2 x3 x4 (u.2 10 (x1 + x4).toNatClampNeg) (1 : Int32) u)
    else (fX5_freeBy_61 (fX5_freeBy_11 n) x1 x2 x3 x4 (u.2 10 (x1 + x4).toNatClampNeg) (0 : Int32) u)))))))
def fX5_freeBy (x1 : Int32) (x2 : Int32) (u : SM) : Option (Int32 × SM) :=
    fX5_freeBy_11 fu x1 x2 (0 : Int32) (0 : Int32) ((upd u.1 16 (-9 : Int32)), u.2)
def fX5_draw_51 (u : SM) : Option (Int32 × SM) :=
    (fX5_refused (-2 : Int32) u).bind (fun q1 =>
    some (q1.1, q1.2))
def fX5_draw_172 (xs1 : Int32) (u : SM) : Option (Int32 × SM) :=
    (fX5_refused xs1 u).bind (fun q1 =>
    some (q1.1, q1.2))
def fX5_draw (x1 : Int32) (x2 : Int32) (x3 : Int32) (x4 : Int32) (x5 : Int32) (u : SM) : Option (Int32 × SM) :=
    (fX5_noSheet x1).bind (fun q1 =>
    if q1 = 0 then
    ((fX5_in x2.toInt64 (0 : Int64) (2 : Int64)).bind (fun q4 =>
    if q4 = 0 then
    (fX5_draw_51 u)
    else ((fX5_in x4.toInt64 (0 : Int64) (20 : Int64)).bind (fun q7 =>
    if q7 = 0 then
    (fX5_draw_51 u)
    else ((fX5_in x5.toInt64 (0 : Int64) (2 : Int64)).bind (fun q10 =>
    if q10 = 0 then
    (fX5_draw_51 u)
    else (if (u.1 3) = 0 then
    ((fX5_refused (-3 : Int32) u).bind (fun q31 =>
    some (q31.1, q31.2)))
    else ((fX5_cellsBarred x1 x2 x3 x4.toInt64 u).bind (fun q14 =>
    if 0 ≤ q14.1 then
    ((fX5_everybody q14.2).bind (fun q17 =>
    (fX5_freeBy (((60 : Int32) * x1) + x3) x4 q14.2).bind (fun q19 =>
    if x5 = (1 : Int32) then
    ((fX5_refused (q19.2.1 16) q19.2).bind (fun q29 =>
    some (q29.1, q29.2)))
    else (if (q19.2.1 16) < 0 then
    (if x5 = 0 then
    (fX5_draw_172 (q17 &&& (q19.1 ^^^ (-1 : Int32))) q19.2)
    else ((fX5_doesPass (q17 &&& (q19.1 ^^^ (-1 : Int32))) q19.2).bind (fun q24 =>
    if q24 = 0 then
    (fX5_draw_172 (0 : Int32) q19.2)
    else (fX5_draw_172 (1 : Int32) q19.2))))
    else ((fX5_refused ((-100 : Int32) - (q19.2.1 16)) q19.2).bind (fun q27 =>
    some (q27.1, q27.2)))))))
    else (some (q14.1, q14.2)))))))))))
    else ((fX5_refused (-1 : Int32) u).bind (fun q33 =>
    some (q33.1, q33.2))))
def fX5_allDraws (u : SM) : Option (Int64) :=
    (fX5_everybody u).bind (fun q1 =>
    (fX5_slipsOfAll q1 u).bind (fun q3 =>
    (fX5_drawnOf q3 u).bind (fun q5 =>
    (fX5_waysOf q3 q5).bind (fun q7 =>
    some q7))))
def fX5_drawsOf_82 (c28 : Int32 → Int32 → Int64 → Int32 → SM → Option (Int64)) (x2 : Int32) (x3 : Int32) (x4 : Int64) (x6 : Int32) (u : SM) : Option (Int64) :=
    c28 x2 x3 x4 (x6 + (1 : Int32)) u
def fX5_drawsOf_79 (c28 : Int32 → Int32 → Int64 → Int32 → SM → Option (Int64)) (x2 : Int32) (x3 : Int32) (x6 : Int32) (xs0 : Int64) (xs1 : Int64) (u : SM) : Option (Int64) :=
    fX5_drawsOf_82 c28 x2 x3 (xs0 + xs1) x6 u
def fX5_drawsOf_28 : Nat → Int32 → Int32 → Int64 → Int32 → SM → Option (Int64)
  | 0, _, _, _, _, _ => none
  | n + 1, x2, x3, x4, x6, u =>
    if x2 < x6 then
    (some x4)
    else (if (x6 &&& (x2 ^^^ (-1 : Int32))) = 0 then
    ((fX5_slipsOfAll x6 u).bind (fun q3 =>
    (fX5_waysOf q3 x3).bind (fun q5 =>
    (fX5_bits (x2 &&& (x6 ^^^ (-1 : Int32)))).bind (fun q7 =>
    if (2 : Int32) = 0 then none else
    (if (q7 - q7 / (2 : Int32) * (2 : Int32)) = 0 then
    (fX5_drawsOf_79 (fX5_drawsOf_28 n) x2 x3 x6 x4 q5 u)
    else (fX5_drawsOf_79 (fX5_drawsOf_28 n) x2 x3 x6 x4 (-q5) u))))))
    else (fX5_drawsOf_82 (fX5_drawsOf_28 n) x2 x3 x4 x6 u))
def fX5_drawsOf (x1 : Int32) (u : SM) : Option (Int64) :=
    (fX5_everybody u).bind (fun q1 =>
    (fX5_everybody u).bind (fun q3 =>
    (fX5_slipsOfAll q3 u).bind (fun q5 =>
    (fX5_drawnOf q5 u).bind (fun q7 =>
    fX5_drawsOf_28 fu (q1 &&& (x1 ^^^ (-1 : Int32))) q7 (0 : Int64) (0 : Int32) u))))
def fX5_drawsWithout (x1 : Int32) (u : SM) : Option (Int64) :=
    (fX5_everybody u).bind (fun q1 =>
    (fX5_slipsOfAll q1 u).bind (fun q3 =>
    (fX5_slipsOf x1 u).bind (fun q5 =>
    (fX5_drawnOf q3 u).bind (fun q7 =>
    (fX5_waysOf (q3 - q5) q7).bind (fun q9 =>
    some q9)))))
def fX5_rules_18 (u : SM) : Option (Int64) :=
    (fX5_lost).bind (fun q1 =>
    some q1)
def fX5_rules (x1 : Int32) (x2 : Int32) (u : SM) : Option (Int64) :=
    (fX5_noCitizen x1 u).bind (fun q1 =>
    if q1 = 0 then
    ((fX5_in x2.toInt64 (0 : Int64) (1 : Int64)).bind (fun q4 =>
    if q4 = 0 then
    (fX5_rules_18 u)
    else ((fX5_drawsWithout x1 u).bind (fun q7 =>
    (fX5_allDraws u).bind (fun q9 =>
    (fX5_share q7 q9 x2).bind (fun q11 =>
    some q11))))))
    else (fX5_rules_18 u))
def fX5_just_31 (u : SM) : Option (Int64) :=
    (fX5_lost).bind (fun q1 =>
    some q1)
def fX5_just (x1 : Int32) (x2 : Int32) (u : SM) : Option (Int64) :=
    if (u.1 3) = 0 then
    (fX5_just_31 u)
    else ((fX5_everybody u).bind (fun q2 =>
    (fX5_in x1.toInt64 (0 : Int64) q2.toInt64).bind (fun q4 =>
    if q4 = 0 then
    (fX5_just_31 u)
    else ((fX5_in x2.toInt64 (0 : Int64) (1 : Int64)).bind (fun q7 =>
    if q7 = 0 then
    (fX5_just_31 u)
    else ((fX5_drawsOf x1 u).bind (fun q10 =>
    (fX5_allDraws u).bind (fun q12 =>
    (fX5_share q10 q12 x2).bind (fun q14 =>
    some q14)))))))))
def fX5_mean_17 (u : SM) : Option (Int64) :=
    (fX5_lost).bind (fun q1 =>
    some q1)
def fX5_mean_26 : Nat → Int32 → Int64 → Int32 → SM → Option (Int64)
  | 0, _, _, _, _ => none
  | n + 1, x1, x2, x4, u =>
    if (u.1 3) ≤ x4 then
    ((fX5_allDraws u).bind (fun q2 =>
    (fX5_share x2 q2 x1).bind (fun q4 =>
    some q4)))
    else ((fX5_drawsWithout x4 u).bind (fun q6 =>
    fX5_mean_26 n x1 (x2 + q6) (x4 + (1 : Int32)) u))
def fX5_mean (x1 : Int32) (u : SM) : Option (Int64) :=
    if (u.1 3) = 0 then
    (fX5_mean_17 u)
    else ((fX5_in x1.toInt64 (0 : Int64) (1 : Int64)).bind (fun q2 =>
    if q2 = 0 then
    (fX5_mean_17 u)
    else (fX5_mean_26 fu x1 (0 : Int64) (0 : Int32) u)))
def fX5_passingDraws_30 (c4 : Int64 → Int32 → SM → Option (Int64)) (x3 : Int32) (xs0 : Int64) (xs1 : Int64) (u : SM) : Option (Int64) :=
    c4 (xs0 + xs1) (x3 + (1 : Int32)) u
def fX5_passingDraws_4 : Nat → Int64 → Int32 → SM → Option (Int64)
  | 0, _, _, _ => none
  | n + 1, x1, x3, u =>
    (fX5_everybody u).bind (fun q1 =>
    if q1 < x3 then
    (some x1)
    else ((fX5_doesPass x3 u).bind (fun q4 =>
    if q4 = 0 then
    (fX5_passingDraws_30 (fX5_passingDraws_4 n) x3 x1 (0 : Int64) u)
    else ((fX5_drawsOf x3 u).bind (fun q7 =>
    fX5_passingDraws_30 (fX5_passingDraws_4 n) x3 x1 q7 u)))))
def fX5_passingDraws (u : SM) : Option (Int64) :=
    fX5_passingDraws_4 fu (0 : Int64) (0 : Int32) u
def fX5_passes_17 (u : SM) : Option (Int64) :=
    (fX5_lost).bind (fun q1 =>
    some q1)
def fX5_passes (x1 : Int32) (u : SM) : Option (Int64) :=
    if (u.1 3) = 0 then
    (fX5_passes_17 u)
    else ((fX5_in x1.toInt64 (0 : Int64) (1 : Int64)).bind (fun q2 =>
    if q2 = 0 then
    (fX5_passes_17 u)
    else ((fX5_passingDraws u).bind (fun q5 =>
    (fX5_allDraws u).bind (fun q7 =>
    (fX5_share q5 q7 x1).bind (fun q9 =>
    some q9))))))
def fX5_buy_34 (u : SM) : Option (Int32) :=
    some (-2 : Int32)
def fX5_buy_140 (u : SM) : Option (Int32) :=
    some (-9 : Int32)
def fX5_buy_50 : Nat → Int32 → Int32 → Int32 → Int32 → Int32 → SM → Option (Int32)
  | 0, _, _, _, _, _, _ => none
  | n + 1, x1, x2, x3, x4, x5, u =>
    if (20 : Int32) < x5 then
    (fX5_buy_140 u)
    else (if x1 < 0 ∨ 6 ≤ x1.toNatClampNeg then none else
    (if (u.2 3 x1.toNatClampNeg) < (x5 * (u.1 2)) then
    (fX5_buy_140 u)
    else ((fX5_drawnOf (x4 + x5) u).bind (fun q4 =>
    (fX5_waysOf (x4 + x5) q4).bind (fun q6 =>
    (fX5_slipsOf x1 u).bind (fun q8 =>
    (fX5_drawnOf (x4 + x5) u).bind (fun q10 =>
    (fX5_waysOf (x4 - q8) q10).bind (fun q12 =>
    if (lg_cmp ((q6 - q12) * x3.toInt64) (q6 * x2.toInt64)) < 0 then
    (fX5_buy_50 n x1 x2 x3 x4 (x5 + (1 : Int32)) u)
    else (some x5)))))))))
def fX5_buy (x1 : Int32) (x2 : Int32) (x3 : Int32) (u : SM) : Option (Int32) :=
    (fX5_noCitizen x1 u).bind (fun q1 =>
    if q1 = 0 then
    ((fX5_in x2.toInt64 (0 : Int64) (999 : Int64)).bind (fun q4 =>
    if q4 = 0 then
    (fX5_buy_34 u)
    else ((fX5_in x3.toInt64 (1 : Int64) (999 : Int64)).bind (fun q7 =>
    if q7 = 0 then
    (fX5_buy_34 u)
    else ((fX5_everybody u).bind (fun q10 =>
    (fX5_slipsOfAll q10 u).bind (fun q12 =>
    fX5_buy_50 fu x1 x2 x3 q12 (0 : Int32) u)))))))
    else (some (-1 : Int32)))
def fX5_lend_124 (c51 : Int32 → Int64 → Int64 → Int32 → Int32 → SM → Option (Int32 × SM)) (x1 : Int32) (x2 : Int64) (x4 : Int64) (x6 : Int32) (x7 : Int32) (u : SM) : Option (Int32 × SM) :=
    c51 x1 x2 x4 x6 (x7 + (1 : Int32)) u
def fX5_lend_51 : Nat → Int32 → Int64 → Int64 → Int32 → Int32 → SM → Option (Int32 × SM)
  | 0, _, _, _, _, _, _ => none
  | n + 1, x1, x2, x4, x6, x7, u =>
    if (u.1 3) ≤ x7 then
    (if x1 < 0 ∨ 6 ≤ x1.toNatClampNeg then none else
    (if x1 < 0 ∨ 6 ≤ x1.toNatClampNeg then none else
    (some (x6, (u.1, (va_up u.2 2 (upd (u.2 2) x1.toNatClampNeg ((u.2 2 x1.toNatClampNeg) + (1 : Int32)))))))))
    else (if x7 = x1 then
    (fX5_lend_124 (fX5_lend_51 n) x1 x2 x4 x6 x7 u)
    else (if x7 < 0 ∨ 6 ≤ x7.toNatClampNeg then none else
    (if x7 < 0 ∨ 6 ≤ x7.toNatClampNeg then none else
    ((fX5_passingDraws (u.1, (va_up u.2 2 (upd (u.2 2) x7.toNatClampNeg ((u.2 2 x7.toNatClampNeg) + (1 : Int32)))))).bind (fun q7 =>
    (fX5_allDraws (u.1, (va_up u.2 2 (upd (u.2 2) x7.toNatClampNeg ((u.2 2 x7.toNatClampNeg) + (1 : Int32)))))).bind (fun q9 =>
    if x7 < 0 ∨ 6 ≤ x7.toNatClampNeg then none else
    (if x7 < 0 ∨ 6 ≤ x7.toNatClampNeg then none else
    ((fX5_isAbove q7 q9 x2 x4).bind (fun q13 =>
    if q13 = 0 then
    (fX5_lend_124 (fX5_lend_51 n) x1 x2 x4 x6 x7 (u.1, (va_up (va_up u.2 2 (upd (u.2 2) x7.toNatClampNeg ((u.2 2 x7.toNatClampNeg) + (1 : Int32)))) 2 (upd ((va_up u.2 2 (upd (u.2 2) x7.toNatClampNeg ((u.2 2 x7.toNatClampNeg) + (1 : Int32)))) 2) x7.toNatClampNeg (((va_up u.2 2 (upd (u.2 2) x7.toNatClampNeg ((u.2 2 x7.toNatClampNeg) + (1 : Int32)))) 2 x7.toNatClampNeg) - (1 : Int32))))))
    else (fX5_lend_124 (fX5_lend_51 n) x1 q7 q9 x7 x7 (u.1, (va_up (va_up u.2 2 (upd (u.2 2) x7.toNatClampNeg ((u.2 2 x7.toNatClampNeg) + (1 : Int32)))) 2 (upd ((va_up u.2 2 (upd (u.2 2) x7.toNatClampNeg ((u.2 2 x7.toNatClampNeg) + (1 : Int32)))) 2) x7.toNatClampNeg (((va_up u.2 2 (upd (u.2 2) x7.toNatClampNeg ((u.2 2 x7.toNatClampNeg) + (1 : Int32)))) 2 x7.toNatClampNeg) - (1 : Int32)))))))))))))))
def fX5_lend (x1 : Int32) (u : SM) : Option (Int32 × SM) :=
    (fX5_noCitizen x1 u).bind (fun q1 =>
    if q1 = 0 then
    (if x1 < 0 ∨ 6 ≤ x1.toNatClampNeg then none else
    (if (2 : Int32) ≤ (u.2 2 x1.toNatClampNeg) then
    ((fX5_passingDraws u).bind (fun q6 =>
    (fX5_allDraws u).bind (fun q8 =>
    if x1 < 0 ∨ 6 ≤ x1.toNatClampNeg then none else
    (if x1 < 0 ∨ 6 ≤ x1.toNatClampNeg then none else
    (fX5_lend_51 fu x1 q6 q8 (-9 : Int32) (0 : Int32) (u.1, (va_up u.2 2 (upd (u.2 2) x1.toNatClampNeg ((u.2 2 x1.toNatClampNeg) - (1 : Int32))))))))))
    else (some ((-3 : Int32), u))))
    else (some ((-1 : Int32), u)))
def fX5_isLikely (u : SM) : Option (Int32) :=
    (fX5_passingDraws u).bind (fun q1 =>
    (fX5_allDraws u).bind (fun q3 =>
    if (lg_cmp ((2 : Int64) * q1) q3) < 0 then
    (if ¬ ((0 : Int32) &&& 1 = (0 : Int32)) then none else some (0 : Int32))
    else (if ¬ ((1 : Int32) &&& 1 = (1 : Int32)) then none else some (1 : Int32))))
def fX5_least_121 (c56 : Int32 → Int32 → Int32 → Int32 → Int32 → SM → Option (Int32 × SM)) (x1 : Int32) (x2 : Int32) (x3 : Int32) (x4 : Int32) (x5 : Int32) (u : SM) : Option (Int32 × SM) :=
    c56 x1 x2 x3 x4 (x5 + (1 : Int32)) u
def fX5_least_114 (c56 : Int32 → Int32 → Int32 → Int32 → Int32 → SM → Option (Int32 × SM)) (x1 : Int32) (x2 : Int32) (x5 : Int32) (x6 : Int32) (u : SM) : Option (Int32 × SM) :=
    fX5_least_121 c56 x1 x2 x6 x5 x5 u
def fX5_least_56 : Nat → Int32 → Int32 → Int32 → Int32 → Int32 → SM → Option (Int32 × SM)
  | 0, _, _, _, _, _, _ => none
  | n + 1, x1, x2, x3, x4, x5, u =>
    if (u.1 3) ≤ x5 then
    (if x1 = 0 then
    (some (x3, ((upd u.1 7 x2), u.2)))
    else (some (x4, ((upd u.1 7 x2), u.2))))
    else (if x5 < 0 ∨ 6 ≤ x5.toNatClampNeg then none else
    (if x5 < 0 ∨ 6 ≤ x5.toNatClampNeg then none else
    ((fX5_isLikely ((upd u.1 7 (x2 ||| ((1 : Int32) <<< (x5 &&& 31)))), u.2)).bind (fun q5 =>
    if q5 = 0 then
    (fX5_least_121 (fX5_least_56 n) x1 x2 x3 x4 x5 ((upd u.1 7 (x2 ||| ((1 : Int32) <<< (x5 &&& 31)))), u.2))
    else (if x3 < 0 then
    (fX5_least_114 (fX5_least_56 n) x1 x2 x5 ((u.2 3 x5.toNatClampNeg) + (((upd u.1 7 (x2 ||| ((1 : Int32) <<< (x5 &&& 31)))) 2) * (u.2 2 x5.toNatClampNeg))) ((upd u.1 7 (x2 ||| ((1 : Int32) <<< (x5 &&& 31)))), u.2))
    else (if x3 ≤ ((u.2 3 x5.toNatClampNeg) + (((upd u.1 7 (x2 ||| ((1 : Int32) <<< (x5 &&& 31)))) 2) * (u.2 2 x5.toNatClampNeg))) then
    (fX5_least_121 (fX5_least_56 n) x1 x2 x3 x4 x5 ((upd u.1 7 (x2 ||| ((1 : Int32) <<< (x5 &&& 31)))), u.2))
    else (fX5_least_114 (fX5_least_56 n) x1 x2 x5 ((u.2 3 x5.toNatClampNeg) + (((upd u.1 7 (x2 ||| ((1 : Int32) <<< (x5 &&& 31)))) 2) * (u.2 2 x5.toNatClampNeg))) ((upd u.1 7 (x2 ||| ((1 : Int32) <<< (x5 &&& 31)))), u.2))))))))
def fX5_least (x1 : Int32) (u : SM) : Option (Int32 × SM) :=
    (fX5_in x1.toInt64 (0 : Int64) (1 : Int64)).bind (fun q1 =>
    if q1 = 0 then
    (some ((-2 : Int32), u))
    else (if (u.1 3) = 0 then
    (some ((-3 : Int32), u))
    else ((fX5_isLikely u).bind (fun q5 =>
    if q5 = 0 then
    (fX5_least_56 fu x1 (u.1 7) (-9 : Int32) (-9 : Int32) (0 : Int32) u)
    else (if x1 = 0 then
    (some ((0 : Int32), u))
    else (some ((-9 : Int32), u)))))))
def fX5_reading (x1 : Int32) (u : SM) : Option (Int32 × SM) :=
    if (u.1 3) = 0 then
    (some ((-3 : Int32), u))
    else ((fX5_everybody u).bind (fun q2 =>
    (fX5_in x1.toInt64 (0 : Int64) q2.toInt64).bind (fun q4 =>
    if q4 = 0 then
    (some ((-2 : Int32), u))
    else (if (u.1 17) = (8 : Int32) then
    (some ((-4 : Int32), u))
    else (if (u.1 17) < 0 ∨ 8 ≤ (u.1 17).toNatClampNeg then none else
    (some ((((upd u.1 17 ((u.1 17) + (1 : Int32))) 17) - (1 : Int32)), ((upd u.1 17 ((u.1 17) + (1 : Int32))), (va_up u.2 7 (upd (u.2 7) ((u.1 17).toNatClampNeg) x1))))))))))
def fX5_back (x1 : Int32) (u : SM) : Option (Int32 × SM) :=
    (fX5_in x1.toInt64 (0 : Int64) ((u.1 17).toInt64)).bind (fun q1 =>
    if q1 = 0 then
    (some ((-2 : Int32), u))
    else (some (((upd u.1 17 ((u.1 17) - x1)) 17), ((upd u.1 17 ((u.1 17) - x1)), u.2))))
def fX5_canBe_36 (c4 : Int32 → Int32 → SM → Option (Int32)) (x2 : Int32) (xs0 : Int32) (u : SM) : Option (Int32) :=
    c4 xs0 (x2 + (1 : Int32)) u
def fX5_canBe_35 (c4 : Int32 → Int32 → SM → Option (Int32)) (x2 : Int32) (u : SM) : Option (Int32) :=
    fX5_canBe_36 c4 x2 (0 : Int32) u
def fX5_canBe_4 : Nat → Int32 → Int32 → SM → Option (Int32)
  | 0, _, _, _ => none
  | n + 1, x1, x2, u =>
    if (u.1 17) ≤ x2 then
    (if ¬ (x1 &&& 1 = x1) then none else some x1)
    else (if x1 = 0 then
    (fX5_canBe_35 (fX5_canBe_4 n) x2 u)
    else (if x2 < 0 ∨ 8 ≤ x2.toNatClampNeg then none else
    ((fX5_drawsOf (u.2 7 x2.toNatClampNeg) u).bind (fun q4 =>
    if (lg_cmp q4 (0 : Int64)) ≤ 0 then
    (fX5_canBe_35 (fX5_canBe_4 n) x2 u)
    else (fX5_canBe_36 (fX5_canBe_4 n) x2 (1 : Int32) u)))))
def fX5_canBe (u : SM) : Option (Int32) :=
    fX5_canBe_4 fu (1 : Int32) (0 : Int32) u
def fX5_tickets_53 (c22 : Int32 → Int32 → Int32 → Int32 → SM → Option (Int32 × SM)) (x1 : Int32) (x2 : Int32) (x4 : Int32) (xs0 : Int32) (xs1 : Int32) (u : SM) : Option (Int32 × SM) :=
    c22 x1 x2 (xs0 ||| xs1) (x4 + (1 : Int32)) u
def fX5_tickets_22 : Nat → Int32 → Int32 → Int32 → Int32 → SM → Option (Int32 × SM)
  | 0, _, _, _, _, _ => none
  | n + 1, x1, x2, x3, x4, u =>
    if (10 : Int32) ≤ x4 then
    (if x1 < 0 ∨ 6 ≤ x1.toNatClampNeg then none else
    (some (x3, (u.1, (va_up u.2 2 (upd (u.2 2) x1.toNatClampNeg x2))))))
    else (if x1 < 0 ∨ 6 ≤ x1.toNatClampNeg then none else
    ((fX5_canBe (u.1, (va_up u.2 2 (upd (u.2 2) x1.toNatClampNeg x4)))).bind (fun q4 =>
    if q4 = 0 then
    (fX5_tickets_53 (fX5_tickets_22 n) x1 x2 x4 x3 (0 : Int32) (u.1, (va_up u.2 2 (upd (u.2 2) x1.toNatClampNeg x4))))
    else (fX5_tickets_53 (fX5_tickets_22 n) x1 x2 x4 x3 ((1 : Int32) <<< (x4 &&& 31)) (u.1, (va_up u.2 2 (upd (u.2 2) x1.toNatClampNeg x4)))))))
def fX5_tickets (x1 : Int32) (u : SM) : Option (Int32 × SM) :=
    (fX5_noCitizen x1 u).bind (fun q1 =>
    if q1 = 0 then
    (if x1 < 0 ∨ 6 ≤ x1.toNatClampNeg then none else
    (fX5_tickets_22 fu x1 (u.2 2 x1.toNatClampNeg) (0 : Int32) (1 : Int32) u))
    else (some ((-1 : Int32), u)))
def fX5_kinds_52 (c22 : Int32 → Int32 → Int32 → Int32 → SM → Option (Int32 × SM)) (x1 : Int32) (x2 : Int32) (x4 : Int32) (xs0 : Int32) (xs1 : Int32) (u : SM) : Option (Int32 × SM) :=
    c22 x1 x2 (xs0 ||| xs1) (x4 + (1 : Int32)) u
def fX5_kinds_22 : Nat → Int32 → Int32 → Int32 → Int32 → SM → Option (Int32 × SM)
  | 0, _, _, _, _, _ => none
  | n + 1, x1, x2, x3, x4, u =>
    if (3 : Int32) ≤ x4 then
    (if x1 < 0 ∨ 6 ≤ x1.toNatClampNeg then none else
    (some (x3, (u.1, (va_up u.2 1 (upd (u.2 1) x1.toNatClampNeg x2))))))
    else (if x1 < 0 ∨ 6 ≤ x1.toNatClampNeg then none else
    ((fX5_canBe (u.1, (va_up u.2 1 (upd (u.2 1) x1.toNatClampNeg x4)))).bind (fun q4 =>
    if q4 = 0 then
    (fX5_kinds_52 (fX5_kinds_22 n) x1 x2 x4 x3 (0 : Int32) (u.1, (va_up u.2 1 (upd (u.2 1) x1.toNatClampNeg x4))))
    else (fX5_kinds_52 (fX5_kinds_22 n) x1 x2 x4 x3 ((1 : Int32) <<< (x4 &&& 31)) (u.1, (va_up u.2 1 (upd (u.2 1) x1.toNatClampNeg x4)))))))
def fX5_kinds (x1 : Int32) (u : SM) : Option (Int32 × SM) :=
    (fX5_noCitizen x1 u).bind (fun q1 =>
    if q1 = 0 then
    (if x1 < 0 ∨ 6 ≤ x1.toNatClampNeg then none else
    (fX5_kinds_22 fu x1 (u.2 1 x1.toNatClampNeg) (0 : Int32) (0 : Int32) u))
    else (some ((-1 : Int32), u)))
def fX5_counts_45 (c19 : Int32 → Int32 → Int32 → SM → Option (Int32 × SM)) (x1 : Int32) (x3 : Int32) (xs0 : Int32) (xs1 : Int32) (u : SM) : Option (Int32 × SM) :=
    c19 x1 (xs0 ||| xs1) (x3 + (1 : Int32)) u
def fX5_counts_19 : Nat → Int32 → Int32 → Int32 → SM → Option (Int32 × SM)
  | 0, _, _, _, _ => none
  | n + 1, x1, x2, x3, u =>
    if (7 : Int32) ≤ x3 then
    (some (x2, ((upd u.1 1 x1), u.2)))
    else ((fX5_canBe ((upd u.1 1 x3), u.2)).bind (fun q2 =>
    if q2 = 0 then
    (fX5_counts_45 (fX5_counts_19 n) x1 x3 x2 (0 : Int32) ((upd u.1 1 x3), u.2))
    else (fX5_counts_45 (fX5_counts_19 n) x1 x3 x2 ((1 : Int32) <<< (x3 &&& 31)) ((upd u.1 1 x3), u.2))))
def fX5_counts (u : SM) : Option (Int32 × SM) :=
    if (u.1 3) = 0 then
    (some ((-3 : Int32), u))
    else (fX5_counts_19 fu (u.1 1) (0 : Int32) (0 : Int32) u)
def fX5_sheet_31 (u : SM) : Option (Int32 × SM) :=
    (fX5_refused (-2 : Int32) u).bind (fun q1 =>
    some (q1.1, q1.2))
def fX5_sheet_65 : Nat → Int32 → Int32 → Int32 → SM → Option (Int32 × SM)
  | 0, _, _, _, _ => none
  | n + 1, x1, x3, x4, u =>
    if x3 ≤ x4 then
    ((fX5_refused (1 : Int32) u).bind (fun q2 =>
    some (q2.1, q2.2)))
    else (if (((60 : Int32) * x1) + x4) < 0 ∨ 240 ≤ (((60 : Int32) * x1) + x4).toNatClampNeg then none else
    (fX5_sheet_65 n x1 x3 (x4 + (1 : Int32)) (u.1, (va_up u.2 10 (upd (u.2 10) ((((60 : Int32) * x1) + x4).toNatClampNeg) (0 : Int32))))))
def fX5_sheet (x1 : Int32) (x2 : Int32) (x3 : Int32) (u : SM) : Option (Int32 × SM) :=
    (fX5_noSheet x1).bind (fun q1 =>
    if q1 = 0 then
    ((fX5_in x2.toInt64 (0 : Int64) (2 : Int64)).bind (fun q4 =>
    if q4 = 0 then
    (fX5_sheet_31 u)
    else (if x3 ≤ (60 : Int32) then
    (if 0 ≤ x3 then
    (if x1 < 0 ∨ 4 ≤ x1.toNatClampNeg then none else
    (if x1 < 0 ∨ 4 ≤ x1.toNatClampNeg then none else
    (fX5_sheet_65 fu x1 x3 (0 : Int32) (u.1, (va_up (va_up u.2 8 (upd (u.2 8) x1.toNatClampNeg x3)) 9 (upd ((va_up u.2 8 (upd (u.2 8) x1.toNatClampNeg x3)) 9) x1.toNatClampNeg x2))))))
    else ((fX5_failed (4 : Int32) u).bind (fun q11 =>
    some (q11.1, q11.2))))
    else (fX5_sheet_31 u))))
    else ((fX5_refused (-1 : Int32) u).bind (fun q13 =>
    some (q13.1, q13.2))))
def fX5_lose_23 (x1 : Int32) (xs0 : Int32) (u : SM) : Option (Int32 × SM) :=
    if x1 < 0 ∨ 4 ≤ x1.toNatClampNeg then none else
    (some (xs0, (u.1, (va_up u.2 8 (upd (u.2 8) x1.toNatClampNeg (-1 : Int32))))))
def fX5_lose (x1 : Int32) (u : SM) : Option (Int32 × SM) :=
    (fX5_noSheet x1).bind (fun q1 =>
    if q1 = 0 then
    (if x1 < 0 ∨ 4 ≤ x1.toNatClampNeg then none else
    (if 0 ≤ (u.2 8 x1.toNatClampNeg) then
    (fX5_lose_23 x1 (1 : Int32) u)
    else (fX5_lose_23 x1 (0 : Int32) u)))
    else (some ((-1 : Int32), u)))
def fX5_noCell (x1 : Int32) (x2 : Int32) (u : SM) : Option (Int32) :=
    if x1 < 0 ∨ 4 ≤ x1.toNatClampNeg then none else
    (if 0 ≤ (u.2 8 x1.toNatClampNeg) then
    (if x1 < 0 ∨ 4 ≤ x1.toNatClampNeg then none else
    ((fX5_in x2.toInt64 (0 : Int64) ((u.2 8 x1.toNatClampNeg).toInt64 - (1 : Int64))).bind (fun q4 =>
    if q4 = 0 then
    (some (3 : Int32))
    else (some (0 : Int32)))))
    else (some (1 : Int32)))
def fX5_put_73 (xs1 : Int32) (xs2 : Int32) (u : SM) : Option (Int32 × SM) :=
    if xs1 < 0 ∨ 240 ≤ xs1.toNatClampNeg then none else
    ((fX5_refused (1 : Int32) (u.1, (va_up u.2 10 (upd (u.2 10) xs1.toNatClampNeg xs2)))).bind (fun q2 =>
    some (q2.1, q2.2)))
def fX5_put (x1 : Int32) (x2 : Int32) (x3 : Int32) (u : SM) : Option (Int32 × SM) :=
    (fX5_noSheet x1).bind (fun q1 =>
    if q1 = 0 then
    ((fX5_noCell x1 x2 u).bind (fun q4 =>
    if q4 ≤ 0 then
    (if x1 < 0 ∨ 4 ≤ x1.toNatClampNeg then none else
    (if (u.2 9 x1.toNatClampNeg) = 0 then
    (fX5_put_73 (((60 : Int32) * x1) + x2) x3.toInt8.toInt32 u)
    else (if x1 < 0 ∨ 4 ≤ x1.toNatClampNeg then none else
    (if (u.2 9 x1.toNatClampNeg) = (1 : Int32) then
    (fX5_put_73 (((60 : Int32) * x1) + x2) x3.toInt16.toInt32 u)
    else (fX5_put_73 (((60 : Int32) * x1) + x2) x3 u)))))
    else ((fX5_noCell x1 x2 u).bind (fun q11 =>
    (fX5_failed q11 u).bind (fun q13 =>
    some (q13.1, q13.2))))))
    else ((fX5_refused (-1 : Int32) u).bind (fun q15 =>
    some (q15.1, q15.2))))
def fX5_cell_24 (u : SM) : Option (Int64 × SM) :=
    (fX5_lost).bind (fun q1 =>
    some (q1, u))
def fX5_cell_53 (x1 : Int32) (x2 : Int32) (u : SM) : Option (Int64 × SM) :=
    (fX5_noCell x1 x2 u).bind (fun q1 =>
    if q1 ≤ 0 then
    (if (((60 : Int32) * x1) + x2) < 0 ∨ 240 ≤ (((60 : Int32) * x1) + x2).toNatClampNeg then none else
    (some ((u.2 10 (((60 : Int32) * x1) + x2).toNatClampNeg).toInt64, u)))
    else ((fX5_noCell x1 x2 u).bind (fun q5 =>
    (fX5_failedLong q5 u).bind (fun q7 =>
    some (q7.1, q7.2)))))
def fX5_cell (x1 : Int32) (x2 : Int32) (x3 : Int32) (u : SM) : Option (Int64 × SM) :=
    (fX5_noSheet x1).bind (fun q1 =>
    if q1 = 0 then
    ((fX5_in x3.toInt64 (0 : Int64) (2 : Int64)).bind (fun q4 =>
    if q4 = 0 then
    (fX5_cell_24 ((upd u.1 0 (0 : Int32)), u.2))
    else (if x1 < 0 ∨ 4 ≤ x1.toNatClampNeg then none else
    (if (u.2 8 x1.toNatClampNeg) < 0 then
    (fX5_cell_53 x1 x2 ((upd u.1 0 (0 : Int32)), u.2))
    else (if x1 < 0 ∨ 4 ≤ x1.toNatClampNeg then none else
    (if (u.2 9 x1.toNatClampNeg) = x3 then
    (fX5_cell_53 x1 x2 ((upd u.1 0 (0 : Int32)), u.2))
    else ((fX5_failedLong (2 : Int32) ((upd u.1 0 (0 : Int32)), u.2)).bind (fun q11 =>
    some (q11.1, q11.2)))))))))
    else (fX5_cell_24 ((upd u.1 0 (0 : Int32)), u.2)))
def fX5_copy_14 (u : SM) : Option (Int32 × SM) :=
    (fX5_refused (-1 : Int32) u).bind (fun q1 =>
    some (q1.1, q1.2))
def fX5_copy_38 (u : SM) : Option (Int32 × SM) :=
    (fX5_failed (1 : Int32) u).bind (fun q1 =>
    some (q1.1, q1.2))
def fX5_copy_98 (u : SM) : Option (Int32 × SM) :=
    (fX5_failed (3 : Int32) u).bind (fun q1 =>
    some (q1.1, q1.2))
def fX5_copy_144 : Nat → Int32 → Int32 → Int32 → Int32 → SM → Option (Int32 × SM)
  | 0, _, _, _, _, _ => none
  | n + 1, x3, x4, x5, x6, u =>
    if x5 ≤ x6 then
    ((fX5_refused x5 u).bind (fun q2 =>
    some (q2.1, q2.2)))
    else (if x6 < 0 ∨ 60 ≤ x6.toNatClampNeg then none else
    (if ((((60 : Int32) * x3) + x4) + x6) < 0 ∨ 240 ≤ ((((60 : Int32) * x3) + x4) + x6).toNatClampNeg then none else
    (fX5_copy_144 n x3 x4 x5 (x6 + (1 : Int32)) (u.1, (va_up u.2 10 (upd (u.2 10) (((((60 : Int32) * x3) + x4) + x6).toNatClampNeg) (u.2 11 x6.toNatClampNeg)))))))
def fX5_copy_107 : Nat → Int32 → Int32 → Int32 → Int32 → Int32 → Int32 → SM → Option (Int32 × SM)
  | 0, _, _, _, _, _, _, _ => none
  | n + 1, x1, x2, x3, x4, x5, x6, u =>
    if x5 ≤ x6 then
    (fX5_copy_144 fu x3 x4 x5 (0 : Int32) u)
    else (if ((((60 : Int32) * x1) + x2) + x6) < 0 ∨ 240 ≤ ((((60 : Int32) * x1) + x2) + x6).toNatClampNeg then none else
    (if x6 < 0 ∨ 60 ≤ x6.toNatClampNeg then none else
    (fX5_copy_107 n x1 x2 x3 x4 x5 (x6 + (1 : Int32)) (u.1, (va_up u.2 11 (upd (u.2 11) x6.toNatClampNeg (u.2 10 ((((60 : Int32) * x1) + x2) + x6).toNatClampNeg)))))))
def fX5_copy (x1 : Int32) (x2 : Int32) (x3 : Int32) (x4 : Int32) (x5 : Int32) (u : SM) : Option (Int32 × SM) :=
    (fX5_noSheet x1).bind (fun q1 =>
    if q1 = 0 then
    ((fX5_noSheet x3).bind (fun q4 =>
    if q4 = 0 then
    (if x1 < 0 ∨ 4 ≤ x1.toNatClampNeg then none else
    (if (u.2 8 x1.toNatClampNeg) < 0 then
    (fX5_copy_38 u)
    else (if x3 < 0 ∨ 4 ≤ x3.toNatClampNeg then none else
    (if 0 ≤ (u.2 8 x3.toNatClampNeg) then
    (if x1 < 0 ∨ 4 ≤ x1.toNatClampNeg then none else
    (if x3 < 0 ∨ 4 ≤ x3.toNatClampNeg then none else
    (if (u.2 9 x1.toNatClampNeg) = (u.2 9 x3.toNatClampNeg) then
    (if x1 < 0 ∨ 4 ≤ x1.toNatClampNeg then none else
    ((fX5_isBeyond x2 x5.toInt64 (u.2 8 x1.toNatClampNeg)).bind (fun q15 =>
    if q15 = 0 then
    (if x3 < 0 ∨ 4 ≤ x3.toNatClampNeg then none else
    ((fX5_isBeyond x4 x5.toInt64 (u.2 8 x3.toNatClampNeg)).bind (fun q19 =>
    if q19 = 0 then
    (fX5_copy_107 fu x1 x2 x3 x4 x5 (0 : Int32) u)
    else (fX5_copy_98 u))))
    else (fX5_copy_98 u))))
    else ((fX5_failed (2 : Int32) u).bind (fun q22 =>
    some (q22.1, q22.2))))))
    else (fX5_copy_38 u)))))
    else (fX5_copy_14 u)))
    else (fX5_copy_14 u))
def fX5_traced (x1 : Int32) (u : SM) : Option (SM) :=
    some ((upd u.1 23 (((31 : Int32) * (u.1 23)) + x1)), u.2)
def fX5_tell_51 (x1 : Int32) (x2 : Int32) (u : SM) : Option (Int32 × SM) :=
    if x1 < 0 ∨ 6 ≤ x1.toNatClampNeg then none else
    (if x2 = 0 then
    (some ((u.2 2 x1.toNatClampNeg), u))
    else (if x2 = (1 : Int32) then
    (some (((u.2 2 x1.toNatClampNeg) + (100 : Int32)), u))
    else (some ((((2 : Int32) * (u.2 2 x1.toNatClampNeg)) + (100 : Int32)), u))))
def fX5_tell_36 (x1 : Int32) (x2 : Int32) (u : SM) : Option (Int32 × SM) :=
    (fX5_traced (1 : Int32) u).bind (fun q1 =>
    if x2 = (2 : Int32) then
    ((fX5_traced (1 : Int32) q1).bind (fun q4 =>
    fX5_tell_51 x1 x2 q4))
    else (fX5_tell_51 x1 x2 q1))
def fX5_tell_27 (x1 : Int32) (x2 : Int32) (u : SM) : Option (Int32 × SM) :=
    if x2 ≤ 0 then
    (fX5_tell_36 x1 x2 u)
    else ((fX5_traced (2 : Int32) u).bind (fun q2 =>
    fX5_tell_36 x1 x2 q2))
def fX5_tell (x1 : Int32) (u : SM) : Option (Int32 × SM) :=
    (fX5_noCitizen x1 u).bind (fun q1 =>
    if q1 = 0 then
    (if x1 < 0 ∨ 6 ≤ x1.toNatClampNeg then none else
    (if (u.2 1 x1.toNatClampNeg) = (2 : Int32) then
    ((fX5_traced (3 : Int32) u).bind (fun q6 =>
    fX5_tell_27 x1 (u.2 1 x1.toNatClampNeg) q6))
    else (fX5_tell_27 x1 (u.2 1 x1.toNatClampNeg) u)))
    else (some ((-1 : Int32), u)))
def fX5_call_26 (x1 : Int32) (xs1 : Int32) (u : SM) : Option (Int32 × SM) :=
    (fX5_traced xs1 u).bind (fun q1 =>
    if x1 < 0 ∨ 6 ≤ x1.toNatClampNeg then none else
    (if (q1.2 1 x1.toNatClampNeg) = (2 : Int32) then
    (some ((20 : Int32), q1))
    else (some (x1, q1))))
def fX5_call (x1 : Int32) (u : SM) : Option (Int32 × SM) :=
    (fX5_noCitizen x1 u).bind (fun q1 =>
    if q1 = 0 then
    (if x1 < 0 ∨ 6 ≤ x1.toNatClampNeg then none else
    (if (u.2 1 x1.toNatClampNeg) = (2 : Int32) then
    (fX5_call_26 x1 (5 : Int32) u)
    else (fX5_call_26 x1 (4 : Int32) u)))
    else (some ((-1 : Int32), u)))
def fX5_as (x1 : Int32) (x2 : Int32) (u : SM) : Option (Int32 × SM) :=
    (fX5_noCitizen x1 u).bind (fun q1 =>
    if q1 = 0 then
    ((fX5_in x2.toInt64 (0 : Int64) (2 : Int64)).bind (fun q4 =>
    if q4 = 0 then
    ((fX5_refused (-2 : Int32) u).bind (fun q13 =>
    some (q13.1, q13.2)))
    else (if x1 < 0 ∨ 6 ≤ x1.toNatClampNeg then none else
    (if (u.2 1 x1.toNatClampNeg) < x2 then
    ((fX5_failed (2 : Int32) u).bind (fun q9 =>
    some (q9.1, q9.2)))
    else ((fX5_refused (1 : Int32) u).bind (fun q11 =>
    some (q11.1, q11.2)))))))
    else ((fX5_refused (-1 : Int32) u).bind (fun q15 =>
    some (q15.1, q15.2))))
def fX5_trace (u : SM) : Option (Int32) :=
    some (u.1 23)
def fX5_fault (u : SM) : Option (Int32) :=
    some (u.1 0)
def fX5_many (x1 : Int32) (u : SM) : Option (Int32) :=
    if x1 = (0 : Int32) then
    (some (u.1 3))
    else if x1 = (1 : Int32) then
    ((fX5_everybody u).bind (fun q3 =>
    (fX5_slipsOfAll q3 u).bind (fun q5 =>
    some q5)))
    else if x1 = (2 : Int32) then
    (some (u.1 1))
    else if x1 = (3 : Int32) then
    (some (u.1 2))
    else if x1 = (4 : Int32) then
    (some (u.1 17))
    else (some (-2 : Int32))
