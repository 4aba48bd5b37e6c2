def s_X3_resize (σ0 : zC) (p0 : Int32) (p1 : Int32) : Option ((Sum String Int32) × zC) :=
  if p0 < (1 : Int32) then (some ((Sum.inl "java/lang/IllegalArgumentException"), σ0)) else (if (7 : Int32) < p0 then (some ((Sum.inl "java/lang/IllegalArgumentException"), σ0)) else (if p1 < (1 : Int32) then (some ((Sum.inl "java/lang/IllegalArgumentException"), σ0)) else (if p1 ≤ p0 then ((s_X1_clearTo σ0.1 p0 p1).bind fun z5 => (s_X2_cancel σ0.2.2.2.2.2.2).bind fun z6 => some ((Sum.inr (p0 * p1)), (z5, σ0.2.1, σ0.2.2.1, σ0.2.2.2.1, σ0.2.2.2.2.1, σ0.2.2.2.2.2.1, z6))) else (some ((Sum.inl "java/lang/IllegalArgumentException"), σ0)))))
def s_X3_requireRow (σ0 : zC) (p0 : Int32) : Option ((Sum String Unit)) :=
  if p0 < 0 then (some (Sum.inl "java/lang/IndexOutOfBoundsException")) else (if p0 < σ0.1.1 then (some (Sum.inr ())) else (some (Sum.inl "java/lang/IndexOutOfBoundsException")))
def s_X3_requireRealColumn (σ0 : zC) (p0 : Int32) : Option ((Sum String Unit)) :=
  if p0 < 0 then (some (Sum.inl "java/lang/IndexOutOfBoundsException")) else (if p0 < σ0.1.2.1 then (some (Sum.inr ())) else (some (Sum.inl "java/lang/IndexOutOfBoundsException")))
def s_X3_requireRealCell (σ0 : zC) (p0 : Int32) (p1 : Int32) : Option ((Sum String Unit)) :=
  (s_X3_requireRow σ0 p0).bind fun z1 => zsel z1 (fun E => some (Sum.inl E)) (fun r1 => (s_X3_requireRealColumn σ0 p1).bind fun z2 => zsel z2 (fun E => some (Sum.inl E)) (fun r2 => some (Sum.inr ())))
def s_X3_setCost (σ0 : zC) (p0 : Int32) (p1 : Int32) (p2 : Int32) : Option ((Sum String Int32) × zC) :=
  (s_X3_requireRealCell σ0 p0 p1).bind fun z1 => zsel z1 (fun E => some ((Sum.inl E), σ0)) (fun r1 => if p2 < 0 then (some ((Sum.inl "java/lang/IllegalArgumentException"), σ0)) else (if p2 ≤ (99 : Int32) then ((s_X1_numberAt σ0.1 p0 p1).bind fun z4 => (s_X1_putNumber σ0.1 p0 p1 p2).bind fun z5 => (s_X2_cancel σ0.2.2.2.2.2.2).bind fun z6 => some ((Sum.inr z4), (z5, σ0.2.1, σ0.2.2.1, σ0.2.2.2.1, σ0.2.2.2.2.1, σ0.2.2.2.2.2.1, z6))) else (some ((Sum.inl "java/lang/IllegalArgumentException"), σ0))))
def s_X3_packedBound_4  : Nat → zC → Int64 → Int32 → Option (Int64)
  | 0, _, _, _ => none
  | n + 1, σ0, x1, x3 => if σ0.1.2.1 ≤ x3 then (some x1) else (s_X3_packedBound_4 n σ0 (x1 * (100 : Int64)) (x3 + 1))
def s_X3_packedBound (σ0 : zC)  : Option (Int64) :=
  s_X3_packedBound_4 FU σ0 (1 : Int64) (0 : Int32)
def s_X3_setRow_46  : Nat → zC → Int32 → Int64 → Int32 → Int32 → Option ((Sum String Int32) × zC)
  | 0, _, _, _, _, _ => none
  | n + 1, τ0, x1, x4, x6, x7 => if x7 < 0 then ((s_X2_cancel τ0.2.2.2.2.2.2).bind fun z2 => some ((Sum.inr x6), (τ0.1, τ0.2.1, τ0.2.2.1, τ0.2.2.2.1, τ0.2.2.2.2.1, τ0.2.2.2.2.2.1, z2))) else ((s_X1_putNumber τ0.1 x1 x7 ((x4 - x4 / (100 : Int64) * (100 : Int64)).toInt32)).bind fun z3 => s_X3_setRow_46 n (z3, τ0.2.1, τ0.2.2.1, τ0.2.2.2.1, τ0.2.2.2.2.1, τ0.2.2.2.2.2.1, τ0.2.2.2.2.2.2) x1 (x4 / (100 : Int64)) (if ((x4 - x4 / (100 : Int64) * (100 : Int64)).toInt32) < x6 then ((x4 - x4 / (100 : Int64) * (100 : Int64)).toInt32) else x6) (x7 + (-1)))
def s_X3_setRow (σ0 : zC) (p0 : Int32) (p1 : Int64) : Option ((Sum String Int32) × zC) :=
  (s_X3_requireRow σ0 p0).bind fun z1 => zsel z1 (fun E => some ((Sum.inl E), σ0)) (fun r1 => if (lg_cmp p1 (0 : Int64)) < 0 then (some ((Sum.inl "java/lang/IllegalArgumentException"), σ0)) else ((s_X3_packedBound σ0).bind fun z3 => if (lg_cmp p1 z3) < 0 then (s_X3_setRow_46 FU σ0 p0 p1 (99 : Int32) (σ0.1.2.1 - (1 : Int32))) else (some ((Sum.inl "java/lang/IllegalArgumentException"), σ0))))
def s_X3_fill_52 (k37 : (zC → Int32 → Int32 → Int32 → Int32 → Option ((Sum String Int32) × zC))) : Nat → zC → Int32 → Int32 → Int32 → Int32 → Int32 → Option ((Sum String Int32) × zC)
  | 0, _, _, _, _, _, _ => none
  | n + 1, τ0, x2, x3, x4, x5, x6 => if τ0.1.2.1 ≤ x6 then (k37 τ0 x2 x3 x4 (x5 + 1)) else (if ¬ (x2 + (1 : Int32)) = 0 then (s_X1_putNumber τ0.1 x5 x6 (((((37 : Int32) * x3) + (11 : Int32)) - (((37 : Int32) * x3) + (11 : Int32)) / (10007 : Int32) * (10007 : Int32)) - ((((37 : Int32) * x3) + (11 : Int32)) - (((37 : Int32) * x3) + (11 : Int32)) / (10007 : Int32) * (10007 : Int32)) / (x2 + (1 : Int32)) * (x2 + (1 : Int32)))).bind fun z3 => (s_X1_putForbidden z3 x5 x6 (0 : Int32)).bind fun z4 => s_X3_fill_52 k37 n (z4, τ0.2.1, τ0.2.2.1, τ0.2.2.2.1, τ0.2.2.2.2.1, τ0.2.2.2.2.2.1, τ0.2.2.2.2.2.2) x2 ((((37 : Int32) * x3) + (11 : Int32)) - (((37 : Int32) * x3) + (11 : Int32)) / (10007 : Int32) * (10007 : Int32)) (x4 + (((((37 : Int32) * x3) + (11 : Int32)) - (((37 : Int32) * x3) + (11 : Int32)) / (10007 : Int32) * (10007 : Int32)) - ((((37 : Int32) * x3) + (11 : Int32)) - (((37 : Int32) * x3) + (11 : Int32)) / (10007 : Int32) * (10007 : Int32)) / (x2 + (1 : Int32)) * (x2 + (1 : Int32)))) x5 (x6 + 1) else none)
def s_X3_fill_37  : Nat → zC → Int32 → Int32 → Int32 → Int32 → Option ((Sum String Int32) × zC)
  | 0, _, _, _, _, _ => none
  | n + 1, τ0, x2, x3, x4, x5 => if τ0.1.1 ≤ x5 then ((s_X2_cancel τ0.2.2.2.2.2.2).bind fun z2 => some ((Sum.inr x4), (τ0.1, τ0.2.1, τ0.2.2.1, τ0.2.2.2.1, τ0.2.2.2.2.1, τ0.2.2.2.2.2.1, z2))) else (s_X3_fill_52 (fun v0 v1 v2 v3 v4 => s_X3_fill_37 n v0 v1 v2 v3 v4) FU τ0 x2 x3 x4 x5 (0 : Int32))
def s_X3_fill (σ0 : zC) (p0 : Int32) (p1 : Int32) : Option ((Sum String Int32) × zC) :=
  if p0 < 0 then (some ((Sum.inl "java/lang/IllegalArgumentException"), σ0)) else (if (9999 : Int32) < p0 then (some ((Sum.inl "java/lang/IllegalArgumentException"), σ0)) else (if p1 < 0 then (some ((Sum.inl "java/lang/IllegalArgumentException"), σ0)) else (if p1 ≤ (99 : Int32) then (s_X3_fill_37 FU σ0 p1 p0 (0 : Int32) (0 : Int32)) else (some ((Sum.inl "java/lang/IllegalArgumentException"), σ0)))))
def s_X3_forbiddenCount_17 (k4 : (zC → Int32 → Int32 → Option (Int32))) : Nat → zC → Int32 → Int32 → Int32 → Option (Int32)
  | 0, _, _, _, _ => none
  | n + 1, σ0, x1, x2, x3 => if σ0.1.2.1 ≤ x3 then (k4 σ0 x1 (x2 + 1)) else ((s_X1_isForbidden σ0.1 x2 x3).bind fun z2 => if z2 = 0 then (s_X3_forbiddenCount_17 k4 n σ0 x1 x2 (x3 + 1)) else (s_X3_forbiddenCount_17 k4 n σ0 (x1 + 1) x2 (x3 + 1)))
def s_X3_forbiddenCount_4  : Nat → zC → Int32 → Int32 → Option (Int32)
  | 0, _, _, _ => none
  | n + 1, σ0, x1, x2 => if σ0.1.1 ≤ x2 then (some x1) else (s_X3_forbiddenCount_17 (fun v0 v1 v2 => s_X3_forbiddenCount_4 n v0 v1 v2) FU σ0 x1 x2 (0 : Int32))
def s_X3_forbiddenCount (σ0 : zC)  : Option (Int32) :=
  s_X3_forbiddenCount_4 FU σ0 (0 : Int32) (0 : Int32)
def s_X3_setForbidden (σ0 : zC) (p0 : Int32) (p1 : Int32) (p2 : Int32) : Option ((Sum String Int32) × zC) :=
  (s_X3_requireRealCell σ0 p0 p1).bind fun z1 => zsel z1 (fun E => some ((Sum.inl E), σ0)) (fun r1 => (s_X1_putForbidden σ0.1 p0 p1 p2).bind fun z2 => (s_X2_cancel σ0.2.2.2.2.2.2).bind fun z3 => (s_X3_forbiddenCount (z2, σ0.2.1, σ0.2.2.1, σ0.2.2.2.1, σ0.2.2.2.2.1, σ0.2.2.2.2.2.1, z3)).bind fun z4 => some ((Sum.inr z4), (z2, σ0.2.1, σ0.2.2.1, σ0.2.2.2.1, σ0.2.2.2.2.1, σ0.2.2.2.2.2.1, z3)))
def s_X3_isColumn (σ0 : zC) (p0 : Int32) : Option (Int32) :=
  if p0 < 0 then (some (0 : Int32)) else (if σ0.1.1 ≤ p0 then (some (0 : Int32)) else (some (1 : Int32)))
def s_X3_requireColumn (σ0 : zC) (p0 : Int32) : Option ((Sum String Unit)) :=
  (s_X3_isColumn σ0 p0).bind fun z1 => if z1 = 0 then (some (Sum.inl "java/lang/IndexOutOfBoundsException")) else (some (Sum.inr ()))
def s_X3_requireCell (σ0 : zC) (p0 : Int32) (p1 : Int32) : Option ((Sum String Unit)) :=
  (s_X3_requireRow σ0 p0).bind fun z1 => zsel z1 (fun E => some (Sum.inl E)) (fun r1 => (s_X3_requireColumn σ0 p1).bind fun z2 => zsel z2 (fun E => some (Sum.inl E)) (fun r2 => some (Sum.inr ())))
def s_X3_costAt (σ0 : zC) (p0 : Int32) (p1 : Int32) : Option ((Sum String Int32)) :=
  (s_X3_requireCell σ0 p0 p1).bind fun z1 => zsel z1 (fun E => some (Sum.inl E)) (fun r1 => (s_X1_costOf σ0.1 p0 p1).bind fun z2 => some (Sum.inr z2))
def s_X3_requireAddend (σ0 : zC) (p0 : Int32) : Option ((Sum String Unit)) :=
  if p0 < (-99 : Int32) then (some (Sum.inl "java/lang/IllegalArgumentException")) else (if p0 ≤ (99 : Int32) then (some (Sum.inr ())) else (some (Sum.inl "java/lang/IllegalArgumentException")))
def s_X3_requireNoDummyColumn (σ0 : zC)  : Option ((Sum String Unit)) :=
  if σ0.1.1 ≤ σ0.1.2.1 then (some (Sum.inr ())) else (some (Sum.inl "java/lang/IllegalStateException"))
def s_X3_requireAddable (σ0 : zC) (p0 : Int32) (p1 : Int32) (p2 : Int32) : Option ((Sum String Unit)) :=
  (s_X1_numberAt σ0.1 p0 p1).bind fun z1 => (s_X1_isForbidden σ0.1 p0 p1).bind fun z2 => if z2 = 0 then (if (z1 + p2) < 0 then (some (Sum.inl "java/lang/IllegalStateException")) else (if (z1 + p2) ≤ (99 : Int32) then (some (Sum.inr ())) else (some (Sum.inl "java/lang/IllegalStateException")))) else (some (Sum.inl "java/lang/IllegalStateException"))
def s_X3_addToRow_42  : Nat → zC → Int32 → Int32 → Int32 → Option ((Sum String Int32) × zC)
  | 0, _, _, _, _ => none
  | n + 1, τ0, x1, x2, x3 => if τ0.1.2.1 ≤ x3 then ((s_X2_cancel τ0.2.2.2.2.2.2).bind fun z2 => (s_X1_sumOfRow τ0.1 x1).bind fun z3 => some ((Sum.inr z3), (τ0.1, τ0.2.1, τ0.2.2.1, τ0.2.2.2.1, τ0.2.2.2.2.1, τ0.2.2.2.2.2.1, z2))) else ((s_X1_numberAt τ0.1 x1 x3).bind fun z4 => (s_X1_putNumber τ0.1 x1 x3 (z4 + x2)).bind fun z5 => s_X3_addToRow_42 n (z5, τ0.2.1, τ0.2.2.1, τ0.2.2.2.1, τ0.2.2.2.2.1, τ0.2.2.2.2.2.1, τ0.2.2.2.2.2.2) x1 x2 (x3 + 1))
def s_X3_addToRow_16  : Nat → zC → Int32 → Int32 → Int32 → Option ((Sum String Int32) × zC)
  | 0, _, _, _, _ => none
  | n + 1, τ0, x1, x2, x3 => if τ0.1.2.1 ≤ x3 then (s_X3_addToRow_42 FU τ0 x1 x2 (0 : Int32)) else ((s_X3_requireAddable τ0 x1 x3 x2).bind fun z2 => zsel z2 (fun E => some ((Sum.inl E), τ0)) (fun r2 => s_X3_addToRow_16 n τ0 x1 x2 (x3 + 1)))
def s_X3_addToRow (σ0 : zC) (p0 : Int32) (p1 : Int32) : Option ((Sum String Int32) × zC) :=
  (s_X3_requireRow σ0 p0).bind fun z1 => zsel z1 (fun E => some ((Sum.inl E), σ0)) (fun r1 => (s_X3_requireAddend σ0 p1).bind fun z2 => zsel z2 (fun E => some ((Sum.inl E), σ0)) (fun r2 => (s_X3_requireNoDummyColumn σ0).bind fun z3 => zsel z3 (fun E => some ((Sum.inl E), σ0)) (fun r3 => s_X3_addToRow_16 FU σ0 p0 p1 (0 : Int32))))
def s_X3_addToColumn_38  : Nat → zC → Int32 → Int32 → Int32 → Option ((Sum String Int32) × zC)
  | 0, _, _, _, _ => none
  | n + 1, τ0, x1, x2, x3 => if τ0.1.1 ≤ x3 then ((s_X2_cancel τ0.2.2.2.2.2.2).bind fun z2 => (s_X1_sumOfColumn τ0.1 x1).bind fun z3 => some ((Sum.inr z3), (τ0.1, τ0.2.1, τ0.2.2.1, τ0.2.2.2.1, τ0.2.2.2.2.1, τ0.2.2.2.2.2.1, z2))) else ((s_X1_numberAt τ0.1 x3 x1).bind fun z4 => (s_X1_putNumber τ0.1 x3 x1 (z4 + x2)).bind fun z5 => s_X3_addToColumn_38 n (z5, τ0.2.1, τ0.2.2.1, τ0.2.2.2.1, τ0.2.2.2.2.1, τ0.2.2.2.2.2.1, τ0.2.2.2.2.2.2) x1 x2 (x3 + 1))
def s_X3_addToColumn_12  : Nat → zC → Int32 → Int32 → Int32 → Option ((Sum String Int32) × zC)
  | 0, _, _, _, _ => none
  | n + 1, τ0, x1, x2, x3 => if τ0.1.1 ≤ x3 then (s_X3_addToColumn_38 FU τ0 x1 x2 (0 : Int32)) else ((s_X3_requireAddable τ0 x3 x1 x2).bind fun z2 => zsel z2 (fun E => some ((Sum.inl E), τ0)) (fun r2 => s_X3_addToColumn_12 n τ0 x1 x2 (x3 + 1)))
def s_X3_addToColumn (σ0 : zC) (p0 : Int32) (p1 : Int32) : Option ((Sum String Int32) × zC) :=
  (s_X3_requireRealColumn σ0 p0).bind fun z1 => zsel z1 (fun E => some ((Sum.inl E), σ0)) (fun r1 => (s_X3_requireAddend σ0 p1).bind fun z2 => zsel z2 (fun E => some ((Sum.inl E), σ0)) (fun r2 => s_X3_addToColumn_12 FU σ0 p0 p1 (0 : Int32)))
def s_X3_swapRows_12  : Nat → zC → Int32 → Int32 → Int32 → Option ((Sum String Int32) × zC)
  | 0, _, _, _, _ => none
  | n + 1, τ0, x1, x2, x3 => if τ0.1.2.1 ≤ x3 then ((s_X2_cancel τ0.2.2.2.2.2.2).bind fun z2 => (s_X1_sumOfRow τ0.1 x1).bind fun z3 => some ((Sum.inr z3), (τ0.1, τ0.2.1, τ0.2.2.1, τ0.2.2.2.1, τ0.2.2.2.2.1, τ0.2.2.2.2.2.1, z2))) else ((s_X1_swapCells τ0.1 x1 x3 x2 x3).bind fun z4 => s_X3_swapRows_12 n (z4, τ0.2.1, τ0.2.2.1, τ0.2.2.2.1, τ0.2.2.2.2.1, τ0.2.2.2.2.2.1, τ0.2.2.2.2.2.2) x1 x2 (x3 + 1))
def s_X3_swapRows (σ0 : zC) (p0 : Int32) (p1 : Int32) : Option ((Sum String Int32) × zC) :=
  (s_X3_requireRow σ0 p0).bind fun z1 => zsel z1 (fun E => some ((Sum.inl E), σ0)) (fun r1 => (s_X3_requireRow σ0 p1).bind fun z2 => zsel z2 (fun E => some ((Sum.inl E), σ0)) (fun r2 => s_X3_swapRows_12 FU σ0 p0 p1 (0 : Int32)))
def s_X3_swapColumns_12  : Nat → zC → Int32 → Int32 → Int32 → Option ((Sum String Int32) × zC)
  | 0, _, _, _, _ => none
  | n + 1, τ0, x1, x2, x3 => if τ0.1.1 ≤ x3 then ((s_X2_cancel τ0.2.2.2.2.2.2).bind fun z2 => (s_X1_sumOfColumn τ0.1 x1).bind fun z3 => some ((Sum.inr z3), (τ0.1, τ0.2.1, τ0.2.2.1, τ0.2.2.2.1, τ0.2.2.2.2.1, τ0.2.2.2.2.2.1, z2))) else ((s_X1_swapCells τ0.1 x3 x1 x3 x2).bind fun z4 => s_X3_swapColumns_12 n (z4, τ0.2.1, τ0.2.2.1, τ0.2.2.2.1, τ0.2.2.2.2.1, τ0.2.2.2.2.2.1, τ0.2.2.2.2.2.2) x1 x2 (x3 + 1))
def s_X3_swapColumns (σ0 : zC) (p0 : Int32) (p1 : Int32) : Option ((Sum String Int32) × zC) :=
  (s_X3_requireRealColumn σ0 p0).bind fun z1 => zsel z1 (fun E => some ((Sum.inl E), σ0)) (fun r1 => (s_X3_requireRealColumn σ0 p1).bind fun z2 => zsel z2 (fun E => some ((Sum.inl E), σ0)) (fun r2 => s_X3_swapColumns_12 FU σ0 p0 p1 (0 : Int32)))
def s_X3_transpose_19 (k6 : (zC → Int32 → Option ((Sum String Int32) × zC))) : Nat → zC → Int32 → Int32 → Option ((Sum String Int32) × zC)
  | 0, _, _, _ => none
  | n + 1, τ0, x1, x2 => if x1 ≤ x2 then (k6 τ0 (x1 + 1)) else ((s_X1_swapCells τ0.1 x1 x2 x2 x1).bind fun z2 => s_X3_transpose_19 k6 n (z2, τ0.2.1, τ0.2.2.1, τ0.2.2.2.1, τ0.2.2.2.2.1, τ0.2.2.2.2.2.1, τ0.2.2.2.2.2.2) x1 (x2 + 1))
def s_X3_transpose_6  : Nat → zC → Int32 → Option ((Sum String Int32) × zC)
  | 0, _, _ => none
  | n + 1, τ0, x1 => if τ0.1.1 ≤ x1 then ((s_X2_cancel τ0.2.2.2.2.2.2).bind fun z2 => some ((Sum.inr τ0.1.1), (τ0.1, τ0.2.1, τ0.2.2.1, τ0.2.2.2.1, τ0.2.2.2.2.1, τ0.2.2.2.2.2.1, z2))) else (s_X3_transpose_19 (fun v0 v1 => s_X3_transpose_6 n v0 v1) FU τ0 x1 (0 : Int32))
def s_X3_transpose (σ0 : zC)  : Option ((Sum String Int32) × zC) :=
  (s_X3_requireNoDummyColumn σ0).bind fun z1 => zsel z1 (fun E => some ((Sum.inl E), σ0)) (fun r1 => s_X3_transpose_6 FU σ0 (0 : Int32))
def s_X3_totalCost_4  : Nat → zC → Int32 → Int32 → Option (Int32)
  | 0, _, _, _ => none
  | n + 1, σ0, x1, x2 => if σ0.1.1 ≤ x2 then (some x1) else ((s_X1_sumOfRow σ0.1 x2).bind fun z2 => s_X3_totalCost_4 n σ0 (x1 + z2) (x2 + 1))
def s_X3_totalCost (σ0 : zC)  : Option (Int32) :=
  s_X3_totalCost_4 FU σ0 (0 : Int32) (0 : Int32)
def s_X3_save (σ0 : zC)  : Option (Int32 × zC) :=
  (s_X1_copyFrom σ0.2.1 σ0.1).bind fun z1 => (s_X3_totalCost (σ0.1, z1, σ0.2.2.1, σ0.2.2.2.1, σ0.2.2.2.2.1, σ0.2.2.2.2.2.1, σ0.2.2.2.2.2.2)).bind fun z2 => some (z2, (σ0.1, z1, σ0.2.2.1, σ0.2.2.2.1, σ0.2.2.2.2.1, σ0.2.2.2.2.2.1, σ0.2.2.2.2.2.2))
def s_X3_restore (σ0 : zC)  : Option (Int32 × zC) :=
  (s_X1_copyFrom σ0.1 σ0.2.1).bind fun z1 => (s_X2_cancel σ0.2.2.2.2.2.2).bind fun z2 => some (z1.1, (z1, σ0.2.1, σ0.2.2.1, σ0.2.2.2.1, σ0.2.2.2.2.1, σ0.2.2.2.2.2.1, z2))
def s_X3_distance_53 (k40 : (zC → Int32 → Int32 → Option (Int32))) : Nat → zC → Int32 → Int32 → Int32 → Option (Int32)
  | 0, _, _, _, _ => none
  | n + 1, σ0, x1, x2, x3 => if σ0.1.1 ≤ x3 then (k40 σ0 x1 (x2 + 1)) else ((s_X1_costOf σ0.1 x2 x3).bind fun z2 => (s_X1_costOf σ0.2.1 x2 x3).bind fun z3 => s_X3_distance_53 k40 n σ0 (x1 + (if 0 ≤ (z2 - z3) then (z2 - z3) else 0 - (z2 - z3))) x2 (x3 + 1))
def s_X3_distance_40  : Nat → zC → Int32 → Int32 → Option (Int32)
  | 0, _, _, _ => none
  | n + 1, σ0, x1, x2 => if σ0.1.1 ≤ x2 then (some x1) else (s_X3_distance_53 (fun v0 v1 v2 => s_X3_distance_40 n v0 v1 v2) FU σ0 x1 x2 (0 : Int32))
def s_X3_distance (σ0 : zC)  : Option (Int32) :=
  if σ0.1.1 = σ0.2.1.1 then (if σ0.1.2.1 = σ0.2.1.2.1 then (s_X3_distance_40 FU σ0 (0 : Int32) (0 : Int32)) else (some (-1 : Int32))) else (some (-1 : Int32))
def s_X3_rows (σ0 : zC)  : Option (Int32) :=
  some σ0.1.1
def s_X3_columns (σ0 : zC)  : Option (Int32) :=
  some σ0.1.2.1
def s_X3_minimum (σ0 : zC)  : Option (Int32 × zC) :=
  (s_X0_load σ0.2.2.1 σ0.1).bind fun z1 => (s_X0_leastSum z1).bind fun z2 => some (z2.1, (σ0.1, σ0.2.1, z2.2, σ0.2.2.2.1, σ0.2.2.2.2.1, σ0.2.2.2.2.2.1, σ0.2.2.2.2.2.2))
def s_X3_savedMinimum (σ0 : zC)  : Option (Int32 × zC) :=
  (s_X0_load σ0.2.2.1 σ0.2.1).bind fun z1 => (s_X0_leastSum z1).bind fun z2 => some (z2.1, (σ0.1, σ0.2.1, z2.2, σ0.2.2.2.1, σ0.2.2.2.2.1, σ0.2.2.2.2.2.1, σ0.2.2.2.2.2.2))
def s_X3_findFirstOptimal (σ0 : zC)  : Option (zC) :=
  (s_X0_load σ0.2.2.1 σ0.1).bind fun z1 => (s_X0_leastSum z1).bind fun z2 => (s_X0_traceLeast z2.2 σ0.2.2.2.2.2.1).bind fun z3 => some (σ0.1, σ0.2.1, z2.2, σ0.2.2.2.1, σ0.2.2.2.2.1, z3, σ0.2.2.2.2.2.2)
def s_X3_assigned (σ0 : zC) (p0 : Int32) : Option ((Sum String Int32) × zC) :=
  (s_X3_requireRow σ0 p0).bind fun z1 => zsel z1 (fun E => some ((Sum.inl E), σ0)) (fun r1 => (s_X3_findFirstOptimal σ0).bind fun z2 => if ib p0 7 = true then some ((Sum.inr (z2.2.2.2.2.2.1 p0.toNatClampNeg)), z2) else none)
def s_X3_optimalCount (σ0 : zC)  : Option (Int32 × zC) :=
  (s_X0_load σ0.2.2.1 σ0.1).bind fun z1 => (s_X0_leastSum z1).bind fun z2 => (s_X0_leastWays z2.2).bind fun z3 => some (z3, (σ0.1, σ0.2.1, z2.2, σ0.2.2.2.1, σ0.2.2.2.2.1, σ0.2.2.2.2.2.1, σ0.2.2.2.2.2.2))
def s_X3_minimumWith_19  : Nat → zC → Int32 → Int32 → Int32 → Option ((Sum String Int32) × zC)
  | 0, _, _, _, _ => none
  | n + 1, τ0, x1, x2, x3 => if τ0.1.1 ≤ x3 then ((s_X0_leastSum τ0.2.2.1).bind fun z2 => some ((Sum.inr z2.1), (τ0.1, τ0.2.1, z2.2, τ0.2.2.2.1, τ0.2.2.2.2.1, τ0.2.2.2.2.2.1, τ0.2.2.2.2.2.2))) else (if x3 = x2 then (s_X3_minimumWith_19 n τ0 x1 x2 (x3 + 1)) else ((s_X0_putCost τ0.2.2.1 x1 x3 (100000 : Int32)).bind fun z4 => s_X3_minimumWith_19 n (τ0.1, τ0.2.1, z4, τ0.2.2.2.1, τ0.2.2.2.2.1, τ0.2.2.2.2.2.1, τ0.2.2.2.2.2.2) x1 x2 (x3 + 1)))
def s_X3_minimumWith (σ0 : zC) (p0 : Int32) (p1 : Int32) : Option ((Sum String Int32) × zC) :=
  (s_X3_requireCell σ0 p0 p1).bind fun z1 => zsel z1 (fun E => some ((Sum.inl E), σ0)) (fun r1 => (s_X0_load σ0.2.2.1 σ0.1).bind fun z2 => s_X3_minimumWith_19 FU (σ0.1, σ0.2.1, z2, σ0.2.2.2.1, σ0.2.2.2.2.1, σ0.2.2.2.2.2.1, σ0.2.2.2.2.2.2) p0 p1 (0 : Int32))
def s_X3_smallestRest_19  : Nat → zC → Int32 → Int32 → Int32 → Option (Int32)
  | 0, _, _, _, _ => none
  | n + 1, σ0, x1, x2, x3 => if σ0.1.1 ≤ x3 then (some x2) else ((s_X1_costOf σ0.1 x3 x1).bind fun z2 => if ib x3 7 = true then s_X3_smallestRest_19 n σ0 x1 (if (z2 - (σ0.2.2.2.1 x3.toNatClampNeg)) < x2 then (z2 - (σ0.2.2.2.1 x3.toNatClampNeg)) else x2) (x3 + 1) else none)
def s_X3_smallestRest (σ0 : zC) (p0 : Int32) : Option (Int32) :=
  (s_X1_costOf σ0.1 (0 : Int32) p0).bind fun z1 => if ib (0 : Int32) 7 = true then s_X3_smallestRest_19 FU σ0 p0 (z1 - (σ0.2.2.2.1 (0 : Int32).toNatClampNeg)) (1 : Int32) else none
def s_X3_findPotentials_52  : Nat → zC → Int32 → Option ((Sum String Unit) × zC)
  | 0, _, _ => none
  | n + 1, τ0, x2 => if τ0.1.1 ≤ x2 then (some ((Sum.inr ()), τ0)) else ((s_X3_smallestRest τ0 x2).bind fun z2 => if ib x2 7 = true then s_X3_findPotentials_52 n (τ0.1, τ0.2.1, τ0.2.2.1, τ0.2.2.2.1, (upd τ0.2.2.2.2.1 x2.toNatClampNeg z2), τ0.2.2.2.2.2.1, τ0.2.2.2.2.2.2) (x2 + 1) else none)
def s_X3_findPotentials_7  : Nat → zC → Int32 → Int32 → Option ((Sum String Unit) × zC)
  | 0, _, _, _ => none
  | n + 1, τ0, x1, x2 => if τ0.1.1 ≤ x2 then (s_X3_findPotentials_52 FU τ0 (0 : Int32)) else ((s_X3_minimumWith τ0 x2 (0 : Int32)).bind fun z2 => zsel z2.1 (fun E => some ((Sum.inl E), z2.2)) (fun r2 => (s_X1_costOf z2.2.1 x2 (0 : Int32)).bind fun z3 => if ib x2 7 = true then s_X3_findPotentials_7 n (z2.2.1, z2.2.2.1, z2.2.2.2.1, (upd z2.2.2.2.2.1 x2.toNatClampNeg (x1 - (r2 - z3))), z2.2.2.2.2.2.1, z2.2.2.2.2.2.2.1, z2.2.2.2.2.2.2.2) x1 (x2 + 1) else none))
def s_X3_findPotentials (σ0 : zC)  : Option ((Sum String Unit) × zC) :=
  (s_X3_minimum σ0).bind fun z1 => s_X3_findPotentials_7 FU z1.2 z1.1 (0 : Int32)
def s_X3_rowPotential (σ0 : zC) (p0 : Int32) : Option ((Sum String Int32) × zC) :=
  (s_X3_requireRow σ0 p0).bind fun z1 => zsel z1 (fun E => some ((Sum.inl E), σ0)) (fun r1 => (s_X3_findPotentials σ0).bind fun z2 => zsel z2.1 (fun E => some ((Sum.inl E), z2.2)) (fun r2 => if ib p0 7 = true then some ((Sum.inr (z2.2.2.2.2.1 p0.toNatClampNeg)), z2.2) else none))
def s_X3_columnPotential (σ0 : zC) (p0 : Int32) : Option ((Sum String Int32) × zC) :=
  (s_X3_requireColumn σ0 p0).bind fun z1 => zsel z1 (fun E => some ((Sum.inl E), σ0)) (fun r1 => (s_X3_findPotentials σ0).bind fun z2 => zsel z2.1 (fun E => some ((Sum.inl E), z2.2)) (fun r2 => if ib p0 7 = true then some ((Sum.inr (z2.2.2.2.2.2.1 p0.toNatClampNeg)), z2.2) else none))
def s_X3_reducedBy (σ0 : zC) (p0 : Int32) (p1 : Int32) : Option (Int32) :=
  (s_X1_costOf σ0.1 p0 p1).bind fun z1 => if ib p0 7 = true then if ib p1 7 = true then some ((z1 - (σ0.2.2.2.1 p0.toNatClampNeg)) - (σ0.2.2.2.2.1 p1.toNatClampNeg)) else none else none
def s_X3_reducedCost (σ0 : zC) (p0 : Int32) (p1 : Int32) : Option ((Sum String Int32) × zC) :=
  (s_X3_requireCell σ0 p0 p1).bind fun z1 => zsel z1 (fun E => some ((Sum.inl E), σ0)) (fun r1 => (s_X3_findPotentials σ0).bind fun z2 => zsel z2.1 (fun E => some ((Sum.inl E), z2.2)) (fun r2 => (s_X3_reducedBy z2.2 p0 p1).bind fun z3 => some ((Sum.inr z3), z2.2)))
def s_X3_leastWithCost (σ0 : zC) (p0 : Int32) (p1 : Int32) (p2 : Int32) : Option (Int32 × zC) :=
  (s_X0_load σ0.2.2.1 σ0.1).bind fun z1 => (s_X0_putCost z1 p0 p1 p2).bind fun z2 => (s_X0_leastSum z2).bind fun z3 => some (z3.1, (σ0.1, σ0.2.1, z3.2, σ0.2.2.2.1, σ0.2.2.2.2.1, σ0.2.2.2.2.2.1, σ0.2.2.2.2.2.2))
def s_X3_minimumWithout (σ0 : zC) (p0 : Int32) (p1 : Int32) : Option ((Sum String Int32) × zC) :=
  (s_X3_requireCell σ0 p0 p1).bind fun z1 => zsel z1 (fun E => some ((Sum.inl E), σ0)) (fun r1 => if σ0.1.1 = (1 : Int32) then (some ((Sum.inr (-1 : Int32)), σ0)) else ((s_X3_leastWithCost σ0 p0 p1 (100000 : Int32)).bind fun z3 => some ((Sum.inr z3.1), z3.2)))
def s_X3_minimumIfCost (σ0 : zC) (p0 : Int32) (p1 : Int32) (p2 : Int32) : Option ((Sum String Int32) × zC) :=
  (s_X3_requireRealCell σ0 p0 p1).bind fun z1 => zsel z1 (fun E => some ((Sum.inl E), σ0)) (fun r1 => if p2 < 0 then (if p2 = (1000 : Int32) then ((s_X3_leastWithCost σ0 p0 p1 p2).bind fun z4 => some ((Sum.inr z4.1), z4.2)) else (some ((Sum.inl "java/lang/IllegalArgumentException"), σ0))) else (if p2 ≤ (99 : Int32) then ((s_X3_leastWithCost σ0 p0 p1 p2).bind fun z6 => some ((Sum.inr z6.1), z6.2)) else (if p2 = (1000 : Int32) then ((s_X3_leastWithCost σ0 p0 p1 p2).bind fun z8 => some ((Sum.inr z8.1), z8.2)) else (some ((Sum.inl "java/lang/IllegalArgumentException"), σ0)))))
def s_X3_secondBest_22  : Nat → zC → Int32 → Int32 → Option (Int32 × zC)
  | 0, _, _, _ => none
  | n + 1, τ0, x1, x2 => if τ0.1.1 ≤ x2 then (some (x1, τ0)) else (if ib x2 7 = true then (s_X3_leastWithCost τ0 x2 (τ0.2.2.2.2.2.1 x2.toNatClampNeg) (100000 : Int32)).bind fun z3 => s_X3_secondBest_22 n z3.2 (if z3.1 < x1 then z3.1 else x1) (x2 + 1) else none)
def s_X3_secondBest (σ0 : zC)  : Option (Int32 × zC) :=
  if σ0.1.1 = (1 : Int32) then (some ((-1 : Int32), σ0)) else ((s_X3_findFirstOptimal σ0).bind fun z2 => s_X3_secondBest_22 FU z2 (100000 : Int32) (0 : Int32))
def s_X3_maximum_26 (k13 : (zC → Int32 → Option (Int32 × zC))) : Nat → zC → Int32 → Int32 → Option (Int32 × zC)
  | 0, _, _, _ => none
  | n + 1, τ0, x1, x2 => if τ0.1.2.1 ≤ x2 then (k13 τ0 (x1 + 1)) else ((s_X1_isForbidden τ0.1 x1 x2).bind fun z2 => if z2 = 0 then (s_X3_maximum_26 k13 n τ0 x1 (x2 + 1)) else ((s_X0_putCost τ0.2.2.1 x1 x2 (-100000 : Int32)).bind fun z4 => s_X3_maximum_26 k13 n (τ0.1, τ0.2.1, z4, τ0.2.2.2.1, τ0.2.2.2.2.1, τ0.2.2.2.2.2.1, τ0.2.2.2.2.2.2) x1 (x2 + 1)))
def s_X3_maximum_13  : Nat → zC → Int32 → Option (Int32 × zC)
  | 0, _, _ => none
  | n + 1, τ0, x1 => if τ0.1.1 ≤ x1 then ((s_X0_greatestSum τ0.2.2.1).bind fun z2 => if 0 ≤ z2.1 then (some (z2.1, (τ0.1, τ0.2.1, z2.2, τ0.2.2.2.1, τ0.2.2.2.2.1, τ0.2.2.2.2.2.1, τ0.2.2.2.2.2.2))) else (some ((-1 : Int32), (τ0.1, τ0.2.1, z2.2, τ0.2.2.2.1, τ0.2.2.2.2.1, τ0.2.2.2.2.2.1, τ0.2.2.2.2.2.2)))) else (s_X3_maximum_26 (fun v0 v1 => s_X3_maximum_13 n v0 v1) FU τ0 x1 (0 : Int32))
def s_X3_maximum (σ0 : zC)  : Option (Int32 × zC) :=
  (s_X0_load σ0.2.2.1 σ0.1).bind fun z1 => s_X3_maximum_13 FU (σ0.1, σ0.2.1, z1, σ0.2.2.2.1, σ0.2.2.2.2.1, σ0.2.2.2.2.2.1, σ0.2.2.2.2.2.2) (0 : Int32)
def s_X3_bottleneck (σ0 : zC)  : Option (Int32 × zC) :=
  (s_X0_load σ0.2.2.1 σ0.1).bind fun z1 => (s_X0_leastPeak z1).bind fun z2 => some (z2.1, (σ0.1, σ0.2.1, z2.2, σ0.2.2.2.1, σ0.2.2.2.2.1, σ0.2.2.2.2.2.1, σ0.2.2.2.2.2.2))
def s_X3_fits_45 (k32 : (zC → Int32 → Int32 → Option ((Sum String Int32) × zC))) : Nat → zC → Int32 → Int32 → Int32 → Option ((Sum String Int32) × zC)
  | 0, _, _, _, _ => none
  | n + 1, τ0, x1, x2, x3 => if τ0.1.1 ≤ x3 then (k32 τ0 x1 (x2 + 1)) else ((s_X1_costOf τ0.1 x2 x3).bind fun z2 => if z2 ≤ x1 then ((s_X0_putCost τ0.2.2.1 x2 x3 (0 : Int32)).bind fun z4 => s_X3_fits_45 k32 n (τ0.1, τ0.2.1, z4, τ0.2.2.2.1, τ0.2.2.2.2.1, τ0.2.2.2.2.2.1, τ0.2.2.2.2.2.2) x1 x2 (x3 + 1)) else ((s_X0_putCost τ0.2.2.1 x2 x3 (1 : Int32)).bind fun z5 => s_X3_fits_45 k32 n (τ0.1, τ0.2.1, z5, τ0.2.2.2.1, τ0.2.2.2.2.1, τ0.2.2.2.2.2.1, τ0.2.2.2.2.2.2) x1 x2 (x3 + 1)))
def s_X3_fits_32  : Nat → zC → Int32 → Int32 → Option ((Sum String Int32) × zC)
  | 0, _, _, _ => none
  | n + 1, τ0, x1, x2 => if τ0.1.1 ≤ x2 then ((s_X0_leastSum τ0.2.2.1).bind fun z2 => if z2.1 = 0 then (some ((Sum.inr (1 : Int32)), (τ0.1, τ0.2.1, z2.2, τ0.2.2.2.1, τ0.2.2.2.2.1, τ0.2.2.2.2.2.1, τ0.2.2.2.2.2.2))) else (some ((Sum.inr (0 : Int32)), (τ0.1, τ0.2.1, z2.2, τ0.2.2.2.1, τ0.2.2.2.2.1, τ0.2.2.2.2.2.1, τ0.2.2.2.2.2.2)))) else (s_X3_fits_45 (fun v0 v1 v2 => s_X3_fits_32 n v0 v1 v2) FU τ0 x1 x2 (0 : Int32))
def s_X3_fits (σ0 : zC) (p0 : Int32) : Option ((Sum String Int32) × zC) :=
  if p0 < 0 then (some ((Sum.inl "java/lang/IllegalArgumentException"), σ0)) else (if p0 ≤ (1000 : Int32) then ((s_X0_load σ0.2.2.1 σ0.1).bind fun z3 => s_X3_fits_32 FU (σ0.1, σ0.2.1, z3, σ0.2.2.2.1, σ0.2.2.2.2.1, σ0.2.2.2.2.2.1, σ0.2.2.2.2.2.2) p0 (0 : Int32)) else (some ((Sum.inl "java/lang/IllegalArgumentException"), σ0)))
def s_X3_countWithin (σ0 : zC) (p0 : Int32) : Option ((Sum String Int32) × zC) :=
  if p0 < 0 then (some ((Sum.inl "java/lang/IllegalArgumentException"), σ0)) else (if p0 ≤ (7000 : Int32) then ((s_X0_load σ0.2.2.1 σ0.1).bind fun z3 => (s_X0_leastSum z3).bind fun z4 => (s_X0_greatestSum z4.2).bind fun z5 => (s_X0_countFrom 12 z5.2 (0 : Int32) (0 : Int32) p0).bind fun z6 => some ((Sum.inr z6), (σ0.1, σ0.2.1, z5.2, σ0.2.2.2.1, σ0.2.2.2.2.1, σ0.2.2.2.2.2.1, σ0.2.2.2.2.2.2))) else (some ((Sum.inl "java/lang/IllegalArgumentException"), σ0)))
def s_X3_sumOf_18  : Nat → zC → Int32 → Int32 → Int32 → Int32 → Option ((Sum String Int32))
  | 0, _, _, _, _, _ => none
  | n + 1, σ0, x2, x3, x4, x5 => if x5 < 0 then (if x2 = 0 then (some (Sum.inr x4)) else (some (Sum.inl "java/lang/IllegalArgumentException"))) else ((s_X3_isColumn σ0 ((x2 - x2 / (10 : Int32) * (10 : Int32)) - (1 : Int32))).bind fun z3 => if z3 = 0 then (some (Sum.inl "java/lang/IllegalArgumentException")) else (if ((x3 >>> (((x2 - x2 / (10 : Int32) * (10 : Int32)) - (1 : Int32)) &&& 31)) &&& (1 : Int32)) = 0 then ((s_X1_costOf σ0.1 x5 ((x2 - x2 / (10 : Int32) * (10 : Int32)) - (1 : Int32))).bind fun z6 => s_X3_sumOf_18 n σ0 (x2 / (10 : Int32)) (x3 ||| ((1 : Int32) <<< (((x2 - x2 / (10 : Int32) * (10 : Int32)) - (1 : Int32)) &&& 31))) (x4 + z6) (x5 + (-1))) else (some (Sum.inl "java/lang/IllegalArgumentException"))))
def s_X3_sumOf (σ0 : zC) (p0 : Int32) : Option ((Sum String Int32)) :=
  s_X3_sumOf_18 FU σ0 p0 (0 : Int32) (0 : Int32) (σ0.1.1 - (1 : Int32))
def s_X3_startEnumeration (σ0 : zC)  : Option ((Sum String Int32) × zC) :=
  if σ0.1.1 ≤ (6 : Int32) then ((s_X2_begin σ0.2.2.2.2.2.2 σ0.1).bind fun z2 => some ((Sum.inr z2.2.2.2.1), (σ0.1, σ0.2.1, σ0.2.2.1, σ0.2.2.2.1, σ0.2.2.2.2.1, σ0.2.2.2.2.2.1, z2))) else (some ((Sum.inl "java/lang/IllegalStateException"), σ0))
def s_X3_nextSum (σ0 : zC)  : Option ((Sum String Int32) × zC) :=
  if σ0.2.2.2.2.2.2.1 = 0 then (some ((Sum.inl "java/lang/IllegalStateException"), σ0)) else (if σ0.2.2.2.2.2.2.2.1 < σ0.2.2.2.2.2.2.2.2.2.1 then ((s_X2_advance σ0.2.2.2.2.2.2).bind fun z3 => (s_X2_visitedSum z3).bind fun z4 => some ((Sum.inr z4), (σ0.1, σ0.2.1, σ0.2.2.1, σ0.2.2.2.1, σ0.2.2.2.2.1, σ0.2.2.2.2.2.1, z3))) else (some ((Sum.inl "java/util/NoSuchElementException"), σ0)))
def s_X3_currentColumn (σ0 : zC) (p0 : Int32) : Option ((Sum String Int32)) :=
  (s_X3_requireRow σ0 p0).bind fun z1 => zsel z1 (fun E => some (Sum.inl E)) (fun r1 => if σ0.2.2.2.2.2.2.1 = 0 then (some (Sum.inl "java/lang/IllegalStateException")) else (if σ0.2.2.2.2.2.2.2.1 = 0 then (some (Sum.inl "java/lang/IllegalStateException")) else ((s_X2_visitedColumn σ0.2.2.2.2.2.2 p0).bind fun z4 => some (Sum.inr z4))))
def s_X3_stepsMade (σ0 : zC)  : Option (Int32) :=
  if σ0.2.2.2.2.2.2.1 = 0 then (some (-1 : Int32)) else (some σ0.2.2.2.2.2.2.2.1)
def s_X3_mixed  (p0 : Int64) (p1 : Int32) : Option (Int64) :=
  some (((31 : Int64) * p0) + p1.toInt64)
def s_X3_mixedCosts_17 (k5 : (zT → Int64 → Int32 → Option (Int64))) : Nat → zT → Int64 → Int32 → Int32 → Option (Int64)
  | 0, _, _, _, _ => none
  | n + 1, σ0, x3, x5, x6 => if σ0.1 ≤ x6 then (k5 σ0 x3 (x5 + 1)) else ((s_X1_costOf σ0 x5 x6).bind fun z2 => (s_X3_mixed x3 z2).bind fun z3 => s_X3_mixedCosts_17 k5 n σ0 z3 x5 (x6 + 1))
def s_X3_mixedCosts_5  : Nat → zT → Int64 → Int32 → Option (Int64)
  | 0, _, _, _ => none
  | n + 1, σ0, x3, x5 => if σ0.1 ≤ x5 then (some x3) else (s_X3_mixedCosts_17 (fun v0 v1 v2 => s_X3_mixedCosts_5 n v0 v1 v2) FU σ0 x3 x5 (0 : Int32))
def s_X3_mixedCosts (σ0 : zT) (p0 : Int64) : Option (Int64) :=
  s_X3_mixedCosts_5 FU σ0 p0 (0 : Int32)
def s_X3_checksum_73  : Nat → zC → Int64 → Int32 → Option (Int64 × zC)
  | 0, _, _, _ => none
  | n + 1, τ0, x1, x3 => if τ0.1.1 ≤ x3 then ((s_X3_mixed x1 τ0.2.1.1).bind fun z2 => (s_X3_mixed z2 τ0.2.1.2.1).bind fun z3 => (s_X3_mixedCosts τ0.2.1 z3).bind fun z4 => some (z4, τ0)) else (if ib x3 7 = true then (s_X3_mixed x1 (τ0.2.2.2.2.2.1 x3.toNatClampNeg)).bind fun z6 => s_X3_checksum_73 n τ0 z6 (x3 + 1) else none)
def s_X3_checksum (σ0 : zC)  : Option (Int64 × zC) :=
  (s_X3_rows σ0).bind fun z1 => (s_X3_mixed (17 : Int64) z1).bind fun z2 => (s_X3_columns σ0).bind fun z3 => (s_X3_mixed z2 z3).bind fun z4 => (s_X3_forbiddenCount σ0).bind fun z5 => (s_X3_mixed z4 z5).bind fun z6 => (s_X3_totalCost σ0).bind fun z7 => (s_X3_mixed z6 z7).bind fun z8 => (s_X3_stepsMade σ0).bind fun z9 => (s_X3_mixed z8 z9).bind fun z10 => (s_X3_mixedCosts σ0.1 z10).bind fun z11 => (s_X3_minimum σ0).bind fun z12 => (s_X3_mixed z11 z12.1).bind fun z13 => (s_X3_findFirstOptimal z12.2).bind fun z14 => s_X3_checksum_73 FU z14 z13 (0 : Int32)
def s_X3_potentialsAddUp_4  : Nat → zC → Int32 → Int32 → Option (Int32 × zC)
  | 0, _, _, _ => none
  | n + 1, τ0, x1, x2 => if τ0.1.1 ≤ x2 then ((s_X3_minimum τ0).bind fun z2 => if x1 = z2.1 then (some ((1 : Int32), z2.2)) else (some ((0 : Int32), z2.2))) else (if ib x2 7 = true then if ib x2 7 = true then s_X3_potentialsAddUp_4 n τ0 (x1 + ((τ0.2.2.2.1 x2.toNatClampNeg) + (τ0.2.2.2.2.1 x2.toNatClampNeg))) (x2 + 1) else none else none)
def s_X3_potentialsAddUp (σ0 : zC)  : Option (Int32 × zC) :=
  s_X3_potentialsAddUp_4 FU σ0 (0 : Int32) (0 : Int32)
def s_X3_reducedCostsHold_15 (k2 : (zC → Int32 → Option (Int32))) : Nat → zC → Int32 → Int32 → Option (Int32)
  | 0, _, _, _ => none
  | n + 1, σ0, x1, x2 => if σ0.1.1 ≤ x2 then (k2 σ0 (x1 + 1)) else ((s_X3_reducedBy σ0 x1 x2).bind fun z2 => if z2 < 0 then (some (0 : Int32)) else (if z2 = 0 then (s_X3_reducedCostsHold_15 k2 n σ0 x1 (x2 + 1)) else (if ib x1 7 = true then if (σ0.2.2.2.2.2.1 x1.toNatClampNeg) = x2 then (some (0 : Int32)) else (s_X3_reducedCostsHold_15 k2 n σ0 x1 (x2 + 1)) else none)))
def s_X3_reducedCostsHold_2  : Nat → zC → Int32 → Option (Int32)
  | 0, _, _ => none
  | n + 1, σ0, x1 => if σ0.1.1 ≤ x1 then (some (1 : Int32)) else (s_X3_reducedCostsHold_15 (fun v0 v1 => s_X3_reducedCostsHold_2 n v0 v1) FU σ0 x1 (0 : Int32))
def s_X3_reducedCostsHold (σ0 : zC)  : Option (Int32) :=
  s_X3_reducedCostsHold_2 FU σ0 (0 : Int32)
def s_X3_cellSplitHolds (σ0 : zC)  : Option ((Sum String Int32) × zC) :=
  (s_X3_minimumWith σ0 (0 : Int32) (0 : Int32)).bind fun z1 => zsel z1.1 (fun E => some ((Sum.inl E), z1.2)) (fun r1 => if z1.2.1.1 ≤ (1 : Int32) then ((s_X3_minimum z1.2).bind fun z3 => if z3.1 = r1 then (some ((Sum.inr (1 : Int32)), z3.2)) else (some ((Sum.inr (0 : Int32)), z3.2))) else ((s_X3_minimumWithout z1.2 (0 : Int32) (0 : Int32)).bind fun z5 => zsel z5.1 (fun E => some ((Sum.inl E), z5.2)) (fun r5 => (s_X3_minimum z5.2).bind fun z6 => if z6.1 = (if r5 < r1 then r5 else r1) then (some ((Sum.inr (1 : Int32)), z6.2)) else (some ((Sum.inr (0 : Int32)), z6.2)))))
def s_X3_bottleneckHolds (σ0 : zC)  : Option ((Sum String Int32) × zC) :=
  (s_X3_bottleneck σ0).bind fun z1 => (s_X3_fits z1.2 z1.1).bind fun z2 => zsel z2.1 (fun E => some ((Sum.inl E), z2.2)) (fun r2 => if r2 = 0 then (some ((Sum.inr (0 : Int32)), z2.2)) else (if z1.1 = 0 then (some ((Sum.inr (1 : Int32)), z2.2)) else ((s_X3_fits z2.2 (z1.1 - (1 : Int32))).bind fun z5 => zsel z5.1 (fun E => some ((Sum.inl E), z5.2)) (fun r5 => if r5 = 0 then (some ((Sum.inr (1 : Int32)), z5.2)) else (some ((Sum.inr (0 : Int32)), z5.2))))))
def s_X3_isSound (σ0 : zC)  : Option ((Sum String Int32) × zC) :=
  (s_X3_findPotentials σ0).bind fun z1 => zsel z1.1 (fun E => some ((Sum.inl E), z1.2)) (fun r1 => (s_X3_findFirstOptimal z1.2).bind fun z2 => (s_X3_potentialsAddUp z2).bind fun z3 => if z3.1 = 0 then (some ((Sum.inr (0 : Int32)), z3.2)) else ((s_X3_reducedCostsHold z3.2).bind fun z5 => if z5 = 0 then (some ((Sum.inr (0 : Int32)), z3.2)) else ((s_X3_cellSplitHolds z3.2).bind fun z7 => zsel z7.1 (fun E => some ((Sum.inl E), z7.2)) (fun r7 => if r7 = 0 then (some ((Sum.inr (0 : Int32)), z7.2)) else ((s_X3_bottleneckHolds z7.2).bind fun z9 => zsel z9.1 (fun E => some ((Sum.inl E), z9.2)) (fun r9 => if r9 = 0 then (some ((Sum.inr (0 : Int32)), z9.2)) else (some ((Sum.inr (1 : Int32)), z9.2))))))))
