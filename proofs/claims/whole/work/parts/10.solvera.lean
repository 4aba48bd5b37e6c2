def s_X3_cellIndex  (p0 : Int32) (p1 : Int32) : Option (Int32) :=
  some ((p0 * (7 : Int32)) + p1)
def s_X1_isForbidden (σ0 : zT) (p0 : Int32) (p1 : Int32) : Option (Int32) :=
  (s_X3_cellIndex p0 p1).bind fun z1 => if ib z1 49 = true then if (σ0.2.2.2 z1.toNatClampNeg) &&& 1 = (σ0.2.2.2 z1.toNatClampNeg) then some (σ0.2.2.2 z1.toNatClampNeg) else none else none
def s_X1_numberAt (σ0 : zT) (p0 : Int32) (p1 : Int32) : Option (Int32) :=
  (s_X3_cellIndex p0 p1).bind fun z1 => if ib z1 49 = true then some (σ0.2.2.1 z1.toNatClampNeg) else none
def s_X1_costOf (σ0 : zT) (p0 : Int32) (p1 : Int32) : Option (Int32) :=
  if p1 < σ0.2.1 then ((s_X1_isForbidden σ0 p0 p1).bind fun z2 => if z2 = 0 then ((s_X1_numberAt σ0 p0 p1).bind fun z4 => some z4) else (some (1000 : Int32))) else (some (0 : Int32))
def s_X0_putCost (σ0 : zS) (p0 : Int32) (p1 : Int32) (p2 : Int32) : Option (zS) :=
  (s_X3_cellIndex p0 p1).bind fun z1 => if ib z1 49 = true then some (σ0.1, (upd σ0.2.1 z1.toNatClampNeg p2), σ0.2.2.1, σ0.2.2.2.1, σ0.2.2.2.2) else none
def s_X0_load_20 (k10 : (zS → zT → Int32 → Option (zS))) : Nat → zS → zT → Int32 → Int32 → Option (zS)
  | 0, _, _, _, _ => none
  | n + 1, τ0, σ1, x2, x3 => if τ0.1 ≤ x3 then (k10 τ0 σ1 (x2 + 1)) else ((s_X1_costOf σ1 x2 x3).bind fun z2 => (s_X0_putCost τ0 x2 x3 z2).bind fun z3 => s_X0_load_20 k10 n z3 σ1 x2 (x3 + 1))
def s_X0_load_10  : Nat → zS → zT → Int32 → Option (zS)
  | 0, _, _, _ => none
  | n + 1, τ0, σ1, x2 => if τ0.1 ≤ x2 then (some τ0) else (s_X0_load_20 (fun v0 v1 v2 => s_X0_load_10 n v0 v1 v2) FU τ0 σ1 x2 (0 : Int32))
def s_X0_load (σ0 : zS) (σ1 : zT)  : Option (zS) :=
  s_X0_load_10 FU (σ1.1, σ0.2.1, σ0.2.2.1, σ0.2.2.2.1, σ0.2.2.2.2) σ1 (0 : Int32)
def s_X0_allColumns (σ0 : zS)  : Option (Int32) :=
  some (((1 : Int32) <<< (σ0.1 &&& 31)) - (1 : Int32))
def s_X0_isFree  (p0 : Int32) (p1 : Int32) : Option (Int32) :=
  if ((p0 >>> (p1 &&& 31)) &&& (1 : Int32)) = 0 then (some (1 : Int32)) else (some (0 : Int32))
def s_J6_bitCount_0f7a4  (p0 : Int32) : Option (Int32) :=
  some ((((((((p0 - (((p0.toUInt32 >>> ((1 : Int32).toUInt32 &&& Int32.toUInt32 31)).toInt32) &&& (1431655765 : Int32))) &&& (858993459 : Int32)) + ((((p0 - (((p0.toUInt32 >>> ((1 : Int32).toUInt32 &&& Int32.toUInt32 31)).toInt32) &&& (1431655765 : Int32))).toUInt32 >>> ((2 : Int32).toUInt32 &&& Int32.toUInt32 31)).toInt32) &&& (858993459 : Int32))) + (((((p0 - (((p0.toUInt32 >>> ((1 : Int32).toUInt32 &&& Int32.toUInt32 31)).toInt32) &&& (1431655765 : Int32))) &&& (858993459 : Int32)) + ((((p0 - (((p0.toUInt32 >>> ((1 : Int32).toUInt32 &&& Int32.toUInt32 31)).toInt32) &&& (1431655765 : Int32))).toUInt32 >>> ((2 : Int32).toUInt32 &&& Int32.toUInt32 31)).toInt32) &&& (858993459 : Int32))).toUInt32 >>> ((4 : Int32).toUInt32 &&& Int32.toUInt32 31)).toInt32)) &&& (252645135 : Int32)) + (((((((p0 - (((p0.toUInt32 >>> ((1 : Int32).toUInt32 &&& Int32.toUInt32 31)).toInt32) &&& (1431655765 : Int32))) &&& (858993459 : Int32)) + ((((p0 - (((p0.toUInt32 >>> ((1 : Int32).toUInt32 &&& Int32.toUInt32 31)).toInt32) &&& (1431655765 : Int32))).toUInt32 >>> ((2 : Int32).toUInt32 &&& Int32.toUInt32 31)).toInt32) &&& (858993459 : Int32))) + (((((p0 - (((p0.toUInt32 >>> ((1 : Int32).toUInt32 &&& Int32.toUInt32 31)).toInt32) &&& (1431655765 : Int32))) &&& (858993459 : Int32)) + ((((p0 - (((p0.toUInt32 >>> ((1 : Int32).toUInt32 &&& Int32.toUInt32 31)).toInt32) &&& (1431655765 : Int32))).toUInt32 >>> ((2 : Int32).toUInt32 &&& Int32.toUInt32 31)).toInt32) &&& (858993459 : Int32))).toUInt32 >>> ((4 : Int32).toUInt32 &&& Int32.toUInt32 31)).toInt32)) &&& (252645135 : Int32)).toUInt32 >>> ((8 : Int32).toUInt32 &&& Int32.toUInt32 31)).toInt32)) + ((((((((p0 - (((p0.toUInt32 >>> ((1 : Int32).toUInt32 &&& Int32.toUInt32 31)).toInt32) &&& (1431655765 : Int32))) &&& (858993459 : Int32)) + ((((p0 - (((p0.toUInt32 >>> ((1 : Int32).toUInt32 &&& Int32.toUInt32 31)).toInt32) &&& (1431655765 : Int32))).toUInt32 >>> ((2 : Int32).toUInt32 &&& Int32.toUInt32 31)).toInt32) &&& (858993459 : Int32))) + (((((p0 - (((p0.toUInt32 >>> ((1 : Int32).toUInt32 &&& Int32.toUInt32 31)).toInt32) &&& (1431655765 : Int32))) &&& (858993459 : Int32)) + ((((p0 - (((p0.toUInt32 >>> ((1 : Int32).toUInt32 &&& Int32.toUInt32 31)).toInt32) &&& (1431655765 : Int32))).toUInt32 >>> ((2 : Int32).toUInt32 &&& Int32.toUInt32 31)).toInt32) &&& (858993459 : Int32))).toUInt32 >>> ((4 : Int32).toUInt32 &&& Int32.toUInt32 31)).toInt32)) &&& (252645135 : Int32)) + (((((((p0 - (((p0.toUInt32 >>> ((1 : Int32).toUInt32 &&& Int32.toUInt32 31)).toInt32) &&& (1431655765 : Int32))) &&& (858993459 : Int32)) + ((((p0 - (((p0.toUInt32 >>> ((1 : Int32).toUInt32 &&& Int32.toUInt32 31)).toInt32) &&& (1431655765 : Int32))).toUInt32 >>> ((2 : Int32).toUInt32 &&& Int32.toUInt32 31)).toInt32) &&& (858993459 : Int32))) + (((((p0 - (((p0.toUInt32 >>> ((1 : Int32).toUInt32 &&& Int32.toUInt32 31)).toInt32) &&& (1431655765 : Int32))) &&& (858993459 : Int32)) + ((((p0 - (((p0.toUInt32 >>> ((1 : Int32).toUInt32 &&& Int32.toUInt32 31)).toInt32) &&& (1431655765 : Int32))).toUInt32 >>> ((2 : Int32).toUInt32 &&& Int32.toUInt32 31)).toInt32) &&& (858993459 : Int32))).toUInt32 >>> ((4 : Int32).toUInt32 &&& Int32.toUInt32 31)).toInt32)) &&& (252645135 : Int32)).toUInt32 >>> ((8 : Int32).toUInt32 &&& Int32.toUInt32 31)).toInt32)).toUInt32 >>> ((16 : Int32).toUInt32 &&& Int32.toUInt32 31)).toInt32)) &&& (63 : Int32))
def s_X0_findLeast_73 (k14 : (zS → Int32 → Int32 → Int32 → Int32 → Int32 → Option (zS))) (τ0 : zS) (x1 : Int32) (x2 : Int32) (x3 : Int32) (x4 : Int32) (x5 : Int32) (x6 : Int32) (x7 : Int32) : Option (zS) :=
  if x7 = x3 then (if ib x6 128 = true then k14 τ0 x1 x2 x3 (x4 + (τ0.2.2.2.1 x6.toNatClampNeg)) (x5 + 1) else none) else (k14 τ0 x1 x2 x3 x4 (x5 + 1))
def s_X0_findLeast_14  : Nat → zS → Int32 → Int32 → Int32 → Int32 → Int32 → Option (zS)
  | 0, _, _, _, _, _, _ => none
  | n + 1, τ0, x1, x2, x3, x4, x5 => if τ0.1 ≤ x5 then (if ib x1 128 = true then if ib x1 128 = true then some (τ0.1, τ0.2.1, (upd τ0.2.2.1 x1.toNatClampNeg x3), (upd τ0.2.2.2.1 x1.toNatClampNeg x4), τ0.2.2.2.2) else none else none) else ((s_X0_isFree x1 x5).bind fun z4 => if z4 = 0 then (s_X0_findLeast_14 n τ0 x1 x2 x3 x4 (x5 + 1)) else ((s_X3_cellIndex x2 x5).bind fun z6 => if ib z6 49 = true then if ib (x1 ||| ((1 : Int32) <<< (x5 &&& 31))) 128 = true then if x3 ≤ ((τ0.2.1 z6.toNatClampNeg) + (τ0.2.2.1 (x1 ||| ((1 : Int32) <<< (x5 &&& 31))).toNatClampNeg)) then (s_X0_findLeast_73 (fun v0 v1 v2 v3 v4 v5 => s_X0_findLeast_14 n v0 v1 v2 v3 v4 v5) τ0 x1 x2 x3 x4 x5 (x1 ||| ((1 : Int32) <<< (x5 &&& 31))) ((τ0.2.1 z6.toNatClampNeg) + (τ0.2.2.1 (x1 ||| ((1 : Int32) <<< (x5 &&& 31))).toNatClampNeg))) else (s_X0_findLeast_73 (fun v0 v1 v2 v3 v4 v5 => s_X0_findLeast_14 n v0 v1 v2 v3 v4 v5) τ0 x1 x2 ((τ0.2.1 z6.toNatClampNeg) + (τ0.2.2.1 (x1 ||| ((1 : Int32) <<< (x5 &&& 31))).toNatClampNeg)) (0 : Int32) x5 (x1 ||| ((1 : Int32) <<< (x5 &&& 31))) ((τ0.2.1 z6.toNatClampNeg) + (τ0.2.2.1 (x1 ||| ((1 : Int32) <<< (x5 &&& 31))).toNatClampNeg))) else none else none))
def s_X0_findLeast (σ0 : zS) (p0 : Int32) : Option (zS) :=
  (s_J6_bitCount_0f7a4 p0).bind fun z1 => s_X0_findLeast_14 FU σ0 p0 z1 (2147483647 : Int32) (0 : Int32) (0 : Int32)
def s_X0_leastSum_23  : Nat → zS → Int32 → Option (Int32 × zS)
  | 0, _, _ => none
  | n + 1, τ0, x2 => if x2 < 0 then (if ib (0 : Int32) 128 = true then some ((τ0.2.2.1 (0 : Int32).toNatClampNeg), τ0) else none) else ((s_X0_findLeast τ0 x2).bind fun z3 => s_X0_leastSum_23 n z3 (x2 + (-1)))
def s_X0_leastSum (σ0 : zS)  : Option (Int32 × zS) :=
  (s_X0_allColumns σ0).bind fun z1 => if ib z1 128 = true then if ib z1 128 = true then s_X0_leastSum_23 FU (σ0.1, σ0.2.1, (upd σ0.2.2.1 z1.toNatClampNeg (0 : Int32)), (upd σ0.2.2.2.1 z1.toNatClampNeg (1 : Int32)), σ0.2.2.2.2) (z1 - (1 : Int32)) else none else none
def s_X0_leastWays (σ0 : zS)  : Option (Int32) :=
  if ib (0 : Int32) 128 = true then some (σ0.2.2.2.1 (0 : Int32).toNatClampNeg) else none
def s_X0_isOnLeast (σ0 : zS) (p0 : Int32) (p1 : Int32) (p2 : Int32) : Option (Int32) :=
  (s_X3_cellIndex p0 p1).bind fun z1 => if ib z1 49 = true then if ib (p2 ||| ((1 : Int32) <<< (p1 &&& 31))) 128 = true then if ib p2 128 = true then if ((σ0.2.1 z1.toNatClampNeg) + (σ0.2.2.1 (p2 ||| ((1 : Int32) <<< (p1 &&& 31))).toNatClampNeg)) = (σ0.2.2.1 p2.toNatClampNeg) then (some (1 : Int32)) else (some (0 : Int32)) else none else none else none
def s_X0_traceLeast_15 (k4 : (zS → zF → Int32 → Int32 → Option (zF))) : Nat → zS → zF → Int32 → Int32 → Int32 → Option (zF)
  | 0, _, _, _, _, _ => none
  | n + 1, σ0, τ1, x2, x3, x4 => if σ0.1 ≤ x4 then (k4 σ0 τ1 x2 (x3 + 1)) else ((s_X0_isFree x2 x4).bind fun z2 => if z2 = 0 then (s_X0_traceLeast_15 k4 n σ0 τ1 x2 x3 (x4 + 1)) else ((s_X0_isOnLeast σ0 x3 x4 x2).bind fun z4 => if z4 = 0 then (s_X0_traceLeast_15 k4 n σ0 τ1 x2 x3 (x4 + 1)) else (if ib x3 7 = true then k4 σ0 (upd τ1 x3.toNatClampNeg x4) (x2 ||| ((1 : Int32) <<< (x4 &&& 31))) (x3 + 1) else none)))
def s_X0_traceLeast_4  : Nat → zS → zF → Int32 → Int32 → Option (zF)
  | 0, _, _, _, _ => none
  | n + 1, σ0, τ1, x2, x3 => if σ0.1 ≤ x3 then (some τ1) else (s_X0_traceLeast_15 (fun v0 v1 v2 v3 => s_X0_traceLeast_4 n v0 v1 v2 v3) FU σ0 τ1 x2 x3 (0 : Int32))
def s_X0_traceLeast (σ0 : zS) (σ1 : zF)  : Option (zF) :=
  s_X0_traceLeast_4 FU σ0 σ1 (0 : Int32) (0 : Int32)
def s_X0_greatestSum_32 (k16 : (zS → Int32 → Option (Int32 × zS))) : Nat → zS → Int32 → Int32 → Int32 → Int32 → Option (Int32 × zS)
  | 0, _, _, _, _, _ => none
  | n + 1, τ0, x2, x3, x4, x5 => if τ0.1 ≤ x5 then (if ib x2 128 = true then k16 (τ0.1, τ0.2.1, τ0.2.2.1, τ0.2.2.2.1, (upd τ0.2.2.2.2 x2.toNatClampNeg x4)) (x2 + (-1)) else none) else ((s_X0_isFree x2 x5).bind fun z3 => if z3 = 0 then (s_X0_greatestSum_32 k16 n τ0 x2 x3 x4 (x5 + 1)) else ((s_X3_cellIndex x3 x5).bind fun z5 => if ib z5 49 = true then if ib (x2 ||| ((1 : Int32) <<< (x5 &&& 31))) 128 = true then s_X0_greatestSum_32 k16 n τ0 x2 x3 (if x4 < ((τ0.2.1 z5.toNatClampNeg) + (τ0.2.2.2.2 (x2 ||| ((1 : Int32) <<< (x5 &&& 31))).toNatClampNeg)) then ((τ0.2.1 z5.toNatClampNeg) + (τ0.2.2.2.2 (x2 ||| ((1 : Int32) <<< (x5 &&& 31))).toNatClampNeg)) else x4) (x5 + 1) else none else none))
def s_X0_greatestSum_16  : Nat → zS → Int32 → Option (Int32 × zS)
  | 0, _, _ => none
  | n + 1, τ0, x2 => if x2 < 0 then (if ib (0 : Int32) 128 = true then some ((τ0.2.2.2.2 (0 : Int32).toNatClampNeg), τ0) else none) else ((s_J6_bitCount_0f7a4 x2).bind fun z3 => s_X0_greatestSum_32 (fun v0 v1 => s_X0_greatestSum_16 n v0 v1) FU τ0 x2 z3 (-2147483648 : Int32) (0 : Int32))
def s_X0_greatestSum (σ0 : zS)  : Option (Int32 × zS) :=
  (s_X0_allColumns σ0).bind fun z1 => if ib z1 128 = true then s_X0_greatestSum_16 FU (σ0.1, σ0.2.1, σ0.2.2.1, σ0.2.2.2.1, (upd σ0.2.2.2.2 z1.toNatClampNeg (0 : Int32))) (z1 - (1 : Int32)) else none
def s_X0_leastPeak_32 (k16 : (zS → Int32 → Option (Int32 × zS))) : Nat → zS → Int32 → Int32 → Int32 → Int32 → Option (Int32 × zS)
  | 0, _, _, _, _, _ => none
  | n + 1, τ0, x2, x3, x4, x5 => if τ0.1 ≤ x5 then (if ib x2 128 = true then k16 (τ0.1, τ0.2.1, (upd τ0.2.2.1 x2.toNatClampNeg x4), τ0.2.2.2.1, τ0.2.2.2.2) (x2 + (-1)) else none) else ((s_X0_isFree x2 x5).bind fun z3 => if z3 = 0 then (s_X0_leastPeak_32 k16 n τ0 x2 x3 x4 (x5 + 1)) else ((s_X3_cellIndex x3 x5).bind fun z5 => if ib z5 49 = true then if ib (x2 ||| ((1 : Int32) <<< (x5 &&& 31))) 128 = true then s_X0_leastPeak_32 k16 n τ0 x2 x3 (if (if (τ0.2.1 z5.toNatClampNeg) < (τ0.2.2.1 (x2 ||| ((1 : Int32) <<< (x5 &&& 31))).toNatClampNeg) then (τ0.2.2.1 (x2 ||| ((1 : Int32) <<< (x5 &&& 31))).toNatClampNeg) else (τ0.2.1 z5.toNatClampNeg)) < x4 then (if (τ0.2.1 z5.toNatClampNeg) < (τ0.2.2.1 (x2 ||| ((1 : Int32) <<< (x5 &&& 31))).toNatClampNeg) then (τ0.2.2.1 (x2 ||| ((1 : Int32) <<< (x5 &&& 31))).toNatClampNeg) else (τ0.2.1 z5.toNatClampNeg)) else x4) (x5 + 1) else none else none))
def s_X0_leastPeak_16  : Nat → zS → Int32 → Option (Int32 × zS)
  | 0, _, _ => none
  | n + 1, τ0, x2 => if x2 < 0 then (if ib (0 : Int32) 128 = true then some ((τ0.2.2.1 (0 : Int32).toNatClampNeg), τ0) else none) else ((s_J6_bitCount_0f7a4 x2).bind fun z3 => s_X0_leastPeak_32 (fun v0 v1 => s_X0_leastPeak_16 n v0 v1) FU τ0 x2 z3 (2147483647 : Int32) (0 : Int32))
def s_X0_leastPeak (σ0 : zS)  : Option (Int32 × zS) :=
  (s_X0_allColumns σ0).bind fun z1 => if ib z1 128 = true then s_X0_leastPeak_16 FU (σ0.1, σ0.2.1, (upd σ0.2.2.1 z1.toNatClampNeg (0 : Int32)), σ0.2.2.2.1, σ0.2.2.2.2) (z1 - (1 : Int32)) else none
def s_X3_factorial_4  : Nat → Int32 → Int32 → Int32 → Option (Int32)
  | 0, _, _, _ => none
  | n + 1, x0, x1, x2 => if x0 < x2 then (some x1) else (s_X3_factorial_4 n x0 (x1 * x2) (x2 + 1))
def s_X3_factorial  (p0 : Int32) : Option (Int32) :=
  s_X3_factorial_4 FU p0 (1 : Int32) (2 : Int32)
def s_X0_countFrom_46 (rec : (zS → Int32 → Int32 → Int32 → Option (Int32)))  : Nat → zS → Int32 → Int32 → Int32 → Int32 → Int32 → Option (Int32)
  | 0, _, _, _, _, _, _ => none
  | n + 1, σ0, x1, x2, x3, x4, x5 => if σ0.1 ≤ x5 then (some x4) else ((s_X0_isFree x2 x5).bind fun z2 => if z2 = 0 then (s_X0_countFrom_46 rec n σ0 x1 x2 x3 x4 (x5 + 1)) else ((s_X3_cellIndex x1 x5).bind fun z4 => if ib z4 49 = true then (rec σ0 (x1 + (1 : Int32)) (x2 ||| ((1 : Int32) <<< (x5 &&& 31))) (x3 - (σ0.2.1 z4.toNatClampNeg))).bind fun z6 => s_X0_countFrom_46 rec n σ0 x1 x2 x3 (x4 + z6) (x5 + 1) else none))
def s_X0_countFrom_step (rec : (zS → Int32 → Int32 → Int32 → Option (Int32))) (σ0 : zS) (p1 : Int32) (p2 : Int32) (p3 : Int32) : Option (Int32) :=
  if ib p2 128 = true then if (σ0.2.2.1 p2.toNatClampNeg) ≤ p3 then (if σ0.1 ≤ p1 then ((s_X3_factorial (σ0.1 - p1)).bind fun z4 => some z4) else (if ib p2 128 = true then if p3 < (σ0.2.2.2.2 p2.toNatClampNeg) then (s_X0_countFrom_46 rec FU σ0 p1 p2 p3 (0 : Int32) (0 : Int32)) else ((s_X3_factorial (σ0.1 - p1)).bind fun z7 => some z7) else none)) else (some (0 : Int32)) else none
def s_X0_countFrom : Nat → zS → Int32 → Int32 → Int32 → Option (Int32)
  | 0, _, _, _, _ => none
  | d + 1, σ0, p1, p2, p3 => s_X0_countFrom_step (s_X0_countFrom d) σ0 p1 p2 p3
def s_X1_clearTo_12  : Nat → zT → Int32 → Option (zT)
  | 0, _, _ => none
  | n + 1, τ0, x3 => if (49 : Int32) ≤ x3 then (some τ0) else (if ib x3 49 = true then if ib x3 49 = true then s_X1_clearTo_12 n (τ0.1, τ0.2.1, (upd τ0.2.2.1 x3.toNatClampNeg (0 : Int32)), (upd τ0.2.2.2 x3.toNatClampNeg ((0 : Int32) &&& 1))) (x3 + 1) else none else none)
def s_X1_clearTo (σ0 : zT) (p0 : Int32) (p1 : Int32) : Option (zT) :=
  s_X1_clearTo_12 FU (p0, p1, σ0.2.2.1, σ0.2.2.2) (0 : Int32)
def s_X1_copyFrom_18  : Nat → zT → zT → Int32 → Option (zT)
  | 0, _, _, _ => none
  | n + 1, τ0, σ1, x2 => if (49 : Int32) ≤ x2 then (some τ0) else (if ib x2 49 = true then if ib x2 49 = true then if ib x2 49 = true then if ib x2 49 = true then s_X1_copyFrom_18 n (τ0.1, τ0.2.1, (upd τ0.2.2.1 x2.toNatClampNeg (σ1.2.2.1 x2.toNatClampNeg)), (upd τ0.2.2.2 x2.toNatClampNeg ((σ1.2.2.2 x2.toNatClampNeg) &&& 1))) σ1 (x2 + 1) else none else none else none else none)
def s_X1_copyFrom (σ0 : zT) (σ1 : zT)  : Option (zT) :=
  s_X1_copyFrom_18 FU (σ1.1, σ1.2.1, σ0.2.2.1, σ0.2.2.2) σ1 (0 : Int32)
def s_X1_putNumber (σ0 : zT) (p0 : Int32) (p1 : Int32) (p2 : Int32) : Option (zT) :=
  (s_X3_cellIndex p0 p1).bind fun z1 => if ib z1 49 = true then some (σ0.1, σ0.2.1, (upd σ0.2.2.1 z1.toNatClampNeg p2), σ0.2.2.2) else none
def s_X1_putForbidden (σ0 : zT) (p0 : Int32) (p1 : Int32) (p2 : Int32) : Option (zT) :=
  (s_X3_cellIndex p0 p1).bind fun z1 => if ib z1 49 = true then some (σ0.1, σ0.2.1, σ0.2.2.1, (upd σ0.2.2.2 z1.toNatClampNeg (p2 &&& 1))) else none
def s_X1_sumOfRow_4  : Nat → zT → Int32 → Int32 → Int32 → Option (Int32)
  | 0, _, _, _, _ => none
  | n + 1, σ0, x1, x2, x3 => if σ0.2.1 ≤ x3 then (some x2) else ((s_X1_costOf σ0 x1 x3).bind fun z2 => s_X1_sumOfRow_4 n σ0 x1 (x2 + z2) (x3 + 1))
def s_X1_sumOfRow (σ0 : zT) (p0 : Int32) : Option (Int32) :=
  s_X1_sumOfRow_4 FU σ0 p0 (0 : Int32) (0 : Int32)
def s_X1_sumOfColumn_4  : Nat → zT → Int32 → Int32 → Int32 → Option (Int32)
  | 0, _, _, _, _ => none
  | n + 1, σ0, x1, x2, x3 => if σ0.1 ≤ x3 then (some x2) else ((s_X1_costOf σ0 x3 x1).bind fun z2 => s_X1_sumOfColumn_4 n σ0 x1 (x2 + z2) (x3 + 1))
def s_X1_sumOfColumn (σ0 : zT) (p0 : Int32) : Option (Int32) :=
  s_X1_sumOfColumn_4 FU σ0 p0 (0 : Int32) (0 : Int32)
def s_X1_swapCells (σ0 : zT) (p0 : Int32) (p1 : Int32) (p2 : Int32) (p3 : Int32) : Option (zT) :=
  (s_X1_numberAt σ0 p0 p1).bind fun z1 => (s_X1_isForbidden σ0 p0 p1).bind fun z2 => (s_X1_numberAt σ0 p2 p3).bind fun z3 => (s_X1_putNumber σ0 p0 p1 z3).bind fun z4 => (s_X1_isForbidden z4 p2 p3).bind fun z5 => (s_X1_putForbidden z4 p0 p1 z5).bind fun z6 => (s_X1_putNumber z6 p2 p3 z1).bind fun z7 => (s_X1_putForbidden z7 p2 p3 z2).bind fun z8 => some z8
def s_X2_cancel (σ0 : zK)  : Option (zK) :=
  some ((0 : Int32), σ0.2.1, σ0.2.2.1, σ0.2.2.2.1, σ0.2.2.2.2)
def s_X2_shiftOf  (p0 : Int32) : Option (Int32) :=
  some ((3 : Int32) * ((5 : Int32) - p0))
def s_X2_addKeys_43 (rec : (zK → zT → Int32 → Int32 → Int32 → Option (zK)))  : Nat → zK → zT → Int32 → Int32 → Int32 → Int32 → Option (zK)
  | 0, _, _, _, _, _, _ => none
  | n + 1, τ0, σ1, x2, x3, x4, x5 => if σ1.1 ≤ x5 then (some τ0) else (if ((x3 >>> (x5 &&& 31)) &&& (1 : Int32)) = 0 then ((s_X1_costOf σ1 x2 x5).bind fun z3 => (s_X2_shiftOf x2).bind fun z4 => (rec τ0 σ1 (x2 + (1 : Int32)) (x3 ||| ((1 : Int32) <<< (x5 &&& 31))) (x4 + ((z3 <<< ((18 : Int32) &&& 31)) + (x5 <<< (z4 &&& 31))))).bind fun z5 => s_X2_addKeys_43 rec n z5 σ1 x2 x3 x4 (x5 + 1)) else (s_X2_addKeys_43 rec n τ0 σ1 x2 x3 x4 (x5 + 1)))
def s_X2_addKeys_step (rec : (zK → zT → Int32 → Int32 → Int32 → Option (zK))) (σ0 : zK) (σ1 : zT) (p2 : Int32) (p3 : Int32) (p4 : Int32) : Option (zK) :=
  if p2 < σ1.1 then (s_X2_addKeys_43 rec FU σ0 σ1 p2 p3 p4 (0 : Int32)) else (if (720 : Int32) ≤ σ0.2.2.2.1 then (some σ0) else (if ib σ0.2.2.2.1 720 = true then some (σ0.1, σ0.2.1, σ0.2.2.1, (σ0.2.2.2.1 + (1 : Int32)), (upd σ0.2.2.2.2 σ0.2.2.2.1.toNatClampNeg p4)) else none))
def s_X2_addKeys : Nat → zK → zT → Int32 → Int32 → Int32 → Option (zK)
  | 0, _, _, _, _, _ => none
  | d + 1, σ0, σ1, p2, p3, p4 => s_X2_addKeys_step (s_X2_addKeys d) σ0 σ1 p2 p3 p4
def s_X2_begin (σ0 : zK) (σ1 : zT)  : Option (zK) :=
  (s_X2_addKeys 12 ((1 : Int32), (0 : Int32), (-1 : Int32), (0 : Int32), σ0.2.2.2.2) σ1 (0 : Int32) (0 : Int32) (0 : Int32)).bind fun z1 => some z1
def s_X2_advance_5  : Nat → zK → Int32 → Int32 → Option (zK)
  | 0, _, _, _ => none
  | n + 1, τ0, x1, x2 => if τ0.2.2.2.1 ≤ x2 then (some (τ0.1, (τ0.2.1 + (1 : Int32)), x1, τ0.2.2.2.1, τ0.2.2.2.2)) else (if ib x2 720 = true then if (τ0.2.2.2.2 x2.toNatClampNeg) ≤ τ0.2.2.1 then (s_X2_advance_5 n τ0 x1 (x2 + 1)) else (if x1 ≤ (τ0.2.2.2.2 x2.toNatClampNeg) then (s_X2_advance_5 n τ0 x1 (x2 + 1)) else (s_X2_advance_5 n τ0 (τ0.2.2.2.2 x2.toNatClampNeg) (x2 + 1))) else none)
def s_X2_advance (σ0 : zK)  : Option (zK) :=
  s_X2_advance_5 FU σ0 (2147483647 : Int32) (0 : Int32)
def s_X2_visitedSum (σ0 : zK)  : Option (Int32) :=
  some (σ0.2.2.1 >>> ((18 : Int32) &&& 31))
def s_X2_visitedColumn (σ0 : zK) (p0 : Int32) : Option (Int32) :=
  (s_X2_shiftOf p0).bind fun z1 => some ((σ0.2.2.1 >>> (z1 &&& 31)) &&& (7 : Int32))
