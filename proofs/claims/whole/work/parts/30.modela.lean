def s_X4_thrown (σ0 : zM)  : Option (Int32) :=
  some σ0.2.2.2.2
def s_X4_isWrong (σ0 : zM) (p0 : Int32) : Option (Int32 × zM) :=
  if p0 = 0 then (some ((0 : Int32), (σ0.1, σ0.2.1, σ0.2.2.1, σ0.2.2.2.1, p0))) else (some ((1 : Int32), (σ0.1, σ0.2.1, σ0.2.2.1, σ0.2.2.2.1, p0)))
def s_X4_isIn  (p0 : Int64) (p1 : Int64) (p2 : Int64) : Option (Int32) :=
  if (lg_cmp p0 p1) < 0 then (some (0 : Int32)) else (if 0 < (lg_cmp p0 p2) then (some (0 : Int32)) else (some (1 : Int32)))
def s_X4_isRow (σ0 : zM) (p0 : Int32) : Option (Int32) :=
  (s_X4_isIn p0.toInt64 (0 : Int64) ((σ0.1.1 - (1 : Int32)).toInt64)).bind fun z1 => if z1 &&& 1 = z1 then some z1 else none
def s_X4_isReal (σ0 : zM) (p0 : Int32) : Option (Int32) :=
  (s_X4_isIn p0.toInt64 (0 : Int64) ((σ0.1.2.1 - (1 : Int32)).toInt64)).bind fun z1 => if z1 &&& 1 = z1 then some z1 else none
def s_X4_cost (σ0 : zM) (p0 : Int32) (p1 : Int32) : Option (Int32) :=
  if p1 < σ0.1.2.1 then (if ib (((7 : Int32) * p0) + p1) 49 = true then if (σ0.1.2.2.2 (((7 : Int32) * p0) + p1).toNatClampNeg) = 0 then (if ib (((7 : Int32) * p0) + p1) 49 = true then some (σ0.1.2.2.1 (((7 : Int32) * p0) + p1).toNatClampNeg) else none) else (some (1000 : Int32)) else none) else (some (0 : Int32))
def s_X4_savedCost (σ0 : zM) (p0 : Int32) (p1 : Int32) : Option (Int32) :=
  if p1 < σ0.2.1.2.1 then (if ib (((7 : Int32) * p0) + p1) 49 = true then if (σ0.2.1.2.2.2 (((7 : Int32) * p0) + p1).toNatClampNeg) = 0 then (if ib (((7 : Int32) * p0) + p1) 49 = true then some (σ0.2.1.2.2.1 (((7 : Int32) * p0) + p1).toNatClampNeg) else none) else (some (1000 : Int32)) else none) else (some (0 : Int32))
def s_X4_factorial_step (rec : (Int32 → Option (Int32)))  (p0 : Int32) : Option (Int32) :=
  if (2 : Int32) ≤ p0 then ((rec (p0 - (1 : Int32))).bind fun z2 => some (p0 * z2)) else (some (1 : Int32))
def s_X4_factorial : Nat → Int32 → Option (Int32)
  | 0, _ => none
  | d + 1, p0 => s_X4_factorial_step (s_X4_factorial d) p0
def s_X4_begin_2  : Nat → zM → Int32 → Option (zM)
  | 0, _, _ => none
  | n + 1, τ0, x1 => if (7 : Int32) ≤ x1 then (some τ0) else (if ib x1 7 = true then s_X4_begin_2 n (τ0.1, τ0.2.1, (τ0.2.2.1.1, τ0.2.2.1.2.1, (upd τ0.2.2.1.2.2.1 x1.toNatClampNeg x1), τ0.2.2.1.2.2.2.1, τ0.2.2.1.2.2.2.2.1, τ0.2.2.1.2.2.2.2.2.1, τ0.2.2.1.2.2.2.2.2.2.1, τ0.2.2.1.2.2.2.2.2.2.2.1, τ0.2.2.1.2.2.2.2.2.2.2.2.1, τ0.2.2.1.2.2.2.2.2.2.2.2.2.1, τ0.2.2.1.2.2.2.2.2.2.2.2.2.2), τ0.2.2.2.1, τ0.2.2.2.2) (x1 + 1) else none)
def s_X4_begin (σ0 : zM)  : Option (zM) :=
  s_X4_begin_2 FU σ0 (0 : Int32)
def s_X4_exchange (σ0 : zM) (p0 : Int32) (p1 : Int32) : Option (zM) :=
  if ib p0 7 = true then if ib p1 7 = true then if ib p0 7 = true then if ib p1 7 = true then some (σ0.1, σ0.2.1, (σ0.2.2.1.1, σ0.2.2.1.2.1, (upd (upd σ0.2.2.1.2.2.1 p0.toNatClampNeg (σ0.2.2.1.2.2.1 p1.toNatClampNeg)) p1.toNatClampNeg (σ0.2.2.1.2.2.1 p0.toNatClampNeg)), σ0.2.2.1.2.2.2.1, σ0.2.2.1.2.2.2.2.1, σ0.2.2.1.2.2.2.2.2.1, σ0.2.2.1.2.2.2.2.2.2.1, σ0.2.2.1.2.2.2.2.2.2.2.1, σ0.2.2.1.2.2.2.2.2.2.2.2.1, σ0.2.2.1.2.2.2.2.2.2.2.2.2.1, σ0.2.2.1.2.2.2.2.2.2.2.2.2.2), σ0.2.2.2.1, σ0.2.2.2.2) else none else none else none else none
def s_X4_goOn_77  : Nat → zM → Int32 → Int32 → Option (zM)
  | 0, _, _, _ => none
  | n + 1, τ0, x4, x5 => if x5 ≤ x4 then (some τ0) else ((s_X4_exchange τ0 x4 x5).bind fun z2 => s_X4_goOn_77 n z2 (x4 + 1) (x5 + (-1)))
def s_X4_goOn_40  : Nat → zM → Int32 → Int32 → Int32 → Option (zM)
  | 0, _, _, _, _ => none
  | n + 1, τ0, x1, x2, x3 => if ib x3 7 = true then if ib x2 7 = true then if (τ0.2.2.1.2.2.1 x2.toNatClampNeg) ≤ (τ0.2.2.1.2.2.1 x3.toNatClampNeg) then ((s_X4_exchange τ0 x2 x3).bind fun z4 => s_X4_goOn_77 FU z4 (x2 + (1 : Int32)) (x1 - (1 : Int32))) else (s_X4_goOn_40 n τ0 x1 x2 (x3 + (-1))) else none else none
def s_X4_goOn_4  : Nat → zM → Int32 → Int32 → Option (zM)
  | 0, _, _, _ => none
  | n + 1, τ0, x1, x2 => if x2 < 0 then (if 0 ≤ x2 then (s_X4_goOn_40 FU τ0 x1 x2 (x1 - (1 : Int32))) else (some τ0)) else (if ib x2 7 = true then if ib (x2 + (1 : Int32)) 7 = true then if (τ0.2.2.1.2.2.1 x2.toNatClampNeg) ≤ (τ0.2.2.1.2.2.1 (x2 + (1 : Int32)).toNatClampNeg) then (if 0 ≤ x2 then (s_X4_goOn_40 FU τ0 x1 x2 (x1 - (1 : Int32))) else (some τ0)) else (s_X4_goOn_4 n τ0 x1 (x2 + (-1))) else none else none)
def s_X4_goOn (σ0 : zM) (p0 : Int32) : Option (zM) :=
  s_X4_goOn_4 FU σ0 p0 (p0 - (2 : Int32))
def s_X4_sum_4  : Nat → zM → Int32 → Int32 → Int32 → Option (Int32)
  | 0, _, _, _, _ => none
  | n + 1, σ0, x1, x2, x3 => if x1 ≤ x3 then (some x2) else (if ib x3 7 = true then if ib (((7 : Int32) * x3) + (σ0.2.2.1.2.2.1 x3.toNatClampNeg)) 49 = true then s_X4_sum_4 n σ0 x1 (x2 + (σ0.2.2.1.1 (((7 : Int32) * x3) + (σ0.2.2.1.2.2.1 x3.toNatClampNeg)).toNatClampNeg)) (x3 + 1) else none else none)
def s_X4_sum (σ0 : zM) (p0 : Int32) : Option (Int32) :=
  s_X4_sum_4 FU σ0 p0 (0 : Int32) (0 : Int32)
def s_X4_take_12 (k2 : (zM → Int32 → Option (zM))) : Nat → zM → Int32 → Int32 → Option (zM)
  | 0, _, _, _ => none
  | n + 1, τ0, x1, x2 => if τ0.1.1 ≤ x2 then (k2 τ0 (x1 + 1)) else ((s_X4_cost τ0 x1 x2).bind fun z2 => if ib (((7 : Int32) * x1) + x2) 49 = true then s_X4_take_12 k2 n (τ0.1, τ0.2.1, ((upd τ0.2.2.1.1 (((7 : Int32) * x1) + x2).toNatClampNeg z2), τ0.2.2.1.2.1, τ0.2.2.1.2.2.1, τ0.2.2.1.2.2.2.1, τ0.2.2.1.2.2.2.2.1, τ0.2.2.1.2.2.2.2.2.1, τ0.2.2.1.2.2.2.2.2.2.1, τ0.2.2.1.2.2.2.2.2.2.2.1, τ0.2.2.1.2.2.2.2.2.2.2.2.1, τ0.2.2.1.2.2.2.2.2.2.2.2.2.1, τ0.2.2.1.2.2.2.2.2.2.2.2.2.2), τ0.2.2.2.1, τ0.2.2.2.2) x1 (x2 + 1) else none)
def s_X4_take_2  : Nat → zM → Int32 → Option (zM)
  | 0, _, _ => none
  | n + 1, τ0, x1 => if τ0.1.1 ≤ x1 then (some τ0) else (s_X4_take_12 (fun v0 v1 => s_X4_take_2 n v0 v1) FU τ0 x1 (0 : Int32))
def s_X4_take (σ0 : zM)  : Option (zM) :=
  s_X4_take_2 FU σ0 (0 : Int32)
def s_X4_see_206  (τ0 : zM) (x2 : Int32) (y0 : Int32) : Option (zM) :=
  if x2 = τ0.2.2.1.2.2.2.2.1 then (some (τ0.1, τ0.2.1, (τ0.2.2.1.1, τ0.2.2.1.2.1, τ0.2.2.1.2.2.1, τ0.2.2.1.2.2.2.1, τ0.2.2.1.2.2.2.2.1, (τ0.2.2.1.2.2.2.2.2.1 + (1 : Int32)), y0, τ0.2.2.1.2.2.2.2.2.2.2.1, τ0.2.2.1.2.2.2.2.2.2.2.2.1, τ0.2.2.1.2.2.2.2.2.2.2.2.2.1, τ0.2.2.1.2.2.2.2.2.2.2.2.2.2), τ0.2.2.2.1, τ0.2.2.2.2)) else (some (τ0.1, τ0.2.1, (τ0.2.2.1.1, τ0.2.2.1.2.1, τ0.2.2.1.2.2.1, τ0.2.2.1.2.2.2.1, τ0.2.2.1.2.2.2.2.1, (τ0.2.2.1.2.2.2.2.2.1 + (0 : Int32)), y0, τ0.2.2.1.2.2.2.2.2.2.2.1, τ0.2.2.1.2.2.2.2.2.2.2.2.1, τ0.2.2.1.2.2.2.2.2.2.2.2.2.1, τ0.2.2.1.2.2.2.2.2.2.2.2.2.2), τ0.2.2.2.1, τ0.2.2.2.2))
def s_X4_see_160  : Nat → zM → Int32 → Int32 → Option (zM)
  | 0, _, _, _ => none
  | n + 1, τ0, x1, x4 => if x1 ≤ x4 then (some τ0) else (if ib x4 7 = true then if ib x4 7 = true then s_X4_see_160 n (τ0.1, τ0.2.1, (τ0.2.2.1.1, τ0.2.2.1.2.1, τ0.2.2.1.2.2.1, (upd τ0.2.2.1.2.2.2.1 x4.toNatClampNeg (τ0.2.2.1.2.2.1 x4.toNatClampNeg)), τ0.2.2.1.2.2.2.2.1, τ0.2.2.1.2.2.2.2.2.1, τ0.2.2.1.2.2.2.2.2.2.1, τ0.2.2.1.2.2.2.2.2.2.2.1, τ0.2.2.1.2.2.2.2.2.2.2.2.1, τ0.2.2.1.2.2.2.2.2.2.2.2.2.1, τ0.2.2.1.2.2.2.2.2.2.2.2.2.2), τ0.2.2.2.1, τ0.2.2.2.2) x1 (x4 + 1) else none else none)
def s_X4_see_128  (τ0 : zM) (x1 : Int32) (x2 : Int32) (y0 : Int32) : Option (zM) :=
  if τ0.2.2.1.2.2.2.2.1 ≤ x2 then (if τ0.2.2.1.2.2.2.2.2.2.1 ≤ x2 then (s_X4_see_206 (τ0.1, τ0.2.1, (τ0.2.2.1.1, τ0.2.2.1.2.1, τ0.2.2.1.2.2.1, τ0.2.2.1.2.2.2.1, τ0.2.2.1.2.2.2.2.1, τ0.2.2.1.2.2.2.2.2.1, τ0.2.2.1.2.2.2.2.2.2.1, y0, τ0.2.2.1.2.2.2.2.2.2.2.2.1, τ0.2.2.1.2.2.2.2.2.2.2.2.2.1, τ0.2.2.1.2.2.2.2.2.2.2.2.2.2), τ0.2.2.2.1, τ0.2.2.2.2) x2 τ0.2.2.1.2.2.2.2.2.2.1) else (s_X4_see_206 (τ0.1, τ0.2.1, (τ0.2.2.1.1, τ0.2.2.1.2.1, τ0.2.2.1.2.2.1, τ0.2.2.1.2.2.2.1, τ0.2.2.1.2.2.2.2.1, τ0.2.2.1.2.2.2.2.2.1, τ0.2.2.1.2.2.2.2.2.2.1, y0, τ0.2.2.1.2.2.2.2.2.2.2.2.1, τ0.2.2.1.2.2.2.2.2.2.2.2.2.1, τ0.2.2.1.2.2.2.2.2.2.2.2.2.2), τ0.2.2.2.1, τ0.2.2.2.2) x2 x2)) else (s_X4_see_160 FU (τ0.1, τ0.2.1, (τ0.2.2.1.1, τ0.2.2.1.2.1, τ0.2.2.1.2.2.1, τ0.2.2.1.2.2.2.1, x2, (1 : Int32), τ0.2.2.1.2.2.2.2.1, y0, τ0.2.2.1.2.2.2.2.2.2.2.2.1, τ0.2.2.1.2.2.2.2.2.2.2.2.2.1, τ0.2.2.1.2.2.2.2.2.2.2.2.2.2), τ0.2.2.2.1, τ0.2.2.2.2) x1 (0 : Int32))
def s_X4_see_124  (τ0 : zM) (x1 : Int32) (x2 : Int32) : Option (zM) :=
  s_X4_see_128 τ0 x1 x2 τ0.2.2.1.2.2.2.2.2.2.2.1
def s_X4_see_101  (τ0 : zM) (x1 : Int32) (x2 : Int32) (y0 : Int32) : Option (zM) :=
  if (1000 : Int32) ≤ x2 then (s_X4_see_124 (τ0.1, τ0.2.1, (τ0.2.2.1.1, τ0.2.2.1.2.1, τ0.2.2.1.2.2.1, τ0.2.2.1.2.2.2.1, τ0.2.2.1.2.2.2.2.1, τ0.2.2.1.2.2.2.2.2.1, τ0.2.2.1.2.2.2.2.2.2.1, τ0.2.2.1.2.2.2.2.2.2.2.1, y0, τ0.2.2.1.2.2.2.2.2.2.2.2.2.1, τ0.2.2.1.2.2.2.2.2.2.2.2.2.2), τ0.2.2.2.1, τ0.2.2.2.2) x1 x2) else (if x2 ≤ τ0.2.2.1.2.2.2.2.2.2.2.1 then (s_X4_see_124 (τ0.1, τ0.2.1, (τ0.2.2.1.1, τ0.2.2.1.2.1, τ0.2.2.1.2.2.1, τ0.2.2.1.2.2.2.1, τ0.2.2.1.2.2.2.2.1, τ0.2.2.1.2.2.2.2.2.1, τ0.2.2.1.2.2.2.2.2.2.1, τ0.2.2.1.2.2.2.2.2.2.2.1, y0, τ0.2.2.1.2.2.2.2.2.2.2.2.2.1, τ0.2.2.1.2.2.2.2.2.2.2.2.2.2), τ0.2.2.2.1, τ0.2.2.2.2) x1 x2) else (s_X4_see_128 (τ0.1, τ0.2.1, (τ0.2.2.1.1, τ0.2.2.1.2.1, τ0.2.2.1.2.2.1, τ0.2.2.1.2.2.2.1, τ0.2.2.1.2.2.2.2.1, τ0.2.2.1.2.2.2.2.2.1, τ0.2.2.1.2.2.2.2.2.2.1, τ0.2.2.1.2.2.2.2.2.2.2.1, y0, τ0.2.2.1.2.2.2.2.2.2.2.2.2.1, τ0.2.2.1.2.2.2.2.2.2.2.2.2.2), τ0.2.2.2.1, τ0.2.2.2.2) x1 x2 x2))
def s_X4_see_54 (k5 : (zM → Int32 → Int32 → Int32 → Int32 → Option (zM))) (τ0 : zM) (x1 : Int32) (x2 : Int32) (x3 : Int32) (x4 : Int32) (x5 : Int32) (y0 : Int32) (y1 : Int32) : Option (zM) :=
  if ib y1 49 = true then if ib x5 49 = true then if (τ0.2.2.1.1 x5.toNatClampNeg) ≤ x3 then (k5 (τ0.1, τ0.2.1, (τ0.2.2.1.1, (upd τ0.2.2.1.2.1 y1.toNatClampNeg y0), τ0.2.2.1.2.2.1, τ0.2.2.1.2.2.2.1, τ0.2.2.1.2.2.2.2.1, τ0.2.2.1.2.2.2.2.2.1, τ0.2.2.1.2.2.2.2.2.2.1, τ0.2.2.1.2.2.2.2.2.2.2.1, τ0.2.2.1.2.2.2.2.2.2.2.2.1, τ0.2.2.1.2.2.2.2.2.2.2.2.2.1, τ0.2.2.1.2.2.2.2.2.2.2.2.2.2), τ0.2.2.2.1, τ0.2.2.2.2) x1 x2 x3 (x4 + 1)) else (if ib x5 49 = true then k5 (τ0.1, τ0.2.1, (τ0.2.2.1.1, (upd τ0.2.2.1.2.1 y1.toNatClampNeg y0), τ0.2.2.1.2.2.1, τ0.2.2.1.2.2.2.1, τ0.2.2.1.2.2.2.2.1, τ0.2.2.1.2.2.2.2.2.1, τ0.2.2.1.2.2.2.2.2.2.1, τ0.2.2.1.2.2.2.2.2.2.2.1, τ0.2.2.1.2.2.2.2.2.2.2.2.1, τ0.2.2.1.2.2.2.2.2.2.2.2.2.1, τ0.2.2.1.2.2.2.2.2.2.2.2.2.2), τ0.2.2.2.1, τ0.2.2.2.2) x1 x2 (τ0.2.2.1.1 x5.toNatClampNeg) (x4 + 1) else none) else none else none
def s_X4_see_5  : Nat → zM → Int32 → Int32 → Int32 → Int32 → Option (zM)
  | 0, _, _, _, _, _ => none
  | n + 1, τ0, x1, x2, x3, x4 => if x1 ≤ x4 then (if τ0.2.2.1.2.2.2.2.2.2.2.2.1 ≤ x3 then (s_X4_see_101 τ0 x1 x2 τ0.2.2.1.2.2.2.2.2.2.2.2.1) else (s_X4_see_101 τ0 x1 x2 x3)) else (if ib x4 7 = true then if ib (((7 : Int32) * x4) + (τ0.2.2.1.2.2.1 x4.toNatClampNeg)) 49 = true then if (τ0.2.2.1.2.1 (((7 : Int32) * x4) + (τ0.2.2.1.2.2.1 x4.toNatClampNeg)).toNatClampNeg) ≤ x2 then (if ib (((7 : Int32) * x4) + (τ0.2.2.1.2.2.1 x4.toNatClampNeg)) 49 = true then s_X4_see_54 (fun v0 v1 v2 v3 v4 => s_X4_see_5 n v0 v1 v2 v3 v4) τ0 x1 x2 x3 x4 (((7 : Int32) * x4) + (τ0.2.2.1.2.2.1 x4.toNatClampNeg)) (τ0.2.2.1.2.1 (((7 : Int32) * x4) + (τ0.2.2.1.2.2.1 x4.toNatClampNeg)).toNatClampNeg) (((7 : Int32) * x4) + (τ0.2.2.1.2.2.1 x4.toNatClampNeg)) else none) else (s_X4_see_54 (fun v0 v1 v2 v3 v4 => s_X4_see_5 n v0 v1 v2 v3 v4) τ0 x1 x2 x3 x4 (((7 : Int32) * x4) + (τ0.2.2.1.2.2.1 x4.toNatClampNeg)) x2 (((7 : Int32) * x4) + (τ0.2.2.1.2.2.1 x4.toNatClampNeg))) else none else none)
def s_X4_see (σ0 : zM) (p0 : Int32) (p1 : Int32) : Option (zM) :=
  s_X4_see_5 FU σ0 p0 p1 (0 : Int32) (0 : Int32)
def s_X4_look_59  : Nat → zM → Int32 → Int32 → Option (zM)
  | 0, _, _, _ => none
  | n + 1, τ0, x1, x2 => if x2 ≤ 0 then (some τ0) else ((s_X4_sum τ0 x1).bind fun z2 => (s_X4_see τ0 x1 z2).bind fun z3 => (s_X4_goOn z3 x1).bind fun z4 => s_X4_look_59 n z4 x1 (x2 + (-1)))
def s_X4_look_30  : Nat → zM → Int32 → Int32 → Option (zM)
  | 0, _, _, _ => none
  | n + 1, τ0, x1, x2 => if (49 : Int32) ≤ x2 then ((s_X4_begin τ0).bind fun z2 => (s_X4_factorial 12 x1).bind fun z3 => s_X4_look_59 FU z2 x1 z3) else (if ib x2 49 = true then s_X4_look_30 n (τ0.1, τ0.2.1, (τ0.2.2.1.1, (upd τ0.2.2.1.2.1 x2.toNatClampNeg (1000000 : Int32)), τ0.2.2.1.2.2.1, τ0.2.2.1.2.2.2.1, τ0.2.2.1.2.2.2.2.1, τ0.2.2.1.2.2.2.2.2.1, τ0.2.2.1.2.2.2.2.2.2.1, τ0.2.2.1.2.2.2.2.2.2.2.1, τ0.2.2.1.2.2.2.2.2.2.2.2.1, τ0.2.2.1.2.2.2.2.2.2.2.2.2.1, τ0.2.2.1.2.2.2.2.2.2.2.2.2.2), τ0.2.2.2.1, τ0.2.2.2.2) x1 (x2 + 1) else none)
def s_X4_look (σ0 : zM) (p0 : Int32) : Option (zM) :=
  s_X4_look_30 FU (σ0.1, σ0.2.1, (σ0.2.2.1.1, σ0.2.2.1.2.1, σ0.2.2.1.2.2.1, σ0.2.2.1.2.2.2.1, (1000000 : Int32), (0 : Int32), (1000000 : Int32), (-1 : Int32), (1000000 : Int32), σ0.2.2.1.2.2.2.2.2.2.2.2.2.1, σ0.2.2.1.2.2.2.2.2.2.2.2.2.2), σ0.2.2.2.1, σ0.2.2.2.2) p0 (0 : Int32)
def s_X4_look_ (σ0 : zM)  : Option (zM) :=
  (s_X4_take σ0).bind fun z1 => (s_X4_look z1 z1.1.1).bind fun z2 => some z2
def s_X4_without_6  : Nat → zM → Int32 → Int32 → Int32 → Int32 → Option (Int32)
  | 0, _, _, _, _, _ => none
  | n + 1, σ0, x1, x2, x3, x4 => if σ0.1.1 ≤ x4 then (some x3) else (if x4 = x2 then (s_X4_without_6 n σ0 x1 x2 x3 (x4 + 1)) else (if ib (((7 : Int32) * x1) + x4) 49 = true then if x3 ≤ (σ0.2.2.1.2.1 (((7 : Int32) * x1) + x4).toNatClampNeg) then (s_X4_without_6 n σ0 x1 x2 x3 (x4 + 1)) else (if ib (((7 : Int32) * x1) + x4) 49 = true then s_X4_without_6 n σ0 x1 x2 (σ0.2.2.1.2.1 (((7 : Int32) * x1) + x4).toNatClampNeg) (x4 + 1) else none) else none))
def s_X4_without (σ0 : zM) (p0 : Int32) (p1 : Int32) : Option (Int32) :=
  s_X4_without_6 FU σ0 p0 p1 (1000000 : Int32) (0 : Int32)
def s_X4_findPotentials_70 (k52 : (zM → Int32 → Option (zM))) : Nat → zM → Int32 → Int32 → Option (zM)
  | 0, _, _, _ => none
  | n + 1, τ0, x1, x2 => if τ0.1.1 ≤ x2 then (k52 τ0 (x1 + 1)) else (if ib (((7 : Int32) * x2) + x1) 49 = true then if ib x2 7 = true then if ib x1 7 = true then if (τ0.2.2.1.2.2.2.2.2.2.2.2.2.2 x1.toNatClampNeg) ≤ ((τ0.2.2.1.1 (((7 : Int32) * x2) + x1).toNatClampNeg) - (τ0.2.2.1.2.2.2.2.2.2.2.2.2.1 x2.toNatClampNeg)) then (if ib x1 7 = true then if ib x1 7 = true then s_X4_findPotentials_70 k52 n (τ0.1, τ0.2.1, (τ0.2.2.1.1, τ0.2.2.1.2.1, τ0.2.2.1.2.2.1, τ0.2.2.1.2.2.2.1, τ0.2.2.1.2.2.2.2.1, τ0.2.2.1.2.2.2.2.2.1, τ0.2.2.1.2.2.2.2.2.2.1, τ0.2.2.1.2.2.2.2.2.2.2.1, τ0.2.2.1.2.2.2.2.2.2.2.2.1, τ0.2.2.1.2.2.2.2.2.2.2.2.2.1, (upd τ0.2.2.1.2.2.2.2.2.2.2.2.2.2 x1.toNatClampNeg (τ0.2.2.1.2.2.2.2.2.2.2.2.2.2 x1.toNatClampNeg))), τ0.2.2.2.1, τ0.2.2.2.2) x1 (x2 + 1) else none else none) else (if ib x1 7 = true then s_X4_findPotentials_70 k52 n (τ0.1, τ0.2.1, (τ0.2.2.1.1, τ0.2.2.1.2.1, τ0.2.2.1.2.2.1, τ0.2.2.1.2.2.2.1, τ0.2.2.1.2.2.2.2.1, τ0.2.2.1.2.2.2.2.2.1, τ0.2.2.1.2.2.2.2.2.2.1, τ0.2.2.1.2.2.2.2.2.2.2.1, τ0.2.2.1.2.2.2.2.2.2.2.2.1, τ0.2.2.1.2.2.2.2.2.2.2.2.2.1, (upd τ0.2.2.1.2.2.2.2.2.2.2.2.2.2 x1.toNatClampNeg ((τ0.2.2.1.1 (((7 : Int32) * x2) + x1).toNatClampNeg) - (τ0.2.2.1.2.2.2.2.2.2.2.2.2.1 x2.toNatClampNeg)))), τ0.2.2.2.1, τ0.2.2.2.2) x1 (x2 + 1) else none) else none else none else none)
def s_X4_findPotentials_52  : Nat → zM → Int32 → Option (zM)
  | 0, _, _ => none
  | n + 1, τ0, x1 => if τ0.1.1 ≤ x1 then (some τ0) else (if ib x1 7 = true then s_X4_findPotentials_70 (fun v0 v1 => s_X4_findPotentials_52 n v0 v1) FU (τ0.1, τ0.2.1, (τ0.2.2.1.1, τ0.2.2.1.2.1, τ0.2.2.1.2.2.1, τ0.2.2.1.2.2.2.1, τ0.2.2.1.2.2.2.2.1, τ0.2.2.1.2.2.2.2.2.1, τ0.2.2.1.2.2.2.2.2.2.1, τ0.2.2.1.2.2.2.2.2.2.2.1, τ0.2.2.1.2.2.2.2.2.2.2.2.1, τ0.2.2.1.2.2.2.2.2.2.2.2.2.1, (upd τ0.2.2.1.2.2.2.2.2.2.2.2.2.2 x1.toNatClampNeg (1000000 : Int32))), τ0.2.2.2.1, τ0.2.2.2.2) x1 (0 : Int32) else none)
def s_X4_findPotentials_6  : Nat → zM → Int32 → Option (zM)
  | 0, _, _ => none
  | n + 1, τ0, x1 => if τ0.1.1 ≤ x1 then (s_X4_findPotentials_52 FU τ0 (0 : Int32)) else (if ib ((7 : Int32) * x1) 49 = true then if ib ((7 : Int32) * x1) 49 = true then if ib x1 7 = true then s_X4_findPotentials_6 n (τ0.1, τ0.2.1, (τ0.2.2.1.1, τ0.2.2.1.2.1, τ0.2.2.1.2.2.1, τ0.2.2.1.2.2.2.1, τ0.2.2.1.2.2.2.2.1, τ0.2.2.1.2.2.2.2.2.1, τ0.2.2.1.2.2.2.2.2.2.1, τ0.2.2.1.2.2.2.2.2.2.2.1, τ0.2.2.1.2.2.2.2.2.2.2.2.1, (upd τ0.2.2.1.2.2.2.2.2.2.2.2.2.1 x1.toNatClampNeg (τ0.2.2.1.2.2.2.2.1 - ((τ0.2.2.1.2.1 ((7 : Int32) * x1).toNatClampNeg) - (τ0.2.2.1.1 ((7 : Int32) * x1).toNatClampNeg)))), τ0.2.2.1.2.2.2.2.2.2.2.2.2.2), τ0.2.2.2.1, τ0.2.2.2.2) (x1 + 1) else none else none else none)
def s_X4_findPotentials (σ0 : zM)  : Option (zM) :=
  (s_X4_look_ σ0).bind fun z1 => s_X4_findPotentials_6 FU z1 (0 : Int32)
def s_X4_reduced (σ0 : zM) (p0 : Int32) (p1 : Int32) : Option (Int32) :=
  if ib (((7 : Int32) * p0) + p1) 49 = true then if ib p0 7 = true then if ib p1 7 = true then some (((σ0.2.2.1.1 (((7 : Int32) * p0) + p1).toNatClampNeg) - (σ0.2.2.1.2.2.2.2.2.2.2.2.2.1 p0.toNatClampNeg)) - (σ0.2.2.1.2.2.2.2.2.2.2.2.2.2 p1.toNatClampNeg)) else none else none else none
def s_X4_resize_49  : Nat → zM → Int32 → Option (Int32 × zM)
  | 0, _, _ => none
  | n + 1, τ0, x3 => if (49 : Int32) ≤ x3 then (some ((τ0.1.1 * τ0.1.2.1), (τ0.1, τ0.2.1, τ0.2.2.1, ((-1 : Int32), τ0.2.2.2.1.2.1, τ0.2.2.2.1.2.2.1, τ0.2.2.2.1.2.2.2), τ0.2.2.2.2))) else (if ib x3 49 = true then if ib x3 49 = true then s_X4_resize_49 n ((τ0.1.1, τ0.1.2.1, (upd τ0.1.2.2.1 x3.toNatClampNeg (0 : Int32)), (upd τ0.1.2.2.2 x3.toNatClampNeg ((0 : Int32) &&& 1))), τ0.2.1, τ0.2.2.1, τ0.2.2.2.1, τ0.2.2.2.2) (x3 + 1) else none else none)
def s_X4_resize_29  (τ0 : zM) (x1 : Int32) (x2 : Int32) (y0 : Int32) : Option (Int32 × zM) :=
  (s_X4_isWrong τ0 y0).bind fun z1 => if z1.1 = 0 then (s_X4_resize_49 FU ((x1, x2, z1.2.1.2.2.1, z1.2.1.2.2.2), z1.2.2.1, z1.2.2.2.1, z1.2.2.2.2.1, z1.2.2.2.2.2) (0 : Int32)) else (some ((0 : Int32), z1.2))
def s_X4_resize_24  (τ0 : zM) (x1 : Int32) (x2 : Int32) : Option (Int32 × zM) :=
  s_X4_resize_29 τ0 x1 x2 (1 : Int32)
def s_X4_resize (σ0 : zM) (p0 : Int32) (p1 : Int32) : Option (Int32 × zM) :=
  (s_X4_isIn p0.toInt64 (1 : Int64) (7 : Int64)).bind fun z1 => if z1 = 0 then (s_X4_resize_24 σ0 p0 p1) else ((s_X4_isIn p1.toInt64 (1 : Int64) p0.toInt64).bind fun z3 => if z3 = 0 then (s_X4_resize_24 σ0 p0 p1) else (s_X4_resize_29 σ0 p0 p1 (0 : Int32)))
def s_X4_setCost_38  (τ0 : zM) (x1 : Int32) (x2 : Int32) (x3 : Int32) (y0 : Int32) : Option (Int32 × zM) :=
  (s_X4_isWrong τ0 y0).bind fun z1 => if z1.1 = 0 then (if ib (((7 : Int32) * x1) + x2) 49 = true then if ib (((7 : Int32) * x1) + x2) 49 = true then some ((z1.2.1.2.2.1 (((7 : Int32) * x1) + x2).toNatClampNeg), ((z1.2.1.1, z1.2.1.2.1, (upd z1.2.1.2.2.1 (((7 : Int32) * x1) + x2).toNatClampNeg x3), z1.2.1.2.2.2), z1.2.2.1, z1.2.2.2.1, ((-1 : Int32), z1.2.2.2.2.1.2.1, z1.2.2.2.2.1.2.2.1, z1.2.2.2.2.1.2.2.2), z1.2.2.2.2.2)) else none else none) else (some ((0 : Int32), z1.2))
def s_X4_setCost_17  (τ0 : zM) (x1 : Int32) (x2 : Int32) (x3 : Int32) : Option (Int32 × zM) :=
  s_X4_setCost_38 τ0 x1 x2 x3 (1 : Int32)
def s_X4_setCost (σ0 : zM) (p0 : Int32) (p1 : Int32) (p2 : Int32) : Option (Int32 × zM) :=
  (s_X4_isRow σ0 p0).bind fun z1 => if z1 = 0 then (s_X4_setCost_17 σ0 p0 p1 p2) else ((s_X4_isReal σ0 p1).bind fun z3 => if z3 = 0 then (s_X4_setCost_17 σ0 p0 p1 p2) else ((s_X4_isIn p2.toInt64 (0 : Int64) (99 : Int64)).bind fun z5 => if z5 = 0 then (s_X4_setCost_38 σ0 p0 p1 p2 (2 : Int32)) else (s_X4_setCost_38 σ0 p0 p1 p2 (0 : Int32))))
def s_X4_setRow_83  : Nat → zM → Int32 → Int64 → Int32 → Int32 → Option (Int32 × zM)
  | 0, _, _, _, _, _ => none
  | n + 1, τ0, x1, x6, x8, x9 => if x9 < 0 then (some (x8, (τ0.1, τ0.2.1, τ0.2.2.1, ((-1 : Int32), τ0.2.2.2.1.2.1, τ0.2.2.2.1.2.2.1, τ0.2.2.2.1.2.2.2), τ0.2.2.2.2))) else (if ib (((7 : Int32) * x1) + x9) 49 = true then if x8 ≤ ((x6 - x6 / (100 : Int64) * (100 : Int64)).toInt32) then (s_X4_setRow_83 n ((τ0.1.1, τ0.1.2.1, (upd τ0.1.2.2.1 (((7 : Int32) * x1) + x9).toNatClampNeg ((x6 - x6 / (100 : Int64) * (100 : Int64)).toInt32)), τ0.1.2.2.2), τ0.2.1, τ0.2.2.1, τ0.2.2.2.1, τ0.2.2.2.2) x1 (x6 / (100 : Int64)) x8 (x9 + (-1))) else (s_X4_setRow_83 n ((τ0.1.1, τ0.1.2.1, (upd τ0.1.2.2.1 (((7 : Int32) * x1) + x9).toNatClampNeg ((x6 - x6 / (100 : Int64) * (100 : Int64)).toInt32)), τ0.1.2.2.2), τ0.2.1, τ0.2.2.1, τ0.2.2.2.1, τ0.2.2.2.2) x1 (x6 / (100 : Int64)) ((x6 - x6 / (100 : Int64) * (100 : Int64)).toInt32) (x9 + (-1))) else none)
def s_X4_setRow_60  (τ0 : zM) (x1 : Int32) (x2 : Int64) (y0 : Int32) : Option (Int32 × zM) :=
  (s_X4_isWrong τ0 y0).bind fun z1 => if z1.1 = 0 then (s_X4_setRow_83 FU z1.2 x1 x2 (99 : Int32) (z1.2.1.2.1 - (1 : Int32))) else (some ((0 : Int32), z1.2))
def s_X4_setRow_55  (τ0 : zM) (x1 : Int32) (x2 : Int64) : Option (Int32 × zM) :=
  s_X4_setRow_60 τ0 x1 x2 (2 : Int32)
def s_X4_setRow_6  : Nat → zM → Int32 → Int64 → Int64 → Int32 → Option (Int32 × zM)
  | 0, _, _, _, _, _ => none
  | n + 1, τ0, x1, x2, x4, x6 => if τ0.1.2.1 ≤ x6 then ((s_X4_isRow τ0 x1).bind fun z2 => if z2 = 0 then (s_X4_setRow_60 τ0 x1 x2 (1 : Int32)) else (if (lg_cmp x2 (0 : Int64)) < 0 then (s_X4_setRow_55 τ0 x1 x2) else (if (lg_cmp x2 x4) < 0 then (s_X4_setRow_60 τ0 x1 x2 (0 : Int32)) else (s_X4_setRow_55 τ0 x1 x2)))) else (s_X4_setRow_6 n τ0 x1 x2 (x4 * (100 : Int64)) (x6 + 1))
def s_X4_setRow (σ0 : zM) (p0 : Int32) (p1 : Int64) : Option (Int32 × zM) :=
  s_X4_setRow_6 FU σ0 p0 p1 (1 : Int64) (0 : Int32)
def s_X4_fill_58 (k46 : (zM → Int32 → Int32 → Int32 → Int32 → Option (Int32 × zM))) : Nat → zM → Int32 → Int32 → Int32 → Int32 → Int32 → Option (Int32 × zM)
  | 0, _, _, _, _, _, _ => none
  | n + 1, τ0, x2, x3, x4, x5, x6 => if τ0.1.2.1 ≤ x6 then (k46 τ0 x2 x3 x4 (x5 + 1)) else (if ¬ (x2 + (1 : Int32)) = 0 then if ib (((7 : Int32) * x5) + x6) 49 = true then if ib (((7 : Int32) * x5) + x6) 49 = true then if ib (((7 : Int32) * x5) + x6) 49 = true then s_X4_fill_58 k46 n ((τ0.1.1, τ0.1.2.1, (upd τ0.1.2.2.1 (((7 : Int32) * x5) + x6).toNatClampNeg (((((37 : Int32) * x3) + (11 : Int32)) - (((37 : Int32) * x3) + (11 : Int32)) / (10007 : Int32) * (10007 : Int32)) - ((((37 : Int32) * x3) + (11 : Int32)) - (((37 : Int32) * x3) + (11 : Int32)) / (10007 : Int32) * (10007 : Int32)) / (x2 + (1 : Int32)) * (x2 + (1 : Int32)))), (upd τ0.1.2.2.2 (((7 : Int32) * x5) + x6).toNatClampNeg ((0 : Int32) &&& 1))), τ0.2.1, τ0.2.2.1, τ0.2.2.2.1, τ0.2.2.2.2) x2 ((((37 : Int32) * x3) + (11 : Int32)) - (((37 : Int32) * x3) + (11 : Int32)) / (10007 : Int32) * (10007 : Int32)) (x4 + ((upd τ0.1.2.2.1 (((7 : Int32) * x5) + x6).toNatClampNeg (((((37 : Int32) * x3) + (11 : Int32)) - (((37 : Int32) * x3) + (11 : Int32)) / (10007 : Int32) * (10007 : Int32)) - ((((37 : Int32) * x3) + (11 : Int32)) - (((37 : Int32) * x3) + (11 : Int32)) / (10007 : Int32) * (10007 : Int32)) / (x2 + (1 : Int32)) * (x2 + (1 : Int32)))) (((7 : Int32) * x5) + x6).toNatClampNeg)) x5 (x6 + 1) else none else none else none else none)
def s_X4_fill_46  : Nat → zM → Int32 → Int32 → Int32 → Int32 → Option (Int32 × zM)
  | 0, _, _, _, _, _ => none
  | n + 1, τ0, x2, x3, x4, x5 => if τ0.1.1 ≤ x5 then (some (x4, (τ0.1, τ0.2.1, τ0.2.2.1, ((-1 : Int32), τ0.2.2.2.1.2.1, τ0.2.2.2.1.2.2.1, τ0.2.2.2.1.2.2.2), τ0.2.2.2.2))) else (s_X4_fill_58 (fun v0 v1 v2 v3 v4 => s_X4_fill_46 n v0 v1 v2 v3 v4) FU τ0 x2 x3 x4 x5 (0 : Int32))
def s_X4_fill_30  (τ0 : zM) (x1 : Int32) (x2 : Int32) (y0 : Int32) : Option (Int32 × zM) :=
  (s_X4_isWrong τ0 y0).bind fun z1 => if z1.1 = 0 then (s_X4_fill_46 FU z1.2 x2 x1 (0 : Int32) (0 : Int32)) else (some ((0 : Int32), z1.2))
def s_X4_fill_25  (τ0 : zM) (x1 : Int32) (x2 : Int32) : Option (Int32 × zM) :=
  s_X4_fill_30 τ0 x1 x2 (1 : Int32)
def s_X4_fill (σ0 : zM) (p0 : Int32) (p1 : Int32) : Option (Int32 × zM) :=
  (s_X4_isIn p0.toInt64 (0 : Int64) (9999 : Int64)).bind fun z1 => if z1 = 0 then (s_X4_fill_25 σ0 p0 p1) else ((s_X4_isIn p1.toInt64 (0 : Int64) (99 : Int64)).bind fun z3 => if z3 = 0 then (s_X4_fill_25 σ0 p0 p1) else (s_X4_fill_30 σ0 p0 p1 (0 : Int32)))
def s_X4_forbiddenMany_14 (k4 : (zM → Int32 → Int32 → Option (Int32))) : Nat → zM → Int32 → Int32 → Int32 → Option (Int32)
  | 0, _, _, _, _ => none
  | n + 1, σ0, x1, x2, x3 => if σ0.1.2.1 ≤ x3 then (k4 σ0 x1 (x2 + 1)) else (if ib (((7 : Int32) * x2) + x3) 49 = true then if (σ0.1.2.2.2 (((7 : Int32) * x2) + x3).toNatClampNeg) = 0 then (s_X4_forbiddenMany_14 k4 n σ0 (x1 + (0 : Int32)) x2 (x3 + 1)) else (s_X4_forbiddenMany_14 k4 n σ0 (x1 + (1 : Int32)) x2 (x3 + 1)) else none)
def s_X4_forbiddenMany_4  : Nat → zM → Int32 → Int32 → Option (Int32)
  | 0, _, _, _ => none
  | n + 1, σ0, x1, x2 => if σ0.1.1 ≤ x2 then (some x1) else (s_X4_forbiddenMany_14 (fun v0 v1 v2 => s_X4_forbiddenMany_4 n v0 v1 v2) FU σ0 x1 x2 (0 : Int32))
def s_X4_forbiddenMany (σ0 : zM)  : Option (Int32) :=
  s_X4_forbiddenMany_4 FU σ0 (0 : Int32) (0 : Int32)
def s_X4_setForbidden_22  (τ0 : zM) (x1 : Int32) (x2 : Int32) (x3 : Int32) (y0 : Int32) : Option (Int32 × zM) :=
  (s_X4_isWrong τ0 y0).bind fun z1 => if z1.1 = 0 then (if ib (((7 : Int32) * x1) + x2) 49 = true then (s_X4_forbiddenMany ((z1.2.1.1, z1.2.1.2.1, z1.2.1.2.2.1, (upd z1.2.1.2.2.2 (((7 : Int32) * x1) + x2).toNatClampNeg (x3 &&& 1))), z1.2.2.1, z1.2.2.2.1, ((-1 : Int32), z1.2.2.2.2.1.2.1, z1.2.2.2.2.1.2.2.1, z1.2.2.2.2.1.2.2.2), z1.2.2.2.2.2)).bind fun z4 => some (z4, ((z1.2.1.1, z1.2.1.2.1, z1.2.1.2.2.1, (upd z1.2.1.2.2.2 (((7 : Int32) * x1) + x2).toNatClampNeg (x3 &&& 1))), z1.2.2.1, z1.2.2.2.1, ((-1 : Int32), z1.2.2.2.2.1.2.1, z1.2.2.2.2.1.2.2.1, z1.2.2.2.2.1.2.2.2), z1.2.2.2.2.2)) else none) else (some ((0 : Int32), z1.2))
def s_X4_setForbidden_17  (τ0 : zM) (x1 : Int32) (x2 : Int32) (x3 : Int32) : Option (Int32 × zM) :=
  s_X4_setForbidden_22 τ0 x1 x2 x3 (1 : Int32)
def s_X4_setForbidden (σ0 : zM) (p0 : Int32) (p1 : Int32) (p2 : Int32) : Option (Int32 × zM) :=
  (s_X4_isRow σ0 p0).bind fun z1 => if z1 = 0 then (s_X4_setForbidden_17 σ0 p0 p1 p2) else ((s_X4_isReal σ0 p1).bind fun z3 => if z3 = 0 then (s_X4_setForbidden_17 σ0 p0 p1 p2) else (s_X4_setForbidden_22 σ0 p0 p1 p2 (0 : Int32)))
def s_X4_costAt_17  (τ0 : zM) (x1 : Int32) (x2 : Int32) : Option (Int32 × zM) :=
  (s_X4_isWrong τ0 (1 : Int32)).bind fun z1 => if z1.1 = 0 then ((s_X4_cost z1.2 x1 x2).bind fun z3 => some (z3, z1.2)) else (some ((0 : Int32), z1.2))
def s_X4_costAt (σ0 : zM) (p0 : Int32) (p1 : Int32) : Option (Int32 × zM) :=
  (s_X4_isRow σ0 p0).bind fun z1 => if z1 = 0 then (s_X4_costAt_17 σ0 p0 p1) else ((s_X4_isRow σ0 p1).bind fun z3 => if z3 = 0 then (s_X4_costAt_17 σ0 p0 p1) else ((s_X4_isWrong σ0 (0 : Int32)).bind fun z5 => if z5.1 = 0 then ((s_X4_cost z5.2 p0 p1).bind fun z7 => some (z7, z5.2)) else (some ((0 : Int32), z5.2))))
def s_X4_rowSum_4  : Nat → zM → Int32 → Int32 → Int32 → Option (Int32)
  | 0, _, _, _, _ => none
  | n + 1, σ0, x1, x2, x3 => if σ0.1.1 ≤ x3 then (some x2) else ((s_X4_cost σ0 x1 x3).bind fun z2 => s_X4_rowSum_4 n σ0 x1 (x2 + z2) (x3 + 1))
def s_X4_rowSum (σ0 : zM) (p0 : Int32) : Option (Int32) :=
  s_X4_rowSum_4 FU σ0 p0 (0 : Int32) (0 : Int32)
def s_X4_columnSum_4  : Nat → zM → Int32 → Int32 → Int32 → Option (Int32)
  | 0, _, _, _, _ => none
  | n + 1, σ0, x1, x2, x3 => if σ0.1.1 ≤ x3 then (some x2) else ((s_X4_cost σ0 x3 x1).bind fun z2 => s_X4_columnSum_4 n σ0 x1 (x2 + z2) (x3 + 1))
def s_X4_columnSum (σ0 : zM) (p0 : Int32) : Option (Int32) :=
  s_X4_columnSum_4 FU σ0 p0 (0 : Int32) (0 : Int32)
def s_X4_takes (σ0 : zM) (p0 : Int32) (p1 : Int32) (p2 : Int32) : Option (Int32) :=
  if ib (((7 : Int32) * p0) + p1) 49 = true then if (σ0.1.2.2.2 (((7 : Int32) * p0) + p1).toNatClampNeg) = 0 then (if ib (((7 : Int32) * p0) + p1) 49 = true then (s_X4_isIn (((σ0.1.2.2.1 (((7 : Int32) * p0) + p1).toNatClampNeg) + p2).toInt64) (0 : Int64) (99 : Int64)).bind fun z4 => if z4 = 0 then (some (0 : Int32)) else (some (1 : Int32)) else none) else (some (0 : Int32)) else none
def s_X4_addToRow_119  : Nat → zM → Int32 → Int32 → Int32 → Option (Int32 × zM)
  | 0, _, _, _, _ => none
  | n + 1, τ0, x1, x2, x4 => if τ0.1.2.1 ≤ x4 then ((s_X4_rowSum (τ0.1, τ0.2.1, τ0.2.2.1, ((-1 : Int32), τ0.2.2.2.1.2.1, τ0.2.2.2.1.2.2.1, τ0.2.2.2.1.2.2.2), τ0.2.2.2.2) x1).bind fun z2 => some (z2, (τ0.1, τ0.2.1, τ0.2.2.1, ((-1 : Int32), τ0.2.2.2.1.2.1, τ0.2.2.2.1.2.2.1, τ0.2.2.2.1.2.2.2), τ0.2.2.2.2))) else (if ib (((7 : Int32) * x1) + x4) 49 = true then if ib (((7 : Int32) * x1) + x4) 49 = true then s_X4_addToRow_119 n ((τ0.1.1, τ0.1.2.1, (upd τ0.1.2.2.1 (((7 : Int32) * x1) + x4).toNatClampNeg ((τ0.1.2.2.1 (((7 : Int32) * x1) + x4).toNatClampNeg) + x2)), τ0.1.2.2.2), τ0.2.1, τ0.2.2.1, τ0.2.2.2.1, τ0.2.2.2.2) x1 x2 (x4 + 1) else none else none)
def s_X4_addToRow_68  (τ0 : zM) (x1 : Int32) (x2 : Int32) (x3 : Int32) : Option (Int32 × zM) :=
  (s_X4_isRow τ0 x1).bind fun z1 => if z1 = 0 then ((s_X4_isWrong τ0 (1 : Int32)).bind fun z12 => if z12.1 = 0 then (s_X4_addToRow_119 FU z12.2 x1 x2 (0 : Int32)) else (some ((0 : Int32), z12.2))) else ((s_X4_isIn x2.toInt64 (-99 : Int64) (99 : Int64)).bind fun z3 => if z3 = 0 then ((s_X4_isWrong τ0 (2 : Int32)).bind fun z10 => if z10.1 = 0 then (s_X4_addToRow_119 FU z10.2 x1 x2 (0 : Int32)) else (some ((0 : Int32), z10.2))) else (if x3 = 0 then ((s_X4_isWrong τ0 (3 : Int32)).bind fun z8 => if z8.1 = 0 then (s_X4_addToRow_119 FU z8.2 x1 x2 (0 : Int32)) else (some ((0 : Int32), z8.2))) else ((s_X4_isWrong τ0 (0 : Int32)).bind fun z6 => if z6.1 = 0 then (s_X4_addToRow_119 FU z6.2 x1 x2 (0 : Int32)) else (some ((0 : Int32), z6.2)))))
def s_X4_addToRow_20  : Nat → zM → Int32 → Int32 → Int32 → Int32 → Option (Int32 × zM)
  | 0, _, _, _, _, _ => none
  | n + 1, τ0, x1, x2, x3, x4 => (s_X4_isRow τ0 x1).bind fun z1 => if z1 = 0 then (s_X4_addToRow_68 τ0 x1 x2 x3) else ((s_X4_isIn x2.toInt64 (-99 : Int64) (99 : Int64)).bind fun z3 => if z3 = 0 then (s_X4_addToRow_68 τ0 x1 x2 x3) else (if τ0.1.2.1 ≤ x4 then (s_X4_addToRow_68 τ0 x1 x2 x3) else ((s_X4_takes τ0 x1 x4 x2).bind fun z6 => s_X4_addToRow_20 n τ0 x1 x2 (x3 &&& z6) (x4 + 1))))
def s_X4_addToRow (σ0 : zM) (p0 : Int32) (p1 : Int32) : Option (Int32 × zM) :=
  if σ0.1.2.1 = σ0.1.1 then (s_X4_addToRow_20 FU σ0 p0 p1 (1 : Int32) (0 : Int32)) else (s_X4_addToRow_20 FU σ0 p0 p1 (0 : Int32) (0 : Int32))
def s_X4_addToColumn_104  : Nat → zM → Int32 → Int32 → Int32 → Option (Int32 × zM)
  | 0, _, _, _, _ => none
  | n + 1, τ0, x1, x2, x4 => if τ0.1.1 ≤ x4 then ((s_X4_columnSum (τ0.1, τ0.2.1, τ0.2.2.1, ((-1 : Int32), τ0.2.2.2.1.2.1, τ0.2.2.2.1.2.2.1, τ0.2.2.2.1.2.2.2), τ0.2.2.2.2) x1).bind fun z2 => some (z2, (τ0.1, τ0.2.1, τ0.2.2.1, ((-1 : Int32), τ0.2.2.2.1.2.1, τ0.2.2.2.1.2.2.1, τ0.2.2.2.1.2.2.2), τ0.2.2.2.2))) else (if ib (((7 : Int32) * x4) + x1) 49 = true then if ib (((7 : Int32) * x4) + x1) 49 = true then s_X4_addToColumn_104 n ((τ0.1.1, τ0.1.2.1, (upd τ0.1.2.2.1 (((7 : Int32) * x4) + x1).toNatClampNeg ((τ0.1.2.2.1 (((7 : Int32) * x4) + x1).toNatClampNeg) + x2)), τ0.1.2.2.2), τ0.2.1, τ0.2.2.1, τ0.2.2.2.1, τ0.2.2.2.2) x1 x2 (x4 + 1) else none else none)
def s_X4_addToColumn_53  (τ0 : zM) (x1 : Int32) (x2 : Int32) (x3 : Int32) : Option (Int32 × zM) :=
  (s_X4_isReal τ0 x1).bind fun z1 => if z1 = 0 then ((s_X4_isWrong τ0 (1 : Int32)).bind fun z12 => if z12.1 = 0 then (s_X4_addToColumn_104 FU z12.2 x1 x2 (0 : Int32)) else (some ((0 : Int32), z12.2))) else ((s_X4_isIn x2.toInt64 (-99 : Int64) (99 : Int64)).bind fun z3 => if z3 = 0 then ((s_X4_isWrong τ0 (2 : Int32)).bind fun z10 => if z10.1 = 0 then (s_X4_addToColumn_104 FU z10.2 x1 x2 (0 : Int32)) else (some ((0 : Int32), z10.2))) else (if x3 = 0 then ((s_X4_isWrong τ0 (3 : Int32)).bind fun z8 => if z8.1 = 0 then (s_X4_addToColumn_104 FU z8.2 x1 x2 (0 : Int32)) else (some ((0 : Int32), z8.2))) else ((s_X4_isWrong τ0 (0 : Int32)).bind fun z6 => if z6.1 = 0 then (s_X4_addToColumn_104 FU z6.2 x1 x2 (0 : Int32)) else (some ((0 : Int32), z6.2)))))
def s_X4_addToColumn_5  : Nat → zM → Int32 → Int32 → Int32 → Int32 → Option (Int32 × zM)
  | 0, _, _, _, _, _ => none
  | n + 1, τ0, x1, x2, x3, x4 => (s_X4_isReal τ0 x1).bind fun z1 => if z1 = 0 then (s_X4_addToColumn_53 τ0 x1 x2 x3) else ((s_X4_isIn x2.toInt64 (-99 : Int64) (99 : Int64)).bind fun z3 => if z3 = 0 then (s_X4_addToColumn_53 τ0 x1 x2 x3) else (if τ0.1.1 ≤ x4 then (s_X4_addToColumn_53 τ0 x1 x2 x3) else ((s_X4_takes τ0 x4 x1 x2).bind fun z6 => s_X4_addToColumn_5 n τ0 x1 x2 (x3 &&& z6) (x4 + 1))))
def s_X4_addToColumn (σ0 : zM) (p0 : Int32) (p1 : Int32) : Option (Int32 × zM) :=
  s_X4_addToColumn_5 FU σ0 p0 p1 (1 : Int32) (0 : Int32)
def s_X4_exchangeCells (σ0 : zM) (p0 : Int32) (p1 : Int32) : Option (zM) :=
  if ib p0 49 = true then if ib p0 49 = true then if ib p1 49 = true then if ib p0 49 = true then if ib p1 49 = true then if ib p0 49 = true then if ib p1 49 = true then if ib p1 49 = true then some ((σ0.1.1, σ0.1.2.1, (upd (upd σ0.1.2.2.1 p0.toNatClampNeg (σ0.1.2.2.1 p1.toNatClampNeg)) p1.toNatClampNeg (σ0.1.2.2.1 p0.toNatClampNeg)), (upd (upd σ0.1.2.2.2 p0.toNatClampNeg ((σ0.1.2.2.2 p1.toNatClampNeg) &&& 1)) p1.toNatClampNeg ((σ0.1.2.2.2 p0.toNatClampNeg) &&& 1))), σ0.2.1, σ0.2.2.1, σ0.2.2.2.1, σ0.2.2.2.2) else none else none else none else none else none else none else none else none
def s_X4_swapRows_32  : Nat → zM → Int32 → Int32 → Int32 → Option (Int32 × zM)
  | 0, _, _, _, _ => none
  | n + 1, τ0, x1, x2, x3 => if τ0.1.2.1 ≤ x3 then ((s_X4_rowSum (τ0.1, τ0.2.1, τ0.2.2.1, ((-1 : Int32), τ0.2.2.2.1.2.1, τ0.2.2.2.1.2.2.1, τ0.2.2.2.1.2.2.2), τ0.2.2.2.2) x1).bind fun z2 => some (z2, (τ0.1, τ0.2.1, τ0.2.2.1, ((-1 : Int32), τ0.2.2.2.1.2.1, τ0.2.2.2.1.2.2.1, τ0.2.2.2.1.2.2.2), τ0.2.2.2.2))) else ((s_X4_exchangeCells τ0 (((7 : Int32) * x1) + x3) (((7 : Int32) * x2) + x3)).bind fun z3 => s_X4_swapRows_32 n z3 x1 x2 (x3 + 1))
def s_X4_swapRows (σ0 : zM) (p0 : Int32) (p1 : Int32) : Option (Int32 × zM) :=
  (s_X4_isRow σ0 p0).bind fun z1 => if z1 = 0 then ((s_X4_isWrong σ0 (1 : Int32)).bind fun z3 => if z3.1 = 0 then (s_X4_swapRows_32 FU z3.2 p0 p1 (0 : Int32)) else (some ((0 : Int32), z3.2))) else ((s_X4_isRow σ0 p1).bind fun z5 => if z5 = 0 then ((s_X4_isWrong σ0 (1 : Int32)).bind fun z9 => if z9.1 = 0 then (s_X4_swapRows_32 FU z9.2 p0 p1 (0 : Int32)) else (some ((0 : Int32), z9.2))) else ((s_X4_isWrong σ0 (0 : Int32)).bind fun z7 => if z7.1 = 0 then (s_X4_swapRows_32 FU z7.2 p0 p1 (0 : Int32)) else (some ((0 : Int32), z7.2))))
def s_X4_swapColumns_32  : Nat → zM → Int32 → Int32 → Int32 → Option (Int32 × zM)
  | 0, _, _, _, _ => none
  | n + 1, τ0, x1, x2, x3 => if τ0.1.1 ≤ x3 then ((s_X4_columnSum (τ0.1, τ0.2.1, τ0.2.2.1, ((-1 : Int32), τ0.2.2.2.1.2.1, τ0.2.2.2.1.2.2.1, τ0.2.2.2.1.2.2.2), τ0.2.2.2.2) x1).bind fun z2 => some (z2, (τ0.1, τ0.2.1, τ0.2.2.1, ((-1 : Int32), τ0.2.2.2.1.2.1, τ0.2.2.2.1.2.2.1, τ0.2.2.2.1.2.2.2), τ0.2.2.2.2))) else ((s_X4_exchangeCells τ0 (((7 : Int32) * x3) + x1) (((7 : Int32) * x3) + x2)).bind fun z3 => s_X4_swapColumns_32 n z3 x1 x2 (x3 + 1))
def s_X4_swapColumns (σ0 : zM) (p0 : Int32) (p1 : Int32) : Option (Int32 × zM) :=
  (s_X4_isReal σ0 p0).bind fun z1 => if z1 = 0 then ((s_X4_isWrong σ0 (1 : Int32)).bind fun z3 => if z3.1 = 0 then (s_X4_swapColumns_32 FU z3.2 p0 p1 (0 : Int32)) else (some ((0 : Int32), z3.2))) else ((s_X4_isReal σ0 p1).bind fun z5 => if z5 = 0 then ((s_X4_isWrong σ0 (1 : Int32)).bind fun z9 => if z9.1 = 0 then (s_X4_swapColumns_32 FU z9.2 p0 p1 (0 : Int32)) else (some ((0 : Int32), z9.2))) else ((s_X4_isWrong σ0 (0 : Int32)).bind fun z7 => if z7.1 = 0 then (s_X4_swapColumns_32 FU z7.2 p0 p1 (0 : Int32)) else (some ((0 : Int32), z7.2))))
def s_X4_transpose_37 (k27 : (zM → Int32 → Option (Int32 × zM))) : Nat → zM → Int32 → Int32 → Option (Int32 × zM)
  | 0, _, _, _ => none
  | n + 1, τ0, x1, x2 => if x1 ≤ x2 then (k27 τ0 (x1 + 1)) else ((s_X4_exchangeCells τ0 (((7 : Int32) * x1) + x2) (((7 : Int32) * x2) + x1)).bind fun z2 => s_X4_transpose_37 k27 n z2 x1 (x2 + 1))
def s_X4_transpose_27  : Nat → zM → Int32 → Option (Int32 × zM)
  | 0, _, _ => none
  | n + 1, τ0, x1 => if τ0.1.1 ≤ x1 then (some (τ0.1.1, (τ0.1, τ0.2.1, τ0.2.2.1, ((-1 : Int32), τ0.2.2.2.1.2.1, τ0.2.2.2.1.2.2.1, τ0.2.2.2.1.2.2.2), τ0.2.2.2.2))) else (s_X4_transpose_37 (fun v0 v1 => s_X4_transpose_27 n v0 v1) FU τ0 x1 (0 : Int32))
def s_X4_transpose (σ0 : zM)  : Option (Int32 × zM) :=
  if σ0.1.1 ≤ σ0.1.2.1 then ((s_X4_isWrong σ0 (0 : Int32)).bind fun z2 => if z2.1 = 0 then (s_X4_transpose_27 FU z2.2 (0 : Int32)) else (some ((0 : Int32), z2.2))) else ((s_X4_isWrong σ0 (1 : Int32)).bind fun z4 => if z4.1 = 0 then (s_X4_transpose_27 FU z4.2 (0 : Int32)) else (some ((0 : Int32), z4.2)))
def s_X4_total_4  : Nat → zM → Int32 → Int32 → Option (Int32)
  | 0, _, _, _ => none
  | n + 1, σ0, x1, x2 => if σ0.1.1 ≤ x2 then (some x1) else ((s_X4_rowSum σ0 x2).bind fun z2 => s_X4_total_4 n σ0 (x1 + z2) (x2 + 1))
def s_X4_total (σ0 : zM)  : Option (Int32) :=
  s_X4_total_4 FU σ0 (0 : Int32) (0 : Int32)
def s_X4_save_18  : Nat → zM → Int32 → Option (Int32 × zM)
  | 0, _, _ => none
  | n + 1, τ0, x1 => if (49 : Int32) ≤ x1 then ((s_X4_total τ0).bind fun z2 => some (z2, τ0)) else (if ib x1 49 = true then if ib x1 49 = true then if ib x1 49 = true then if ib x1 49 = true then s_X4_save_18 n (τ0.1, (τ0.2.1.1, τ0.2.1.2.1, (upd τ0.2.1.2.2.1 x1.toNatClampNeg (τ0.1.2.2.1 x1.toNatClampNeg)), (upd τ0.2.1.2.2.2 x1.toNatClampNeg ((τ0.1.2.2.2 x1.toNatClampNeg) &&& 1))), τ0.2.2.1, τ0.2.2.2.1, τ0.2.2.2.2) (x1 + 1) else none else none else none else none)
def s_X4_save (σ0 : zM)  : Option (Int32 × zM) :=
  s_X4_save_18 FU (σ0.1, (σ0.1.1, σ0.1.2.1, σ0.2.1.2.2.1, σ0.2.1.2.2.2), σ0.2.2.1, σ0.2.2.2.1, σ0.2.2.2.2) (0 : Int32)
def s_X4_restore_18  : Nat → zM → Int32 → Option (Int32 × zM)
  | 0, _, _ => none
  | n + 1, τ0, x1 => if (49 : Int32) ≤ x1 then (some (τ0.1.1, (τ0.1, τ0.2.1, τ0.2.2.1, ((-1 : Int32), τ0.2.2.2.1.2.1, τ0.2.2.2.1.2.2.1, τ0.2.2.2.1.2.2.2), τ0.2.2.2.2))) else (if ib x1 49 = true then if ib x1 49 = true then if ib x1 49 = true then if ib x1 49 = true then s_X4_restore_18 n ((τ0.1.1, τ0.1.2.1, (upd τ0.1.2.2.1 x1.toNatClampNeg (τ0.2.1.2.2.1 x1.toNatClampNeg)), (upd τ0.1.2.2.2 x1.toNatClampNeg ((τ0.2.1.2.2.2 x1.toNatClampNeg) &&& 1))), τ0.2.1, τ0.2.2.1, τ0.2.2.2.1, τ0.2.2.2.2) (x1 + 1) else none else none else none else none)
def s_X4_restore (σ0 : zM)  : Option (Int32 × zM) :=
  s_X4_restore_18 FU ((σ0.2.1.1, σ0.2.1.2.1, σ0.1.2.2.1, σ0.1.2.2.2), σ0.2.1, σ0.2.2.1, σ0.2.2.2.1, σ0.2.2.2.2) (0 : Int32)
def s_X4_distance_38 (k28 : (zM → Int32 → Int32 → Option (Int32))) : Nat → zM → Int32 → Int32 → Int32 → Option (Int32)
  | 0, _, _, _, _ => none
  | n + 1, σ0, x1, x2, x3 => if σ0.1.1 ≤ x3 then (k28 σ0 x1 (x2 + 1)) else ((s_X4_cost σ0 x2 x3).bind fun z2 => (s_X4_savedCost σ0 x2 x3).bind fun z3 => if 0 ≤ (z2 - z3) then (s_X4_distance_38 k28 n σ0 (x1 + (z2 - z3)) x2 (x3 + 1)) else (s_X4_distance_38 k28 n σ0 (x1 + (-(z2 - z3))) x2 (x3 + 1)))
def s_X4_distance_28  : Nat → zM → Int32 → Int32 → Option (Int32)
  | 0, _, _, _ => none
  | n + 1, σ0, x1, x2 => if σ0.1.1 ≤ x2 then (some x1) else (s_X4_distance_38 (fun v0 v1 v2 => s_X4_distance_28 n v0 v1 v2) FU σ0 x1 x2 (0 : Int32))
def s_X4_distance (σ0 : zM)  : Option (Int32) :=
  if σ0.1.1 = σ0.2.1.1 then (if σ0.1.2.1 = σ0.2.1.2.1 then (s_X4_distance_28 FU σ0 (0 : Int32) (0 : Int32)) else (some (-1 : Int32))) else (some (-1 : Int32))
def s_X4_rows (σ0 : zM)  : Option (Int32) :=
  some σ0.1.1
def s_X4_columns (σ0 : zM)  : Option (Int32) :=
  some σ0.1.2.1
def s_X4_forbiddenCount (σ0 : zM)  : Option (Int32) :=
  (s_X4_forbiddenMany σ0).bind fun z1 => some z1
def s_X4_totalCost (σ0 : zM)  : Option (Int32) :=
  (s_X4_total σ0).bind fun z1 => some z1
def s_X4_minimum (σ0 : zM)  : Option (Int32 × zM) :=
  (s_X4_look_ σ0).bind fun z1 => some (z1.2.2.1.2.2.2.2.1, z1)
def s_X4_savedMinimum_12 (k2 : (zM → Int32 → Option (Int32 × zM))) : Nat → zM → Int32 → Int32 → Option (Int32 × zM)
  | 0, _, _, _ => none
  | n + 1, τ0, x1, x2 => if τ0.2.1.1 ≤ x2 then (k2 τ0 (x1 + 1)) else ((s_X4_savedCost τ0 x1 x2).bind fun z2 => if ib (((7 : Int32) * x1) + x2) 49 = true then s_X4_savedMinimum_12 k2 n (τ0.1, τ0.2.1, ((upd τ0.2.2.1.1 (((7 : Int32) * x1) + x2).toNatClampNeg z2), τ0.2.2.1.2.1, τ0.2.2.1.2.2.1, τ0.2.2.1.2.2.2.1, τ0.2.2.1.2.2.2.2.1, τ0.2.2.1.2.2.2.2.2.1, τ0.2.2.1.2.2.2.2.2.2.1, τ0.2.2.1.2.2.2.2.2.2.2.1, τ0.2.2.1.2.2.2.2.2.2.2.2.1, τ0.2.2.1.2.2.2.2.2.2.2.2.2.1, τ0.2.2.1.2.2.2.2.2.2.2.2.2.2), τ0.2.2.2.1, τ0.2.2.2.2) x1 (x2 + 1) else none)
def s_X4_savedMinimum_2  : Nat → zM → Int32 → Option (Int32 × zM)
  | 0, _, _ => none
  | n + 1, τ0, x1 => if τ0.2.1.1 ≤ x1 then ((s_X4_look τ0 τ0.2.1.1).bind fun z2 => some (z2.2.2.1.2.2.2.2.1, z2)) else (s_X4_savedMinimum_12 (fun v0 v1 => s_X4_savedMinimum_2 n v0 v1) FU τ0 x1 (0 : Int32))
def s_X4_savedMinimum (σ0 : zM)  : Option (Int32 × zM) :=
  s_X4_savedMinimum_2 FU σ0 (0 : Int32)
def s_X4_assigned_14  (τ0 : zM) (x1 : Int32) (y0 : Int32) : Option (Int32 × zM) :=
  (s_X4_isWrong τ0 y0).bind fun z1 => if z1.1 = 0 then ((s_X4_look_ z1.2).bind fun z3 => if ib x1 7 = true then some ((z3.2.2.1.2.2.2.1 x1.toNatClampNeg), z3) else none) else (some ((0 : Int32), z1.2))
def s_X4_assigned (σ0 : zM) (p0 : Int32) : Option (Int32 × zM) :=
  (s_X4_isRow σ0 p0).bind fun z1 => if z1 = 0 then (s_X4_assigned_14 σ0 p0 (1 : Int32)) else (s_X4_assigned_14 σ0 p0 (0 : Int32))
def s_X4_optimalCount (σ0 : zM)  : Option (Int32 × zM) :=
  (s_X4_look_ σ0).bind fun z1 => some (z1.2.2.1.2.2.2.2.2.1, z1)
def s_X4_rowPotential_14  (τ0 : zM) (x1 : Int32) (y0 : Int32) : Option (Int32 × zM) :=
  (s_X4_isWrong τ0 y0).bind fun z1 => if z1.1 = 0 then ((s_X4_findPotentials z1.2).bind fun z3 => if ib x1 7 = true then some ((z3.2.2.1.2.2.2.2.2.2.2.2.2.1 x1.toNatClampNeg), z3) else none) else (some ((0 : Int32), z1.2))
def s_X4_rowPotential (σ0 : zM) (p0 : Int32) : Option (Int32 × zM) :=
  (s_X4_isRow σ0 p0).bind fun z1 => if z1 = 0 then (s_X4_rowPotential_14 σ0 p0 (1 : Int32)) else (s_X4_rowPotential_14 σ0 p0 (0 : Int32))
def s_X4_columnPotential_14  (τ0 : zM) (x1 : Int32) (y0 : Int32) : Option (Int32 × zM) :=
  (s_X4_isWrong τ0 y0).bind fun z1 => if z1.1 = 0 then ((s_X4_findPotentials z1.2).bind fun z3 => if ib x1 7 = true then some ((z3.2.2.1.2.2.2.2.2.2.2.2.2.2 x1.toNatClampNeg), z3) else none) else (some ((0 : Int32), z1.2))
def s_X4_columnPotential (σ0 : zM) (p0 : Int32) : Option (Int32 × zM) :=
  (s_X4_isRow σ0 p0).bind fun z1 => if z1 = 0 then (s_X4_columnPotential_14 σ0 p0 (1 : Int32)) else (s_X4_columnPotential_14 σ0 p0 (0 : Int32))
def s_X4_reducedCost_22  (τ0 : zM) (x1 : Int32) (x2 : Int32) (y0 : Int32) : Option (Int32 × zM) :=
  (s_X4_isWrong τ0 y0).bind fun z1 => if z1.1 = 0 then ((s_X4_findPotentials z1.2).bind fun z3 => (s_X4_reduced z3 x1 x2).bind fun z4 => some (z4, z3)) else (some ((0 : Int32), z1.2))
def s_X4_reducedCost_17  (τ0 : zM) (x1 : Int32) (x2 : Int32) : Option (Int32 × zM) :=
  s_X4_reducedCost_22 τ0 x1 x2 (1 : Int32)
def s_X4_reducedCost (σ0 : zM) (p0 : Int32) (p1 : Int32) : Option (Int32 × zM) :=
  (s_X4_isRow σ0 p0).bind fun z1 => if z1 = 0 then (s_X4_reducedCost_17 σ0 p0 p1) else ((s_X4_isRow σ0 p1).bind fun z3 => if z3 = 0 then (s_X4_reducedCost_17 σ0 p0 p1) else (s_X4_reducedCost_22 σ0 p0 p1 (0 : Int32)))
def s_X4_minimumWith_22  (τ0 : zM) (x1 : Int32) (x2 : Int32) (y0 : Int32) : Option (Int32 × zM) :=
  (s_X4_isWrong τ0 y0).bind fun z1 => if z1.1 = 0 then ((s_X4_look_ z1.2).bind fun z3 => if ib (((7 : Int32) * x1) + x2) 49 = true then some ((z3.2.2.1.2.1 (((7 : Int32) * x1) + x2).toNatClampNeg), z3) else none) else (some ((0 : Int32), z1.2))
def s_X4_minimumWith_17  (τ0 : zM) (x1 : Int32) (x2 : Int32) : Option (Int32 × zM) :=
  s_X4_minimumWith_22 τ0 x1 x2 (1 : Int32)
def s_X4_minimumWith (σ0 : zM) (p0 : Int32) (p1 : Int32) : Option (Int32 × zM) :=
  (s_X4_isRow σ0 p0).bind fun z1 => if z1 = 0 then (s_X4_minimumWith_17 σ0 p0 p1) else ((s_X4_isRow σ0 p1).bind fun z3 => if z3 = 0 then (s_X4_minimumWith_17 σ0 p0 p1) else (s_X4_minimumWith_22 σ0 p0 p1 (0 : Int32)))
def s_X4_minimumWithout_22  (τ0 : zM) (x1 : Int32) (x2 : Int32) (y0 : Int32) : Option (Int32 × zM) :=
  (s_X4_isWrong τ0 y0).bind fun z1 => if z1.1 = 0 then ((s_X4_look_ z1.2).bind fun z3 => if z3.1.1 = (1 : Int32) then (some ((-1 : Int32), z3)) else ((s_X4_without z3 x1 x2).bind fun z5 => some (z5, z3))) else (some ((0 : Int32), z1.2))
def s_X4_minimumWithout_17  (τ0 : zM) (x1 : Int32) (x2 : Int32) : Option (Int32 × zM) :=
  s_X4_minimumWithout_22 τ0 x1 x2 (1 : Int32)
def s_X4_minimumWithout (σ0 : zM) (p0 : Int32) (p1 : Int32) : Option (Int32 × zM) :=
  (s_X4_isRow σ0 p0).bind fun z1 => if z1 = 0 then (s_X4_minimumWithout_17 σ0 p0 p1) else ((s_X4_isRow σ0 p1).bind fun z3 => if z3 = 0 then (s_X4_minimumWithout_17 σ0 p0 p1) else (s_X4_minimumWithout_22 σ0 p0 p1 (0 : Int32)))
def s_X4_minimumIfCost_45  (τ0 : zM) (x1 : Int32) (x2 : Int32) (x3 : Int32) (y0 : Int32) : Option (Int32 × zM) :=
  (s_X4_isWrong τ0 y0).bind fun z1 => if z1.1 = 0 then ((s_X4_take z1.2).bind fun z3 => if ib (((7 : Int32) * x1) + x2) 49 = true then (s_X4_look (z3.1, z3.2.1, ((upd z3.2.2.1.1 (((7 : Int32) * x1) + x2).toNatClampNeg x3), z3.2.2.1.2.1, z3.2.2.1.2.2.1, z3.2.2.1.2.2.2.1, z3.2.2.1.2.2.2.2.1, z3.2.2.1.2.2.2.2.2.1, z3.2.2.1.2.2.2.2.2.2.1, z3.2.2.1.2.2.2.2.2.2.2.1, z3.2.2.1.2.2.2.2.2.2.2.2.1, z3.2.2.1.2.2.2.2.2.2.2.2.2.1, z3.2.2.1.2.2.2.2.2.2.2.2.2.2), z3.2.2.2.1, z3.2.2.2.2) z3.1.1).bind fun z5 => some (z5.2.2.1.2.2.2.2.1, z5) else none) else (some ((0 : Int32), z1.2))
def s_X4_minimumIfCost_17  (τ0 : zM) (x1 : Int32) (x2 : Int32) (x3 : Int32) : Option (Int32 × zM) :=
  s_X4_minimumIfCost_45 τ0 x1 x2 x3 (1 : Int32)
def s_X4_minimumIfCost (σ0 : zM) (p0 : Int32) (p1 : Int32) (p2 : Int32) : Option (Int32 × zM) :=
  (s_X4_isRow σ0 p0).bind fun z1 => if z1 = 0 then (s_X4_minimumIfCost_17 σ0 p0 p1 p2) else ((s_X4_isReal σ0 p1).bind fun z3 => if z3 = 0 then (s_X4_minimumIfCost_17 σ0 p0 p1 p2) else ((s_X4_isIn p2.toInt64 (0 : Int64) (99 : Int64)).bind fun z5 => if z5 = 0 then (if p2 = (1000 : Int32) then (s_X4_minimumIfCost_45 σ0 p0 p1 p2 (0 : Int32)) else (s_X4_minimumIfCost_45 σ0 p0 p1 p2 (2 : Int32))) else (s_X4_minimumIfCost_45 σ0 p0 p1 p2 (0 : Int32))))
def s_X4_secondBest (σ0 : zM)  : Option (Int32 × zM) :=
  (s_X4_look_ σ0).bind fun z1 => if z1.1.1 = (1 : Int32) then (some ((-1 : Int32), z1)) else (some (z1.2.2.1.2.2.2.2.2.2.1, z1))
def s_X4_maximum (σ0 : zM)  : Option (Int32 × zM) :=
  (s_X4_look_ σ0).bind fun z1 => some (z1.2.2.1.2.2.2.2.2.2.2.1, z1)
def s_X4_bottleneck (σ0 : zM)  : Option (Int32 × zM) :=
  (s_X4_look_ σ0).bind fun z1 => some (z1.2.2.1.2.2.2.2.2.2.2.2.1, z1)
def s_X4_fits_18  (τ0 : zM) (x1 : Int32) (y0 : Int32) : Option (Int32 × zM) :=
  (s_X4_isWrong τ0 y0).bind fun z1 => if z1.1 = 0 then ((s_X4_look_ z1.2).bind fun z3 => if x1 < z3.2.2.1.2.2.2.2.2.2.2.2.1 then (some ((0 : Int32), z3)) else (some ((1 : Int32), z3))) else (some ((0 : Int32), z1.2))
def s_X4_fits (σ0 : zM) (p0 : Int32) : Option (Int32 × zM) :=
  (s_X4_isIn p0.toInt64 (0 : Int64) (1000 : Int64)).bind fun z1 => if z1 = 0 then (s_X4_fits_18 σ0 p0 (1 : Int32)) else (s_X4_fits_18 σ0 p0 (0 : Int32))
def s_X4_countWithin_44  : Nat → zM → Int32 → Int32 → Int32 → Option (Int32 × zM)
  | 0, _, _, _, _ => none
  | n + 1, τ0, x1, x2, x3 => if x3 ≤ 0 then (some (x2, τ0)) else ((s_X4_sum τ0 τ0.1.1).bind fun z2 => if x1 < z2 then ((s_X4_goOn τ0 τ0.1.1).bind fun z4 => s_X4_countWithin_44 n z4 x1 (x2 + (0 : Int32)) (x3 + (-1))) else ((s_X4_goOn τ0 τ0.1.1).bind fun z5 => s_X4_countWithin_44 n z5 x1 (x2 + (1 : Int32)) (x3 + (-1))))
def s_X4_countWithin_18  (τ0 : zM) (x1 : Int32) (y0 : Int32) : Option (Int32 × zM) :=
  (s_X4_isWrong τ0 y0).bind fun z1 => if z1.1 = 0 then ((s_X4_take z1.2).bind fun z3 => (s_X4_begin z3).bind fun z4 => (s_X4_factorial 12 z4.1.1).bind fun z5 => s_X4_countWithin_44 FU z4 x1 (0 : Int32) z5) else (some ((0 : Int32), z1.2))
def s_X4_countWithin (σ0 : zM) (p0 : Int32) : Option (Int32 × zM) :=
  (s_X4_isIn p0.toInt64 (0 : Int64) (7000 : Int64)).bind fun z1 => if z1 = 0 then (s_X4_countWithin_18 σ0 p0 (1 : Int32)) else (s_X4_countWithin_18 σ0 p0 (0 : Int32))
def s_X4_sumOf_87  (τ0 : zM) (x2 : Int32) (x4 : Int32) : Option (Int32 × zM) :=
  if x2 = 0 then ((s_X4_isWrong τ0 (0 : Int32)).bind fun z2 => if z2.1 = 0 then (some (x4, z2.2)) else (some ((0 : Int32), z2.2))) else ((s_X4_isWrong τ0 (1 : Int32)).bind fun z4 => if z4.1 = 0 then (some (x4, z4.2)) else (some ((0 : Int32), z4.2)))
def s_X4_sumOf_54 (k15 : (zM → Int32 → Int32 → Int32 → Int32 → Option (Int32 × zM))) (τ0 : zM) (x2 : Int32) (x3 : Int32) (x4 : Int32) (x5 : Int32) (x6 : Int32) : Option (Int32 × zM) :=
  if 0 ≤ x2 then ((s_X4_cost τ0 x5 x6).bind fun z2 => k15 τ0 x2 (x3 ||| ((1 : Int32) <<< (x6 &&& 31))) (x4 + z2) (x5 + (-1))) else (s_X4_sumOf_87 τ0 x2 x4)
def s_X4_sumOf_52 (k15 : (zM → Int32 → Int32 → Int32 → Int32 → Option (Int32 × zM))) (τ0 : zM) (x3 : Int32) (x4 : Int32) (x5 : Int32) (x6 : Int32) : Option (Int32 × zM) :=
  s_X4_sumOf_54 k15 τ0 (-1 : Int32) x3 x4 x5 x6
def s_X4_sumOf_15  : Nat → zM → Int32 → Int32 → Int32 → Int32 → Option (Int32 × zM)
  | 0, _, _, _, _, _ => none
  | n + 1, τ0, x2, x3, x4, x5 => if x5 < 0 then (s_X4_sumOf_87 τ0 x2 x4) else ((s_X4_isRow τ0 ((x2 - x2 / (10 : Int32) * (10 : Int32)) - (1 : Int32))).bind fun z2 => if z2 = 0 then (s_X4_sumOf_52 (fun v0 v1 v2 v3 v4 => s_X4_sumOf_15 n v0 v1 v2 v3 v4) τ0 x3 x4 x5 ((x2 - x2 / (10 : Int32) * (10 : Int32)) - (1 : Int32))) else (if ((x3 >>> (((x2 - x2 / (10 : Int32) * (10 : Int32)) - (1 : Int32)) &&& 31)) &&& (1 : Int32)) = (1 : Int32) then (s_X4_sumOf_52 (fun v0 v1 v2 v3 v4 => s_X4_sumOf_15 n v0 v1 v2 v3 v4) τ0 x3 x4 x5 ((x2 - x2 / (10 : Int32) * (10 : Int32)) - (1 : Int32))) else (s_X4_sumOf_54 (fun v0 v1 v2 v3 v4 => s_X4_sumOf_15 n v0 v1 v2 v3 v4) τ0 (x2 / (10 : Int32)) x3 x4 x5 ((x2 - x2 / (10 : Int32) * (10 : Int32)) - (1 : Int32)))))
def s_X4_sumOf (σ0 : zM) (p0 : Int32) : Option (Int32 × zM) :=
  s_X4_sumOf_15 FU σ0 p0 (0 : Int32) (0 : Int32) (σ0.1.1 - (1 : Int32))
def s_X4_startEnumeration_15  (τ0 : zM) (y0 : Int32) : Option (Int32 × zM) :=
  (s_X4_isWrong τ0 y0).bind fun z1 => if z1.1 = 0 then ((s_X4_factorial 12 z1.2.1.1).bind fun z3 => some (z3, (z1.2.1, z1.2.2.1, z1.2.2.2.1, ((0 : Int32), (-1 : Int32), (0 : Int32), z1.2.2.2.2.1.2.2.2), z1.2.2.2.2.2))) else (some ((0 : Int32), z1.2))
def s_X4_startEnumeration (σ0 : zM)  : Option (Int32 × zM) :=
  if σ0.1.1 ≤ (6 : Int32) then (s_X4_startEnumeration_15 σ0 (0 : Int32)) else (s_X4_startEnumeration_15 σ0 (1 : Int32))
def s_X4_nextSum_127 (k54 : (zM → Int32 → Int32 → Int32 → Option (Int32 × zM))) : Nat → zM → Int32 → Int32 → Int32 → Int32 → Option (Int32 × zM)
  | 0, _, _, _, _, _ => none
  | n + 1, τ0, x1, x2, x3, x6 => if τ0.1.1 ≤ x6 then ((s_X4_goOn τ0 τ0.1.1).bind fun z2 => k54 z2 x1 x2 (x3 + 1)) else (if ib x6 7 = true then if ib x6 7 = true then s_X4_nextSum_127 k54 n (τ0.1, τ0.2.1, τ0.2.2.1, (τ0.2.2.2.1.1, τ0.2.2.2.1.2.1, τ0.2.2.2.1.2.2.1, (upd τ0.2.2.2.1.2.2.2 x6.toNatClampNeg (τ0.2.2.1.2.2.1 x6.toNatClampNeg))), τ0.2.2.2.2) x1 x2 x3 (x6 + 1) else none else none)
def s_X4_nextSum_106 (k54 : (zM → Int32 → Int32 → Int32 → Option (Int32 × zM))) (τ0 : zM) (x1 : Int32) (x2 : Int32) (x3 : Int32) (x4 : Int32) (y0 : Int32) : Option (Int32 × zM) :=
  if y0 = 0 then ((s_X4_goOn τ0 τ0.1.1).bind fun z2 => k54 z2 x1 x2 (x3 + 1)) else (if x1 ≤ x4 then ((s_X4_goOn τ0 τ0.1.1).bind fun z4 => k54 z4 x1 x2 (x3 + 1)) else (s_X4_nextSum_127 k54 FU τ0 x4 x3 x3 (0 : Int32)))
def s_X4_nextSum_101 (k54 : (zM → Int32 → Int32 → Int32 → Option (Int32 × zM))) (τ0 : zM) (x1 : Int32) (x2 : Int32) (x3 : Int32) (x4 : Int32) : Option (Int32 × zM) :=
  s_X4_nextSum_106 k54 τ0 x1 x2 x3 x4 (1 : Int32)
def s_X4_nextSum_54  : Nat → zM → Int32 → Int32 → Int32 → Option (Int32 × zM)
  | 0, _, _, _, _ => none
  | n + 1, τ0, x1, x2, x3 => (s_X4_factorial 12 τ0.1.1).bind fun z1 => if z1 ≤ x3 then (some (x1, (τ0.1, τ0.2.1, τ0.2.2.1, ((τ0.2.2.2.1.1 + (1 : Int32)), x1, x2, τ0.2.2.2.1.2.2.2), τ0.2.2.2.2))) else ((s_X4_sum τ0 τ0.1.1).bind fun z3 => if τ0.2.2.2.1.2.1 < z3 then (s_X4_nextSum_101 (fun v0 v1 v2 v3 => s_X4_nextSum_54 n v0 v1 v2 v3) τ0 x1 x2 x3 z3) else (if z3 = τ0.2.2.2.1.2.1 then (if x3 ≤ τ0.2.2.2.1.2.2.1 then (s_X4_nextSum_106 (fun v0 v1 v2 v3 => s_X4_nextSum_54 n v0 v1 v2 v3) τ0 x1 x2 x3 z3 (0 : Int32)) else (s_X4_nextSum_101 (fun v0 v1 v2 v3 => s_X4_nextSum_54 n v0 v1 v2 v3) τ0 x1 x2 x3 z3)) else (s_X4_nextSum_106 (fun v0 v1 v2 v3 => s_X4_nextSum_54 n v0 v1 v2 v3) τ0 x1 x2 x3 z3 (0 : Int32))))
def s_X4_nextSum_31  (τ0 : zM) (y0 : Int32) : Option (Int32 × zM) :=
  (s_X4_isWrong τ0 y0).bind fun z1 => if z1.1 = 0 then ((s_X4_take z1.2).bind fun z3 => (s_X4_begin z3).bind fun z4 => s_X4_nextSum_54 FU z4 (1000000 : Int32) (0 : Int32) (0 : Int32)) else (some ((0 : Int32), z1.2))
def s_X4_nextSum (σ0 : zM)  : Option (Int32 × zM) :=
  if 0 ≤ σ0.2.2.2.1.1 then ((s_X4_factorial 12 σ0.1.1).bind fun z2 => if σ0.2.2.2.1.1 = z2 then (s_X4_nextSum_31 σ0 (2 : Int32)) else (s_X4_nextSum_31 σ0 (0 : Int32))) else (s_X4_nextSum_31 σ0 (1 : Int32))
def s_X4_currentColumn (σ0 : zM) (p0 : Int32) : Option (Int32 × zM) :=
  (s_X4_isRow σ0 p0).bind fun z1 => if z1 = 0 then ((s_X4_isWrong σ0 (1 : Int32)).bind fun z10 => if z10.1 = 0 then (if ib p0 7 = true then some ((z10.2.2.2.2.1.2.2.2 p0.toNatClampNeg), z10.2) else none) else (some ((0 : Int32), z10.2))) else (if (1 : Int32) ≤ σ0.2.2.2.1.1 then ((s_X4_isWrong σ0 (0 : Int32)).bind fun z4 => if z4.1 = 0 then (if ib p0 7 = true then some ((z4.2.2.2.2.1.2.2.2 p0.toNatClampNeg), z4.2) else none) else (some ((0 : Int32), z4.2))) else ((s_X4_isWrong σ0 (2 : Int32)).bind fun z7 => if z7.1 = 0 then (if ib p0 7 = true then some ((z7.2.2.2.2.1.2.2.2 p0.toNatClampNeg), z7.2) else none) else (some ((0 : Int32), z7.2))))
def s_X4_stepsMade (σ0 : zM)  : Option (Int32) :=
  some σ0.2.2.2.1.1
def s_X4_checksum_184 (k173 : (zM → Int64 → Int32 → Option (Int64 × zM))) : Nat → zM → Int64 → Int32 → Int32 → Option (Int64 × zM)
  | 0, _, _, _, _ => none
  | n + 1, τ0, x1, x3, x4 => if τ0.2.1.1 ≤ x4 then (k173 τ0 x1 (x3 + 1)) else ((s_X4_savedCost τ0 x3 x4).bind fun z2 => s_X4_checksum_184 k173 n τ0 (((31 : Int64) * x1) + z2.toInt64) x3 (x4 + 1))
def s_X4_checksum_173  : Nat → zM → Int64 → Int32 → Option (Int64 × zM)
  | 0, _, _, _ => none
  | n + 1, τ0, x1, x3 => if τ0.2.1.1 ≤ x3 then (some (x1, τ0)) else (s_X4_checksum_184 (fun v0 v1 v2 => s_X4_checksum_173 n v0 v1 v2) FU τ0 x1 x3 (0 : Int32))
def s_X4_checksum_121  : Nat → zM → Int64 → Int32 → Option (Int64 × zM)
  | 0, _, _, _ => none
  | n + 1, τ0, x1, x3 => if τ0.1.1 ≤ x3 then (s_X4_checksum_173 FU τ0 (((31 : Int64) * (((31 : Int64) * x1) + τ0.2.1.1.toInt64)) + τ0.2.1.2.1.toInt64) (0 : Int32)) else (if ib x3 7 = true then s_X4_checksum_121 n τ0 (((31 : Int64) * x1) + ((τ0.2.2.1.2.2.2.1 x3.toNatClampNeg).toInt64)) (x3 + 1) else none)
def s_X4_checksum_71 (k60 : (zM → Int64 → Int32 → Option (Int64 × zM))) : Nat → zM → Int64 → Int32 → Int32 → Option (Int64 × zM)
  | 0, _, _, _, _ => none
  | n + 1, τ0, x1, x3, x4 => if τ0.1.1 ≤ x4 then (k60 τ0 x1 (x3 + 1)) else ((s_X4_cost τ0 x3 x4).bind fun z2 => s_X4_checksum_71 k60 n τ0 (((31 : Int64) * x1) + z2.toInt64) x3 (x4 + 1))
def s_X4_checksum_60  : Nat → zM → Int64 → Int32 → Option (Int64 × zM)
  | 0, _, _, _ => none
  | n + 1, τ0, x1, x3 => if τ0.1.1 ≤ x3 then (s_X4_checksum_121 FU τ0 (((31 : Int64) * x1) + τ0.2.2.1.2.2.2.2.1.toInt64) (0 : Int32)) else (s_X4_checksum_71 (fun v0 v1 v2 => s_X4_checksum_60 n v0 v1 v2) FU τ0 x1 x3 (0 : Int32))
def s_X4_checksum (σ0 : zM)  : Option (Int64 × zM) :=
  (s_X4_look_ σ0).bind fun z1 => (s_X4_forbiddenMany z1).bind fun z2 => (s_X4_total z1).bind fun z3 => s_X4_checksum_60 FU z1 (((31 : Int64) * (((31 : Int64) * (((31 : Int64) * (((31 : Int64) * ((527 : Int64) + z1.1.1.toInt64)) + z1.1.2.1.toInt64)) + z2.toInt64)) + z3.toInt64)) + z1.2.2.2.1.1.toInt64) (0 : Int32)
def s_X4_isSound_128  (τ0 : zM) (x1 : Int32) (x2 : Int32) (y0 : Int32) : Option (Int32 × zM) :=
  if x2 = 0 then (some ((0 : Int32), τ0)) else (if x1 = τ0.2.2.1.2.2.2.2.1 then (if y0 = τ0.2.2.1.2.2.2.2.1 then ((s_X4_fits τ0 τ0.2.2.1.2.2.2.2.2.2.2.2.1).bind fun z4 => if z4.1 = 0 then (some ((0 : Int32), z4.2)) else (if z4.2.2.2.1.2.2.2.2.2.2.2.2.1 = 0 then (some ((1 : Int32), z4.2)) else ((s_X4_fits z4.2 (z4.2.2.2.1.2.2.2.2.2.2.2.2.1 - (1 : Int32))).bind fun z7 => if z7.1 = 0 then (some ((1 : Int32), z7.2)) else (some ((0 : Int32), z7.2))))) else (some ((0 : Int32), τ0))) else (some ((0 : Int32), τ0)))
def s_X4_isSound_59 (k10 : (zM → Int32 → Int32 → Int32 → Option (Int32 × zM))) : Nat → zM → Int32 → Int32 → Int32 → Int32 → Option (Int32 × zM)
  | 0, _, _, _, _, _ => none
  | n + 1, τ0, x1, x2, x3, x4 => if τ0.1.1 ≤ x4 then (k10 τ0 x1 x2 (x3 + 1)) else ((s_X4_reduced τ0 x3 x4).bind fun z2 => if z2 < 0 then (s_X4_isSound_59 k10 n τ0 x1 (x2 &&& (0 : Int32)) x3 (x4 + 1)) else (s_X4_isSound_59 k10 n τ0 x1 (x2 &&& (1 : Int32)) x3 (x4 + 1)))
def s_X4_isSound_10  : Nat → zM → Int32 → Int32 → Int32 → Option (Int32 × zM)
  | 0, _, _, _, _ => none
  | n + 1, τ0, x1, x2, x3 => if τ0.1.1 ≤ x3 then (if ib (0 : Int32) 49 = true then (s_X4_without τ0 (0 : Int32) (0 : Int32)).bind fun z3 => if z3 ≤ (τ0.2.2.1.2.1 (0 : Int32).toNatClampNeg) then ((s_X4_without τ0 (0 : Int32) (0 : Int32)).bind fun z5 => s_X4_isSound_128 τ0 x1 x2 z5) else (if ib (0 : Int32) 49 = true then s_X4_isSound_128 τ0 x1 x2 (τ0.2.2.1.2.1 (0 : Int32).toNatClampNeg) else none) else none) else (if ib x3 7 = true then if ib x3 7 = true then if ib x3 7 = true then (s_X4_reduced τ0 x3 (τ0.2.2.1.2.2.2.1 x3.toNatClampNeg)).bind fun z10 => if z10 = 0 then (s_X4_isSound_59 (fun v0 v1 v2 v3 => s_X4_isSound_10 n v0 v1 v2 v3) FU τ0 (x1 + ((τ0.2.2.1.2.2.2.2.2.2.2.2.2.1 x3.toNatClampNeg) + (τ0.2.2.1.2.2.2.2.2.2.2.2.2.2 x3.toNatClampNeg))) (x2 &&& (1 : Int32)) x3 (0 : Int32)) else (s_X4_isSound_59 (fun v0 v1 v2 v3 => s_X4_isSound_10 n v0 v1 v2 v3) FU τ0 (x1 + ((τ0.2.2.1.2.2.2.2.2.2.2.2.2.1 x3.toNatClampNeg) + (τ0.2.2.1.2.2.2.2.2.2.2.2.2.2 x3.toNatClampNeg))) (x2 &&& (0 : Int32)) x3 (0 : Int32)) else none else none else none)
def s_X4_isSound (σ0 : zM)  : Option (Int32 × zM) :=
  (s_X4_findPotentials σ0).bind fun z1 => s_X4_isSound_10 FU z1 (0 : Int32) (1 : Int32) (0 : Int32)
