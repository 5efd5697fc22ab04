-- the pure functions of all methods: class (X0-X5), reference (X6), JDK (J..); written by wip/tool (jw.py, split.py)
def fX3_isCell (p1 : Int32) : Option (Int32) :=
  if p1 < 0 then
  (some 0)
  else
  (if 77 < p1 then
  (some 0)
  else
  (nm (p1 - p1 / (10 : Int32) * (10 : Int32)) fun x3 =>
  if 7 < x3 then
  (some 0)
  else
  (some 1)))
def fX3_placeOf (p1 : Int32) : Option (Int32) :=
  nm (p1 / (10 : Int32)) fun x1 =>
  nm (x1 * (8 : Int32)) fun x2 =>
  nm (x2 + (p1 - p1 / (10 : Int32) * (10 : Int32))) fun x3 =>
  some x3
def fX3_cellOf (p1 : Int32) : Option (Int32) :=
  nm (p1 / (8 : Int32)) fun x1 =>
  nm (x1 * (10 : Int32)) fun x2 =>
  nm (x2 + (p1 - p1 / (8 : Int32) * (8 : Int32))) fun x3 =>
  some x3
def fX3_has (p1 : Int64) (p2 : Int32) : Option (Int32) :=
  nm ((p1.toUInt64 >>> (p2.toInt64.toUInt64 &&& Int64.toUInt64 63)).toInt64) fun x1 =>
  nm (x1 &&& (1 : Int64)) fun x2 =>
  if (lg_cmp x2 (0 : Int64)) = 0 then
  (some 0)
  else
  (some 1)
def fX3_isOutOfTen (p1 : Int32) : Option (Int32) :=
  if p1 < 0 then
  (some 0)
  else
  (if 10 < p1 then
  (some 0)
  else
  (some 1))
def fX3_reachBy (p1 : Int32) (p2 : Int32) : Option (Int32) :=
  nm (p2 + (1 : Int32)) fun x1 =>
  nm (x1 / (2 : Int32)) fun x2 =>
  if p1 = 1 then
  (some x2)
  else
  (if p1 = 2 then
  (nm (p2 - (1 : Int32)) fun x5 =>
  some x5)
  else
  (if p1 = 3 then
  (nm ((2 : Int32) * x2) fun x7 =>
  some x7)
  else
  (some p2)))
def fX3_onFrom (p1 : Int32) (p2 : Int32) : Option (Int32) :=
  nm (p1 / (8 : Int32)) fun x1 =>
  nm (p1 - p1 / (8 : Int32) * (8 : Int32)) fun x2 =>
  if p2 = 0 then
  (if 7 ≤ x2 then
  (some (-1))
  else
  (nm (p1 + (1 : Int32)) fun x5 =>
  some x5))
  else
  (if p2 = 1 then
  (if 7 ≤ x1 then
  (some (-1))
  else
  (nm (p1 + (8 : Int32)) fun x8 =>
  some x8))
  else
  (if p2 = 2 then
  (if x2 ≤ 0 then
  (some (-1))
  else
  (nm (p1 - (1 : Int32)) fun x11 =>
  some x11))
  else
  (if p2 = 3 then
  (if x1 ≤ 0 then
  (some (-1))
  else
  (nm (p1 - (8 : Int32)) fun x14 =>
  some x14))
  else
  (some (-1)))))
def fX3_spread (p1 : Int64) : Option (Int64) :=
  nm (p1 &&& (9187201950435737471 : Int64)) fun x1 =>
  nm (p1 ||| (x1 <<< ((1 : Int32).toInt64 &&& 63))) fun x2 =>
  nm (p1 &&& (-72340172838076674 : Int64)) fun x3 =>
  nm ((x3.toUInt64 >>> ((1 : Int32).toInt64.toUInt64 &&& Int64.toUInt64 63)).toInt64) fun x4 =>
  nm (x2 ||| x4) fun x5 =>
  nm (x5 ||| (p1 <<< ((8 : Int32).toInt64 &&& 63))) fun x6 =>
  nm ((p1.toUInt64 >>> ((8 : Int32).toInt64.toUInt64 &&& Int64.toUInt64 63)).toInt64) fun x7 =>
  nm (x6 ||| x7) fun x8 =>
  some x8
def fX3_fits (p1 : Int32) (p2 : Int32) : Option (Int32) :=
  if p1 = 0 then
  (if p2 < 0 then
  (some 0)
  else
  (if 3 < p2 then
  (some 0)
  else
  (some 1)))
  else
  (if p1 = 1 then
  (bd1 (fX3_isCell p2) fun r5 =>
  gb r5 <|
  some r5)
  else
  (if p1 = 2 then
  (if p2 < 0 then
  (some 0)
  else
  (if 4 ≤ p2 then
  (some 0)
  else
  (some 1)))
  else
  (if p1 = 3 then
  (if p2 < 1 then
  (some 0)
  else
  (if 9 < p2 then
  (some 0)
  else
  (some 1)))
  else
  (if p1 = 4 then
  (if p2 < 0 then
  (some 0)
  else
  (if 10 ≤ p2 then
  (some 0)
  else
  (some 1)))
  else
  (if p1 = 5 then
  (if p2 < 0 then
  (some 0)
  else
  (if 4 < p2 then
  (some 0)
  else
  (some 1)))
  else
  (some 0))))))
def fX3_lowest_L9 (K : Int32 → Int64 → Int64 → Option (Int64)) : Nat → Int32 → Int64 → Int64 → Option (Int64)
  | 0, _, _, _ => none
  | n + 1, v1, v2, v3 =>
    if 100 ≤ v1 then
    (K v1 v2 v3)
    else
    (if (lg_cmp v2 (0 : Int64)) = 0 then
    (K v1 v2 v3)
    else
    (gzl v2 <|
    nm (v3 - v3 / v2 * v2) fun x8 =>
    nm (v1 + 1) fun x9 =>
    fX3_lowest_L9 K n x9 x8 v2))
def fX3_lowest (p1 : Int64) (p2 : Int64) (p3 : Int32) : Option (Int64) :=
  fX3_lowest_L9 (fun v1 v2 v3 =>
  bd1 ((if p3 = 0 then
  (some p1)
  else
  (some p2)) : Option (Int64)) fun y10 =>
  if (lg_cmp v3 (0 : Int64)) = 0 then
  (some y10)
  else
  (gzl v3 <|
  nm (y10 / v3) fun x15 =>
  some x15)) 4096 0 p1 p2
def fJ13_bitCount_95d88 (p1 : Int64) : Option (Int32) :=
  nm ((p1.toUInt64 >>> ((1 : Int32).toInt64.toUInt64 &&& Int64.toUInt64 63)).toInt64) fun x1 =>
  nm (p1 - (x1 &&& (6148914691236517205 : Int64))) fun x2 =>
  nm (x2 &&& (3689348814741910323 : Int64)) fun x3 =>
  nm ((x2.toUInt64 >>> ((2 : Int32).toInt64.toUInt64 &&& Int64.toUInt64 63)).toInt64) fun x4 =>
  nm (x3 + (x4 &&& (3689348814741910323 : Int64))) fun x5 =>
  nm ((x5.toUInt64 >>> ((4 : Int32).toInt64.toUInt64 &&& Int64.toUInt64 63)).toInt64) fun x6 =>
  nm (x5 + x6) fun x7 =>
  nm (x7 &&& (1085102592571150095 : Int64)) fun x8 =>
  nm ((x8.toUInt64 >>> ((8 : Int32).toInt64.toUInt64 &&& Int64.toUInt64 63)).toInt64) fun x9 =>
  nm (x8 + x9) fun x10 =>
  nm ((x10.toUInt64 >>> ((16 : Int32).toInt64.toUInt64 &&& Int64.toUInt64 63)).toInt64) fun x11 =>
  nm (x10 + x11) fun x12 =>
  nm ((x12.toUInt64 >>> ((32 : Int32).toInt64.toUInt64 &&& Int64.toUInt64 63)).toInt64) fun x13 =>
  nm (x12 + x13) fun x14 =>
  nm (x14.toInt32) fun x15 =>
  nm (x15 &&& (127 : Int32)) fun x16 =>
  some x16
def fJ6_bitCount_0f7a4 (p1 : Int32) : Option (Int32) :=
  nm ((p1.toUInt32 >>> ((1 : Int32).toUInt32 &&& Int32.toUInt32 31)).toInt32) fun x1 =>
  nm (p1 - (x1 &&& (1431655765 : Int32))) fun x2 =>
  nm (x2 &&& (858993459 : Int32)) fun x3 =>
  nm ((x2.toUInt32 >>> ((2 : Int32).toUInt32 &&& Int32.toUInt32 31)).toInt32) fun x4 =>
  nm (x3 + (x4 &&& (858993459 : Int32))) fun x5 =>
  nm ((x5.toUInt32 >>> ((4 : Int32).toUInt32 &&& Int32.toUInt32 31)).toInt32) fun x6 =>
  nm (x5 + x6) fun x7 =>
  nm (x7 &&& (252645135 : Int32)) fun x8 =>
  nm ((x8.toUInt32 >>> ((8 : Int32).toUInt32 &&& Int32.toUInt32 31)).toInt32) fun x9 =>
  nm (x8 + x9) fun x10 =>
  nm ((x10.toUInt32 >>> ((16 : Int32).toUInt32 &&& Int32.toUInt32 31)).toInt32) fun x11 =>
  nm (x10 + x11) fun x12 =>
  nm (x12 &&& (63 : Int32)) fun x13 =>
  some x13
def fX4_renew_L17 (K : Int32 → ST → Option (ST)) : Nat → Int32 → ST → Option (ST)
  | 0, _, _ => none
  | n + 1, v4, s_5 =>
    if 40 ≤ v4 then
    (K v4 s_5)
    else
    (gd v4 40 <|
    nm (sCe' s_5 (upd (sCe s_5) v4.toNatClampNeg 0)) fun s_9 =>
    nm (v4 + 1) fun x10 =>
    fX4_renew_L17 K n x10 s_9)
def fX4_renew (p1 : Int32) (p2 : Int32) (s : ST) : Option (ST) :=
  nm (sIs' s 1) fun s_1 =>
  nm (sLa' s_1 p1) fun s_2 =>
  nm (sSz' s_2 p2) fun s_3 =>
  fX4_renew_L17 (fun v4 s_5 =>
  some s_5) 4096 0 s_3
def fX4_flawAt (p1 : Int32) (p2 : Int32) (s : ST) : Option (Int32) :=
  if (sIs s) = 0 then
  (some 1)
  else
  (if (sLa s) = p1 then
  (if p2 < 0 then
  (some 2)
  else
  (if p2 < (sSz s) then
  (some 0)
  else
  (some 2)))
  else
  (some 3))
def fX4_flawOfThree_L5 (s : ST) (p1 : Int32) (p2 : Int32) (K : Int32 → Int32 → Option (Int32)) : Nat → Int32 → Int32 → Option (Int32)
  | 0, _, _ => none
  | n + 1, v1, v2 =>
    if 3 ≤ v1 then
    (K v1 v2)
    else
    (if v2 = 0 then
    (nm (p2 + v1) fun x6 =>
    bd1 (fX4_flawAt p1 x6 s) fun r7 =>
    nm (v1 + 1) fun x9 =>
    fX4_flawOfThree_L5 s p1 p2 K n x9 r7)
    else
    (K v1 v2))
def fX4_flawOfThree (p1 : Int32) (p2 : Int32) (s : ST) : Option (Int32) :=
  fX4_flawOfThree_L5 s p1 p2 (fun v1 v2 =>
  some v2) 4096 0 0
def fX4_put (p1 : Int32) (p2 : Int32) (s : ST) : Option (ST) :=
  if p1 < 0 then
  (some s)
  else
  (if p1 < 40 then
  (if (sLa s) = 0 then
  (nm (p2.toInt8.toInt32) fun x4 =>
  gd p1 40 <|
  nm (sCe' s (upd (sCe s) p1.toNatClampNeg x4)) fun s_6 =>
  some s_6)
  else
  (if (sLa s) = 1 then
  (nm (p2.toInt16.toInt32) fun x8 =>
  gd p1 40 <|
  nm (sCe' s (upd (sCe s) p1.toNatClampNeg x8)) fun s_10 =>
  some s_10)
  else
  (gd p1 40 <|
  nm (sCe' s (upd (sCe s) p1.toNatClampNeg p2)) fun s_12 =>
  some s_12)))
  else
  (some s))
def fX4_cellAt (p1 : Int32) (s : ST) : Option (Int32) :=
  if p1 < 0 then
  (some 0)
  else
  (if p1 < 40 then
  (gd p1 40 <|
  nm (sCe s p1.toNatClampNeg) fun x4 =>
  some x4)
  else
  (some 0))
def fX0_clear_L22 (K : Int32 → CT → Option (CT)) : Nat → Int32 → CT → Option (CT)
  | 0, _, _ => none
  | n + 1, v5, c_6 =>
    if 10 ≤ v5 then
    (K v5 c_6)
    else
    (gd v5 10 <|
    nm (cWi' c_6 (upd (cWi c_6) v5.toNatClampNeg 4)) fun c_10 =>
    nm (v5 + 1) fun x11 =>
    fX0_clear_L22 K n x11 c_10)
def fX0_clear (c : CT) : Option (CT) :=
  nm (cW' c 0) fun c_1 =>
  nm (cSa' c_1 0) fun c_2 =>
  nm (cHe' c_2 0) fun c_3 =>
  nm (cSe' c_3 0) fun c_4 =>
  fX0_clear_L22 (fun v5 c_6 =>
  some c_6) 4096 0 c_4
def fX0_copyFrom_L49 (o : CT) (K : Int32 → CT → Option (CT)) : Nat → Int32 → CT → Option (CT)
  | 0, _, _ => none
  | n + 1, v6, c_7 =>
    if 5 ≤ v6 then
    (K v6 c_7)
    else
    (gd v6 5 <|
    gd v6 5 <|
    nm (cTo' c_7 (va_up (cTo c_7) v6.toNatClampNeg (va_cpy (cTo o v6.toNatClampNeg) (cTo c_7 v6.toNatClampNeg) 0 0 5))) fun c_14 =>
    nm (v6 + 1) fun x15 =>
    fX0_copyFrom_L49 o K n x15 c_14)
def fX0_copyFrom (c : CT) (o : CT) : Option (CT) :=
  nm (cW' c (cW o)) fun c_1 =>
  nm (cSa' c_1 (cSa o)) fun c_2 =>
  nm (cHe' c_2 (cHe o)) fun c_3 =>
  nm (cSe' c_3 (cSe o)) fun c_4 =>
  nm (cWi' c_4 (va_cpy (cWi o) (cWi c_4) 0 0 10)) fun c_5 =>
  fX0_copyFrom_L49 o (fun v6 c_7 =>
  nm (cAt' c_7 (va_cpy (cAt o) (cAt c_7) 0 0 4)) fun c_16 =>
  nm (cSs' c_16 (va_cpy (cSs o) (cSs c_16) 0 0 6)) fun c_17 =>
  nm (cSp' c_17 (va_cpy (cSp o) (cSp c_17) 0 0 6)) fun c_18 =>
  some c_18) 4096 0 c_5
def fX0_isSaying (p1 : Int32) (c : CT) : Option (Int32) :=
  if p1 < 0 then
  (some 0)
  else
  (if (cSa c) ≤ p1 then
  (some 0)
  else
  (some 1))
def fX0_isHearer (p1 : Int32) (c : CT) : Option (Int32) :=
  if p1 < 0 then
  (some 0)
  else
  (if (cHe c) ≤ p1 then
  (some 0)
  else
  (some 1))
def fX0_addPlain (p1 : Int32) (p2 : Int32) (p3 : Int32) (c : CT) : Option (Int32 × CT) :=
  bd1 (fX3_fits 1 p1) fun r1 =>
  if r1 = 0 then
  (some ((-1), c))
  else
  (bd1 (fX3_fits 2 p2) fun r4 =>
  if r4 = 0 then
  (some ((-1), c))
  else
  (bd1 (fX3_fits 3 p3) fun r7 =>
  if r7 = 0 then
  (some ((-1), c))
  else
  (if (cSa c) < 5 then
  (gd (cSa c) 5 <|
  nm (cTo' c (va_up (cTo c) ((cSa c).toNatClampNeg) (upd (cTo c ((cSa c).toNatClampNeg)) 0 0))) fun c_13 =>
  nm (cTo' c_13 (va_up (cTo c_13) ((cSa c).toNatClampNeg) (upd (cTo c_13 ((cSa c).toNatClampNeg)) 1 p1))) fun c_14 =>
  nm (cTo' c_14 (va_up (cTo c_14) ((cSa c).toNatClampNeg) (upd (cTo c_14 ((cSa c).toNatClampNeg)) 2 p2))) fun c_15 =>
  nm (cTo' c_15 (va_up (cTo c_15) ((cSa c).toNatClampNeg) (upd (cTo c_15 ((cSa c).toNatClampNeg)) 3 p3))) fun c_16 =>
  nm (cTo' c_16 (va_up (cTo c_16) ((cSa c).toNatClampNeg) (upd (cTo c_16 ((cSa c).toNatClampNeg)) 4 0))) fun c_17 =>
  nm ((cSa c_17) + (1 : Int32)) fun x18 =>
  nm (cSa' c_17 x18) fun c_19 =>
  nm ((cSa c_19) - (1 : Int32)) fun x20 =>
  some (x20, c_19))
  else
  (some ((-3), c)))))
def fX0_windyHours_L4 (c : CT) (K : Int32 → Int32 → Option (Int32)) : Nat → Int32 → Int32 → Option (Int32)
  | 0, _, _ => none
  | n + 1, v1, v2 =>
    if 10 ≤ v1 then
    (K v1 v2)
    else
    (gd v1 10 <|
    nm (cWi c v1.toNatClampNeg) fun x6 =>
    if x6 = 4 then
    (nm (v1 + 1) fun x8 =>
    fX0_windyHours_L4 c K n x8 v2)
    else
    (nm (v2 ||| ((1 : Int32) <<< (v1 &&& 31))) fun x9 =>
    nm (v1 + 1) fun x10 =>
    fX0_windyHours_L4 c K n x10 x9))
def fX0_windyHours (c : CT) : Option (Int32) :=
  fX0_windyHours_L4 c (fun v1 v2 =>
  some v2) 4096 0 0
def fX0_hearersIn_L4 (c : CT) (p1 : Int32) (K : Int32 → Int32 → Option (Int32)) : Nat → Int32 → Int32 → Option (Int32)
  | 0, _, _ => none
  | n + 1, v1, v2 =>
    if (cHe c) ≤ v1 then
    (K v1 v2)
    else
    (gd v1 4 <|
    nm (cAt c v1.toNatClampNeg) fun x6 =>
    bd1 (fX3_placeOf x6) fun r7 =>
    if r7 = p1 then
    (nm (v2 + 1) fun x11 =>
    nm (v1 + 1) fun x12 =>
    fX0_hearersIn_L4 c p1 K n x12 x11)
    else
    (nm (v1 + 1) fun x10 =>
    fX0_hearersIn_L4 c p1 K n x10 v2))
def fX0_hearersIn (p1 : Int32) (c : CT) : Option (Int32) :=
  fX0_hearersIn_L4 c p1 (fun v1 v2 =>
  some v2) 4096 0 0
def fX0_allForces_L4 (c : CT) (K : Int32 → Int32 → Option (Int32)) : Nat → Int32 → Int32 → Option (Int32)
  | 0, _, _ => none
  | n + 1, v1, v2 =>
    if (cSa c) ≤ v1 then
    (K v1 v2)
    else
    (gd v1 5 <|
    nm (v2 + (cTo c v1.toNatClampNeg 3)) fun x7 =>
    nm (v1 + 1) fun x8 =>
    fX0_allForces_L4 c K n x8 x7)
def fX0_allForces (c : CT) : Option (Int32) :=
  fX0_allForces_L4 c (fun v1 v2 =>
  some v2) 4096 0 0
def fX1_begin_L44 (c : CT) (v4 : Int32) (K : Int32 → Int32 → DT → Option (DT)) : Nat → Int32 → Int32 → DT → Option (DT)
  | 0, _, _, _ => none
  | n + 1, v9, v10, d_11 =>
    if (dSa d_11) ≤ v9 then
    (K v9 v10 d_11)
    else
    (gd v9 5 <|
    nm (cTo c v9.toNatClampNeg 4) fun x16 =>
    if x16 = v4 then
    (if 5 ≤ v10 then
    (nm (v9 + 1) fun x20 =>
    fX1_begin_L44 c v4 K n x20 v10 d_11)
    else
    (gd v10 5 <|
    nm (dOr' d_11 (upd (dOr d_11) v10.toNatClampNeg v9)) fun d_22 =>
    nm (v10 + 1) fun x23 =>
    nm (v9 + 1) fun x24 =>
    fX1_begin_L44 c v4 K n x24 x23 d_22))
    else
    (nm (v9 + 1) fun x18 =>
    fX1_begin_L44 c v4 K n x18 v10 d_11))
def fX1_begin_L35 (c : CT) (K : Int32 → Int32 → DT → Option (DT)) : Nat → Int32 → Int32 → DT → Option (DT)
  | 0, _, _, _ => none
  | n + 1, v4, v5, d_6 =>
    if 10 ≤ v4 then
    (K v4 v5 d_6)
    else
    (fX1_begin_L44 c v4 (fun v9 v10 d_11 =>
    nm (v4 + 1) fun x25 =>
    fX1_begin_L35 c K n x25 v10 d_11) 4096 0 v5 d_6)
def fX1_begin (d : DT) (c : CT) : Option (DT) :=
  nm (dW' d (cW c)) fun d_1 =>
  nm (dSa' d_1 (cSa c)) fun d_2 =>
  nm (dWi' d_2 (va_cpy (cWi c) (dWi d_2) 0 0 10)) fun d_3 =>
  fX1_begin_L35 c (fun v4 v5 d_6 =>
  some d_6) 4096 0 0 d_3
def fX1_isOpen (p1 : Int32) (p2 : Int32) (d : DT) : Option (Int32) :=
  if p1 < 0 then
  (some 0)
  else
  (if p2 = 3 then
  (some 1)
  else
  (bd1 (fX3_has (dW d) p1) fun r3 =>
  if r3 = 0 then
  (some 1)
  else
  (some 0)))
def fX1_comeDown_L29 (d : DT) (c : CT) (p2 : Int32) (r5 : Int32) (K : Int32 → Int32 → Option (DT)) : Nat → Int32 → Int32 → Option (DT)
  | 0, _, _ => none
  | n + 1, v10, v11 =>
    if r5 ≤ v10 then
    (K v10 v11)
    else
    (nm (cTo c p2.toNatClampNeg 2) fun x14 =>
    bd1 (fX3_onFrom v11 x14) fun r15 =>
    nm (cTo c p2.toNatClampNeg 0) fun x17 =>
    bd1 (fX1_isOpen r15 x17 d) fun r18 =>
    if r18 = 0 then
    (K v10 v11)
    else
    (nm (v10 + 1) fun x21 =>
    fX1_comeDown_L29 d c p2 r5 K n x21 r15))
def fX1_comeDown (p2 : Int32) (d : DT) (c : CT) : Option (DT) :=
  gd p2 5 <|
  nm (cTo c p2.toNatClampNeg 0) fun x3 =>
  nm (cTo c p2.toNatClampNeg 3) fun x4 =>
  bd1 (fX3_reachBy x3 x4) fun r5 =>
  nm (cTo c p2.toNatClampNeg 1) fun x7 =>
  bd1 (fX3_placeOf x7) fun r8 =>
  fX1_comeDown_L29 d c p2 r5 (fun v10 v11 =>
  gd p2 5 <|
  nm (dPl' d (upd (dPl d) p2.toNatClampNeg v11)) fun d_23 =>
  gd p2 5 <|
  nm (dSt' d_23 (upd (dSt d_23) p2.toNatClampNeg v10)) fun d_25 =>
  nm (cTo c p2.toNatClampNeg 4) fun x26 =>
  nm (x26 + (v10 / (2 : Int32))) fun x27 =>
  nm (if x27 < (9 : Int32) then x27 else (9 : Int32)) fun x28 =>
  gd p2 5 <|
  nm (dHo' d_25 (upd (dHo d_25) p2.toNatClampNeg x28)) fun d_30 =>
  some d_30) 4096 0 r8
def fX1_land (p2 : Int32) (d : DT) (c : CT) : Option (DT) :=
  gd p2 5 <|
  nm (cTo c p2.toNatClampNeg 0) fun x3 =>
  gd p2 5 <|
  nm (dPl d p2.toNatClampNeg) fun x5 =>
  gd p2 5 <|
  nm (dHo d p2.toNatClampNeg) fun x7 =>
  gd x7 10 <|
  nm (dWi d x7.toNatClampNeg) fun x9 =>
  bd1 (fX3_onFrom x5 x9) fun r10 =>
  bd1 (fX1_isOpen r10 x3 d) fun r12 =>
  bd1 ((if r12 = 0 then
  (some d)
  else
  (gd p2 5 <|
  nm (dPl' d (upd (dPl d) p2.toNatClampNeg r10)) fun d_26 =>
  some d_26)) : Option (DT)) fun d_14 =>
  if x3 = 2 then
  (bd1 (fJ13_bitCount_95d88 (dW d_14)) fun r18 =>
  if 12 ≤ r18 then
  (some d_14)
  else
  (gd p2 5 <|
  nm ((dW d_14) ||| ((1 : Int64) <<< ((dPl d_14 p2.toNatClampNeg).toInt64 &&& 63))) fun x22 =>
  nm (dW' d_14 x22) fun d_23 =>
  some d_23))
  else
  (some d_14)
def fX1_pass_L7 (c : CT) (K : Int32 → DT → Option (DT)) : Nat → Int32 → DT → Option (DT)
  | 0, _, _ => none
  | n + 1, v3, d_4 =>
    if (dSa d_4) ≤ v3 then
    (K v3 d_4)
    else
    (gd v3 5 <|
    nm (dOr d_4 v3.toNatClampNeg) fun x8 =>
    bd1 (fX1_comeDown x8 d_4 c) fun d_9 =>
    gd v3 5 <|
    nm (dOr d_9 v3.toNatClampNeg) fun x12 =>
    bd1 (fX1_land x12 d_9 c) fun d_13 =>
    nm (v3 + 1) fun x15 =>
    fX1_pass_L7 c K n x15 d_13)
def fX1_pass (d : DT) (c : CT) : Option (DT) :=
  bd1 (fX1_begin d c) fun d_1 =>
  fX1_pass_L7 c (fun v3 d_4 =>
  some d_4) 4096 0 d_1
def fX1_passByOdds_L16 (c : CT) (p2 : Int32) (p3 : Int32) (K : Int32 → Int32 → Int64 → DT → Option (Int64 × DT)) : Nat → Int32 → Int32 → Int64 → DT → Option (Int64 × DT)
  | 0, _, _, _, _ => none
  | n + 1, v3, v4, v5, d_6 =>
    if (dSa d_6) ≤ v3 then
    (K v3 v4 v5 d_6)
    else
    (gd v3 5 <|
    nm (dOr d_6 v3.toNatClampNeg) fun x10 =>
    nm (p3 >>> (x10 &&& 31)) fun x11 =>
    bd1 ((if (x11 &&& (1 : Int32)) = 0 then
    (some 0)
    else
    (some 1)) : Option (Int32)) fun y12 =>
    bd1 (fX1_comeDown x10 d_6 c) fun d_15 =>
    gd x10 5 <|
    nm (dHo d_15 x10.toNatClampNeg) fun x18 =>
    gd x18 10 <|
    nm (cWi c x18.toNatClampNeg) fun x20 =>
    bd3 ((if x20 = 4 then
    (if y12 = 0 then
    (some (v5, v4, d_15))
    else
    (some (0, v4, d_15)))
    else
    (nm (v4 >>> (x18 &&& 31)) fun x31 =>
    if (x31 &&& (1 : Int32)) = 0 then
    (nm (v4 ||| ((1 : Int32) <<< (x18 &&& 31))) fun x33 =>
    bd1 ((if y12 = 0 then
    (gd x18 10 <|
    nm (cWi c x18.toNatClampNeg) fun x45 =>
    some x45)
    else
    (some 4)) : Option (Int32)) fun y34 =>
    gd x18 10 <|
    nm (dWi' d_15 (upd (dWi d_15) x18.toNatClampNeg y34)) fun d_38 =>
    nm (v5 / (10 : Int64)) fun x39 =>
    if y12 = 0 then
    (nm (x39 * (((10 : Int32) - p2).toInt64)) fun x41 =>
    some (x41, x33, d_38))
    else
    (nm (x39 * (p2.toInt64)) fun x42 =>
    some (x42, x33, d_38)))
    else
    (if y12 = 0 then
    (some (v5, v4, d_15))
    else
    (some (0, v4, d_15))))) : Option (Int64 × Int32 × DT)) fun y21 y22 d_23 =>
    bd1 (fX1_land x10 d_23 c) fun d_26 =>
    nm (v3 + 1) fun x28 =>
    fX1_passByOdds_L16 c p2 p3 K n x28 y22 y21 d_26)
def fX1_passByOdds (p2 : Int32) (p3 : Int32) (d : DT) (c : CT) : Option (Int64 × DT) :=
  bd1 (fX1_begin d c) fun d_1 =>
  fX1_passByOdds_L16 c p2 p3 (fun v3 v4 v5 d_6 =>
  some (v5, d_6)) 4096 0 0 100000 d_1
def fX1_landedIn_L4 (d : DT) (p1 : Int32) (K : Int32 → Int32 → Option (Int32)) : Nat → Int32 → Int32 → Option (Int32)
  | 0, _, _ => none
  | n + 1, v1, v2 =>
    if (dSa d) ≤ v1 then
    (K v1 v2)
    else
    (gd v1 5 <|
    nm (dPl d v1.toNatClampNeg) fun x6 =>
    if x6 = p1 then
    (nm (v2 ||| ((1 : Int32) <<< (v1 &&& 31))) fun x9 =>
    nm (v1 + 1) fun x10 =>
    fX1_landedIn_L4 d p1 K n x10 x9)
    else
    (nm (v1 + 1) fun x8 =>
    fX1_landedIn_L4 d p1 K n x8 v2))
def fX1_landedIn (p1 : Int32) (d : DT) : Option (Int32) :=
  fX1_landedIn_L4 d p1 (fun v1 v2 =>
  some v2) 4096 0 0
def fX1_landingsOf_L5 (d : DT) (p1 : Int32) (K : Int32 → Int64 → Option (Int64)) : Nat → Int32 → Int64 → Option (Int64)
  | 0, _, _ => none
  | n + 1, v1, v2 =>
    if (dSa d) ≤ v1 then
    (K v1 v2)
    else
    (gd v1 5 <|
    nm (dHo d v1.toNatClampNeg) fun x6 =>
    if x6 = p1 then
    (gd v1 5 <|
    nm (v2 ||| ((1 : Int64) <<< ((dPl d v1.toNatClampNeg).toInt64 &&& 63))) fun x10 =>
    nm (v1 + 1) fun x11 =>
    fX1_landingsOf_L5 d p1 K n x11 x10)
    else
    (nm (v1 + 1) fun x8 =>
    fX1_landingsOf_L5 d p1 K n x8 v2))
def fX1_landingsOf (p1 : Int32) (d : DT) : Option (Int64) :=
  fX1_landingsOf_L5 d p1 (fun v1 v2 =>
  some v2) 4096 0 0
def fX1_hoursOfLanding_L4 (d : DT) (K : Int32 → Int32 → Option (Int32)) : Nat → Int32 → Int32 → Option (Int32)
  | 0, _, _ => none
  | n + 1, v1, v2 =>
    if (dSa d) ≤ v1 then
    (K v1 v2)
    else
    (gd v1 5 <|
    nm (v2 ||| ((1 : Int32) <<< ((dHo d v1.toNatClampNeg) &&& 31))) fun x6 =>
    nm (v1 + 1) fun x7 =>
    fX1_hoursOfLanding_L4 d K n x7 x6)
def fX1_hoursOfLanding (d : DT) : Option (Int32) :=
  fX1_hoursOfLanding_L4 d (fun v1 v2 =>
  some v2) 4096 0 0
def fX1_allSteps_L4 (d : DT) (K : Int32 → Int32 → Option (Int32)) : Nat → Int32 → Int32 → Option (Int32)
  | 0, _, _ => none
  | n + 1, v1, v2 =>
    if (dSa d) ≤ v1 then
    (K v1 v2)
    else
    (gd v1 5 <|
    nm (v2 + (dSt d v1.toNatClampNeg)) fun x6 =>
    nm (v1 + 1) fun x7 =>
    fX1_allSteps_L4 d K n x7 x6)
def fX1_allSteps (d : DT) : Option (Int32) :=
  fX1_allSteps_L4 d (fun v1 v2 =>
  some v2) 4096 0 0
def fX1_heard_L4 (d : DT) (c : CT) (K : Int32 → Int32 → Option (Int32)) : Nat → Int32 → Int32 → Option (Int32)
  | 0, _, _ => none
  | n + 1, v1, v2 =>
    if (dSa d) ≤ v1 then
    (K v1 v2)
    else
    (gd v1 5 <|
    nm (dPl d v1.toNatClampNeg) fun x6 =>
    bd1 (fX0_hearersIn x6 c) fun r7 =>
    if r7 ≤ 0 then
    (nm (v1 + 1) fun x10 =>
    fX1_heard_L4 d c K n x10 v2)
    else
    (nm (v2 + 1) fun x11 =>
    nm (v1 + 1) fun x12 =>
    fX1_heard_L4 d c K n x12 x11))
def fX1_heard (d : DT) (c : CT) : Option (Int32) :=
  fX1_heard_L4 d c (fun v1 v2 =>
  some v2) 4096 0 0
def fX1_isAsSeen_L2 (d : DT) (c : CT) (K : Int32 → Option (Int32)) : Nat → Int32 → Option (Int32)
  | 0, _ => none
  | n + 1, v1 =>
    if (cSe c) ≤ v1 then
    (K v1)
    else
    (gd v1 6 <|
    nm (cSs c v1.toNatClampNeg) fun x5 =>
    gd x5 5 <|
    nm (dPl d x5.toNatClampNeg) fun x7 =>
    gd v1 6 <|
    if x7 = (cSp c v1.toNatClampNeg) then
    (nm (v1 + 1) fun x10 =>
    fX1_isAsSeen_L2 d c K n x10)
    else
    (some 0))
def fX1_isAsSeen (d : DT) (c : CT) : Option (Int32) :=
  fX1_isAsSeen_L2 d c (fun v1 =>
  some 1) 4096 0
def fX0_copyTo (c : CT) (o : CT) : Option CT := some o
def fX6_in (p1 : Int64) (p2 : Int64) (p3 : Int64) : Option (Int32) :=
  if (lg_cmp p1 p2) < 0 then
  (some 0)
  else
  (if 0 < (lg_cmp p1 p3) then
  (some 0)
  else
  (some 1))
def fX6_flag (p1 : Int32) : Option (Int32) :=
  if p1 = 0 then
  (some 0)
  else
  (some 1)
def fX6_isCell (p1 : Int32) : Option (Int32) :=
  if p1 < 0 then
  (some 0)
  else
  (nm (p1 / (10 : Int32)) fun x2 =>
  if 8 ≤ x2 then
  (some 0)
  else
  (nm (p1 - p1 / (10 : Int32) * (10 : Int32)) fun x4 =>
  if 8 ≤ x4 then
  (some 0)
  else
  (some 1)))
def fX6_cellAt (p1 : Int32) : Option (Int32) :=
  nm ((10 : Int32) * (p1 / (8 : Int32))) fun x1 =>
  nm (x1 + (p1 - p1 / (8 : Int32) * (8 : Int32))) fun x2 =>
  some x2
def fX6_firstDraft_L2 (K : Int32 → AI → Option (AI × Int32 × Int32 × Int32)) : Nat → Int32 → AI → Option (AI × Int32 × Int32 × Int32)
  | 0, _, _ => none
  | n + 1, v1, draft_2 =>
    if 61 ≤ v1 then
    (K v1 draft_2)
    else
    (gd v1 61 <|
    nm (upd draft_2 v1.toNatClampNeg 0) fun draft_6 =>
    nm (v1 + 1) fun x7 =>
    fX6_firstDraft_L2 K n x7 draft_6)
def fX6_firstDraft_L23 (K : Int32 → AI → Option (AI × Int32 × Int32 × Int32)) : Nat → Int32 → AI → Option (AI × Int32 × Int32 × Int32)
  | 0, _, _ => none
  | n + 1, v8, draft_9 =>
    if 10 ≤ v8 then
    (K v8 draft_9)
    else
    (nm ((8 : Int32) + v8) fun x12 =>
    gd x12 61 <|
    nm (upd draft_9 x12.toNatClampNeg 4) fun draft_14 =>
    nm (v8 + 1) fun x15 =>
    fX6_firstDraft_L23 K n x15 draft_14)
def fX6_firstDraft (draft : AI) (dHearers : Int32) (dWalls : Int32) (toldWinds : Int32) : Option (AI × Int32 × Int32 × Int32) :=
  fX6_firstDraft_L2 (fun v1 draft_2 =>
  fX6_firstDraft_L23 (fun v8 draft_9 =>
  some (draft_9, 0, 0, 0)) 4096 0 draft_2) 4096 0 draft
def fX6_keepDraft_L2 (draft : AI) (K : Int32 → AI → Option (AI × AI × Int32)) : Nat → Int32 → AI → Option (AI × AI × Int32)
  | 0, _, _ => none
  | n + 1, v1, st_2 =>
    if 61 ≤ v1 then
    (K v1 st_2)
    else
    (gd v1 61 <|
    nm (draft v1.toNatClampNeg) fun x6 =>
    gd v1 183 <|
    nm (upd st_2 v1.toNatClampNeg x6) fun st_8 =>
    nm (v1 + 1) fun x9 =>
    fX6_keepDraft_L2 draft K n x9 st_8)
def fX6_keepDraft (st : AI) (isKept : AI) (hearers : Int32) (draft : AI) (dHearers : Int32) : Option (AI × AI × Int32) :=
  fX6_keepDraft_L2 draft (fun v1 st_2 =>
  nm (upd isKept 0 (vp_nar .boolean 0)) fun isKept_10 =>
  nm (upd isKept_10 1 (vp_nar .boolean 0)) fun isKept_11 =>
  some (st_2, isKept_11, dHearers)) 4096 0 st
def fX6_feed (p1 : Int32) (tape : AI) (taped : Int32) : Option (Int32 × AI × Int32) :=
  nm (p1.toInt64) fun x1 =>
  bd1 (fX6_in x1 0 127) fun r2 =>
  if r2 = 0 then
  (some ((-1), tape, taped))
  else
  (if taped = 160 then
  (some ((-3), tape, taped))
  else
  (gd taped 160 <|
  nm (upd tape taped.toNatClampNeg p1) fun tape_7 =>
  nm (taped + (1 : Int32)) fun x8 =>
  some (x8, tape_7, x8)))
def fX6_end (p1 : Int32) (taped : Int32) : Option (Int32 × Int32) :=
  nm (p1.toInt64) fun x1 =>
  nm (taped.toInt64) fun x2 =>
  bd1 (fX6_in x1 0 x2) fun r3 =>
  if r3 = 0 then
  (some ((-1), taped))
  else
  (some (taped, p1))
def fX6_needs (p1 : Int32) (p2 : Int32) (frm : Int32) (fault : Int32) (wrongAt : Int32) : Option (Int32 × Int32) :=
  if p1 = 0 then
  (if fault = 0 then
  (some (p2, frm))
  else
  (some (fault, wrongAt)))
  else
  (some (fault, wrongAt))
def fX6_byteAt (p1 : Int32) (tape : AI) (taped : Int32) : Option (Int32) :=
  if taped ≤ p1 then
  (some (-1))
  else
  (gd p1 160 <|
  nm (tape p1.toNatClampNeg) fun x3 =>
  some x3)
def fX6_is (p1 : Int32) (p2 : Int32) (p3 : Int32) (p4 : Int32) (tape : AI) (taped : Int32) (pos : Int32) (frm : Int32) : Option (Int32) :=
  nm (pos - frm) fun x1 =>
  if x1 = p1 then
  (bd1 (fX6_byteAt frm tape taped) fun r3 =>
  if r3 = p2 then
  (nm (frm + (1 : Int32)) fun x6 =>
  bd1 (fX6_byteAt x6 tape taped) fun r7 =>
  if r7 = p3 then
  (nm (frm + (2 : Int32)) fun x10 =>
  bd1 (fX6_byteAt x10 tape taped) fun r11 =>
  if r11 = p4 then
  (some 1)
  else
  (some 0))
  else
  (some 0))
  else
  (some 0))
  else
  (some 0)
def fX6_ends (p1 : Int32) (p2 : Int32) (p3 : Int32) (tape : AI) (taped : Int32) (frm : Int32) : Option (Int32) :=
  nm (frm + (3 : Int32)) fun x1 =>
  bd1 (fX6_byteAt x1 tape taped) fun r2 =>
  if r2 = p1 then
  (if p2 = 0 then
  (if p3 = 0 then
  (some 1)
  else
  (nm (frm + (5 : Int32)) fun x7 =>
  bd1 (fX6_byteAt x7 tape taped) fun r8 =>
  if r8 = p3 then
  (some 1)
  else
  (some 0)))
  else
  (nm (frm + (4 : Int32)) fun x11 =>
  bd1 (fX6_byteAt x11 tape taped) fun r12 =>
  if r12 = p2 then
  (if p3 = 0 then
  (some 1)
  else
  (nm (frm + (5 : Int32)) fun x16 =>
  bd1 (fX6_byteAt x16 tape taped) fun r17 =>
  if r17 = p3 then
  (some 1)
  else
  (some 0)))
  else
  (some 0)))
  else
  (some 0)
def fX6_kindNow (tape : AI) (taped : Int32) (pos : Int32) (frm : Int32) : Option (Int32) :=
  bd1 (fX6_is 5 112 108 97 tape taped pos frm) fun r1 =>
  if r1 = 0 then
  (bd1 (fX6_is 5 115 109 97 tape taped pos frm) fun r4 =>
  if r4 = 0 then
  (bd1 (fX6_is 6 115 101 114 tape taped pos frm) fun r7 =>
  if r7 = 0 then
  (bd1 (fX6_is 8 112 114 111 tape taped pos frm) fun r10 =>
  if r10 = 0 then
  (some (-4))
  else
  (bd1 (fX6_ends 112 111 115 tape taped frm) fun r13 =>
  if r13 = 0 then
  (some (-4))
  else
  (nm (frm + (6 : Int32)) fun x16 =>
  bd1 (fX6_byteAt x16 tape taped) fun r17 =>
  if r17 = 97 then
  (nm (frm + (7 : Int32)) fun x20 =>
  bd1 (fX6_byteAt x20 tape taped) fun r21 =>
  if r21 = 108 then
  (some 3)
  else
  (some (-4)))
  else
  (some (-4)))))
  else
  (bd1 (fX6_ends 109 111 110 tape taped frm) fun r24 =>
  if r24 = 0 then
  (bd1 (fX6_is 8 112 114 111 tape taped pos frm) fun r27 =>
  if r27 = 0 then
  (some (-4))
  else
  (bd1 (fX6_ends 112 111 115 tape taped frm) fun r30 =>
  if r30 = 0 then
  (some (-4))
  else
  (nm (frm + (6 : Int32)) fun x33 =>
  bd1 (fX6_byteAt x33 tape taped) fun r34 =>
  if r34 = 97 then
  (nm (frm + (7 : Int32)) fun x37 =>
  bd1 (fX6_byteAt x37 tape taped) fun r38 =>
  if r38 = 108 then
  (some 3)
  else
  (some (-4)))
  else
  (some (-4)))))
  else
  (some 2)))
  else
  (bd1 (fX6_ends 108 108 0 tape taped frm) fun r41 =>
  if r41 = 0 then
  (bd1 (fX6_is 6 115 101 114 tape taped pos frm) fun r44 =>
  if r44 = 0 then
  (bd1 (fX6_is 8 112 114 111 tape taped pos frm) fun r47 =>
  if r47 = 0 then
  (some (-4))
  else
  (bd1 (fX6_ends 112 111 115 tape taped frm) fun r50 =>
  if r50 = 0 then
  (some (-4))
  else
  (nm (frm + (6 : Int32)) fun x53 =>
  bd1 (fX6_byteAt x53 tape taped) fun r54 =>
  if r54 = 97 then
  (nm (frm + (7 : Int32)) fun x57 =>
  bd1 (fX6_byteAt x57 tape taped) fun r58 =>
  if r58 = 108 then
  (some 3)
  else
  (some (-4)))
  else
  (some (-4)))))
  else
  (bd1 (fX6_ends 109 111 110 tape taped frm) fun r61 =>
  if r61 = 0 then
  (bd1 (fX6_is 8 112 114 111 tape taped pos frm) fun r64 =>
  if r64 = 0 then
  (some (-4))
  else
  (bd1 (fX6_ends 112 111 115 tape taped frm) fun r67 =>
  if r67 = 0 then
  (some (-4))
  else
  (nm (frm + (6 : Int32)) fun x70 =>
  bd1 (fX6_byteAt x70 tape taped) fun r71 =>
  if r71 = 97 then
  (nm (frm + (7 : Int32)) fun x74 =>
  bd1 (fX6_byteAt x74 tape taped) fun r75 =>
  if r75 = 108 then
  (some 3)
  else
  (some (-4)))
  else
  (some (-4)))))
  else
  (some 2)))
  else
  (some 1)))
  else
  (bd1 (fX6_ends 105 110 0 tape taped frm) fun r78 =>
  if r78 = 0 then
  (bd1 (fX6_is 5 115 109 97 tape taped pos frm) fun r81 =>
  if r81 = 0 then
  (bd1 (fX6_is 6 115 101 114 tape taped pos frm) fun r84 =>
  if r84 = 0 then
  (bd1 (fX6_is 8 112 114 111 tape taped pos frm) fun r87 =>
  if r87 = 0 then
  (some (-4))
  else
  (bd1 (fX6_ends 112 111 115 tape taped frm) fun r90 =>
  if r90 = 0 then
  (some (-4))
  else
  (nm (frm + (6 : Int32)) fun x93 =>
  bd1 (fX6_byteAt x93 tape taped) fun r94 =>
  if r94 = 97 then
  (nm (frm + (7 : Int32)) fun x97 =>
  bd1 (fX6_byteAt x97 tape taped) fun r98 =>
  if r98 = 108 then
  (some 3)
  else
  (some (-4)))
  else
  (some (-4)))))
  else
  (bd1 (fX6_ends 109 111 110 tape taped frm) fun r101 =>
  if r101 = 0 then
  (bd1 (fX6_is 8 112 114 111 tape taped pos frm) fun r104 =>
  if r104 = 0 then
  (some (-4))
  else
  (bd1 (fX6_ends 112 111 115 tape taped frm) fun r107 =>
  if r107 = 0 then
  (some (-4))
  else
  (nm (frm + (6 : Int32)) fun x110 =>
  bd1 (fX6_byteAt x110 tape taped) fun r111 =>
  if r111 = 97 then
  (nm (frm + (7 : Int32)) fun x114 =>
  bd1 (fX6_byteAt x114 tape taped) fun r115 =>
  if r115 = 108 then
  (some 3)
  else
  (some (-4)))
  else
  (some (-4)))))
  else
  (some 2)))
  else
  (bd1 (fX6_ends 108 108 0 tape taped frm) fun r118 =>
  if r118 = 0 then
  (bd1 (fX6_is 6 115 101 114 tape taped pos frm) fun r121 =>
  if r121 = 0 then
  (bd1 (fX6_is 8 112 114 111 tape taped pos frm) fun r124 =>
  if r124 = 0 then
  (some (-4))
  else
  (bd1 (fX6_ends 112 111 115 tape taped frm) fun r127 =>
  if r127 = 0 then
  (some (-4))
  else
  (nm (frm + (6 : Int32)) fun x130 =>
  bd1 (fX6_byteAt x130 tape taped) fun r131 =>
  if r131 = 97 then
  (nm (frm + (7 : Int32)) fun x134 =>
  bd1 (fX6_byteAt x134 tape taped) fun r135 =>
  if r135 = 108 then
  (some 3)
  else
  (some (-4)))
  else
  (some (-4)))))
  else
  (bd1 (fX6_ends 109 111 110 tape taped frm) fun r138 =>
  if r138 = 0 then
  (bd1 (fX6_is 8 112 114 111 tape taped pos frm) fun r141 =>
  if r141 = 0 then
  (some (-4))
  else
  (bd1 (fX6_ends 112 111 115 tape taped frm) fun r144 =>
  if r144 = 0 then
  (some (-4))
  else
  (nm (frm + (6 : Int32)) fun x147 =>
  bd1 (fX6_byteAt x147 tape taped) fun r148 =>
  if r148 = 97 then
  (nm (frm + (7 : Int32)) fun x151 =>
  bd1 (fX6_byteAt x151 tape taped) fun r152 =>
  if r152 = 108 then
  (some 3)
  else
  (some (-4)))
  else
  (some (-4)))))
  else
  (some 2)))
  else
  (some 1)))
  else
  (some 0))
def fX6_lineNow (tape : AI) (taped : Int32) (pos : Int32) (frm : Int32) : Option (Int32) :=
  bd1 (fX6_is 4 119 97 108 tape taped pos frm) fun r1 =>
  if r1 = 0 then
  (bd1 (fX6_is 4 119 105 110 tape taped pos frm) fun r4 =>
  if r4 = 0 then
  (bd1 (fX6_is 6 104 101 97 tape taped pos frm) fun r7 =>
  if r7 = 0 then
  (bd1 (fX6_kindNow tape taped pos frm) fun r10 =>
  some r10)
  else
  (bd1 (fX6_ends 114 101 114 tape taped frm) fun r12 =>
  if r12 = 0 then
  (bd1 (fX6_kindNow tape taped pos frm) fun r15 =>
  some r15)
  else
  (some 5)))
  else
  (bd1 (fX6_ends 100 0 0 tape taped frm) fun r17 =>
  if r17 = 0 then
  (bd1 (fX6_is 6 104 101 97 tape taped pos frm) fun r20 =>
  if r20 = 0 then
  (bd1 (fX6_kindNow tape taped pos frm) fun r23 =>
  some r23)
  else
  (bd1 (fX6_ends 114 101 114 tape taped frm) fun r25 =>
  if r25 = 0 then
  (bd1 (fX6_kindNow tape taped pos frm) fun r28 =>
  some r28)
  else
  (some 5)))
  else
  (some 6)))
  else
  (bd1 (fX6_ends 108 0 0 tape taped frm) fun r30 =>
  if r30 = 0 then
  (bd1 (fX6_is 4 119 105 110 tape taped pos frm) fun r33 =>
  if r33 = 0 then
  (bd1 (fX6_is 6 104 101 97 tape taped pos frm) fun r36 =>
  if r36 = 0 then
  (bd1 (fX6_kindNow tape taped pos frm) fun r39 =>
  some r39)
  else
  (bd1 (fX6_ends 114 101 114 tape taped frm) fun r41 =>
  if r41 = 0 then
  (bd1 (fX6_kindNow tape taped pos frm) fun r44 =>
  some r44)
  else
  (some 5)))
  else
  (bd1 (fX6_ends 100 0 0 tape taped frm) fun r46 =>
  if r46 = 0 then
  (bd1 (fX6_is 6 104 101 97 tape taped pos frm) fun r49 =>
  if r49 = 0 then
  (bd1 (fX6_kindNow tape taped pos frm) fun r52 =>
  some r52)
  else
  (bd1 (fX6_ends 114 101 114 tape taped frm) fun r54 =>
  if r54 = 0 then
  (bd1 (fX6_kindNow tape taped pos frm) fun r57 =>
  some r57)
  else
  (some 5)))
  else
  (some 6)))
  else
  (some 4))
def fX6_takes_L8 (tape : AI) (taped : Int32) (K : Int32 → Option (Int32 × Int32 × Int32 × Int32 × Int32 × Int32)) : Nat → Int32 → Option (Int32 × Int32 × Int32 × Int32 × Int32 × Int32)
  | 0, _ => none
  | n + 1, pos_2 =>
    bd1 (fX6_byteAt pos_2 tape taped) fun r4 =>
    if r4 = 32 then
    (nm (pos_2 + (1 : Int32)) fun x7 =>
    fX6_takes_L8 tape taped K n x7)
    else
    (K pos_2)
def fX6_takes_L140 (tape : AI) (taped : Int32) (pos_2 : Int32) (K : Int32 → Int32 → Option (Int32 × Int32 × Int32 × Int32 × Int32 × Int32)) : Nat → Int32 → Int32 → Option (Int32 × Int32 × Int32 × Int32 × Int32 × Int32)
  | 0, _, _ => none
  | n + 1, pos_27, value_28 =>
    bd1 (fX6_byteAt pos_27 tape taped) fun r30 =>
    nm (r30.toInt64) fun x32 =>
    bd1 (fX6_in x32 48 57) fun r33 =>
    if r33 = 0 then
    (K pos_27 value_28)
    else
    (nm (pos_27 - pos_2) fun x36 =>
    if 2 ≤ x36 then
    (nm (pos_27 + (1 : Int32)) fun x38 =>
    fX6_takes_L140 tape taped pos_2 K n x38 value_28)
    else
    (nm ((10 : Int32) * value_28) fun x39 =>
    bd1 (fX6_byteAt pos_27 tape taped) fun r40 =>
    nm (x39 + r40) fun x42 =>
    nm (x42 - (48 : Int32)) fun x43 =>
    nm (pos_27 + (1 : Int32)) fun x44 =>
    fX6_takes_L140 tape taped pos_2 K n x44 x43))
def fX6_takes_L82 (tape : AI) (taped : Int32) (K : Int32 → Option (Int32 × Int32 × Int32 × Int32 × Int32 × Int32)) : Nat → Int32 → Option (Int32 × Int32 × Int32 × Int32 × Int32 × Int32)
  | 0, _ => none
  | n + 1, pos_53 =>
    bd1 (fX6_byteAt pos_53 tape taped) fun r55 =>
    nm (r55.toInt64) fun x57 =>
    bd1 (fX6_in x57 97 122) fun r58 =>
    if r58 = 0 then
    (K pos_53)
    else
    (nm (pos_53 + (1 : Int32)) fun x61 =>
    fX6_takes_L82 tape taped K n x61)
def fX6_takes (tape : AI) (taped : Int32) (pos : Int32) (frm : Int32) (sort : Int32) (value : Int32) (fault : Int32) (wrongAt : Int32) : Option (Int32 × Int32 × Int32 × Int32 × Int32 × Int32) :=
  if fault ≤ 0 then
  (fX6_takes_L8 tape taped (fun pos_2 =>
  bd1 (fX6_byteAt pos_2 tape taped) fun r8 =>
  if 0 ≤ r8 then
  (nm (r8.toInt64) fun x11 =>
  bd1 (fX6_in x11 97 122) fun r12 =>
  if r12 = 0 then
  (nm (r8.toInt64) fun x15 =>
  bd1 (fX6_in x15 48 57) fun r16 =>
  if r16 = 0 then
  (bd1 ((if r8 = 59 then
  (some 1)
  else
  (some 0)) : Option (Int32)) fun y19 =>
  bd2 (fX6_needs y19 1 pos_2 fault wrongAt) fun fault_22 wrongAt_23 =>
  nm (pos_2 + (1 : Int32)) fun x25 =>
  some (x25, pos_2, 3, value, fault_22, wrongAt_23))
  else
  (fX6_takes_L140 tape taped pos_2 (fun pos_27 value_28 =>
  nm (pos_27 - pos_2) fun x45 =>
  bd1 ((if 2 < x45 then
  (some 0)
  else
  (some 1)) : Option (Int32)) fun y46 =>
  bd2 (fX6_needs y46 1 pos_2 fault wrongAt) fun fault_49 wrongAt_50 =>
  some (pos_27, pos_2, 2, value_28, fault_49, wrongAt_50)) 4096 pos_2 0))
  else
  (fX6_takes_L82 tape taped (fun pos_53 =>
  some (pos_53, pos_2, 1, value, fault, wrongAt)) 4096 pos_2))
  else
  (some (pos_2, pos_2, 0, value, fault, wrongAt))) 4096 pos)
  else
  (some (pos, frm, sort, value, fault, wrongAt))
def fX6_looked (p1 : Int32) (p2 : Int32) (frm : Int32) (sort : Int32) (value : Int32) (fault : Int32) (wrongAt : Int32) : Option (Int32 × Int32 × Int32) :=
  bd2 ((if fault = 0 then
  (bd1 ((if sort = 2 then
  (some 1)
  else
  (some 0)) : Option (Int32)) fun y20 =>
  bd2 (fX6_needs y20 2 frm fault wrongAt) fun fault_23 wrongAt_24 =>
  some (fault_23, wrongAt_24))
  else
  (some (fault, wrongAt))) : Option (Int32 × Int32)) fun fault_1 wrongAt_2 =>
  bd2 ((if fault_1 = 0 then
  (nm (value.toInt64) fun x11 =>
  nm (p1.toInt64) fun x12 =>
  nm (p2.toInt64) fun x13 =>
  bd1 (fX6_in x11 x12 x13) fun r14 =>
  bd2 (fX6_needs r14 3 frm fault_1 wrongAt_2) fun fault_16 wrongAt_17 =>
  some (fault_16, wrongAt_17))
  else
  (some (fault_1, wrongAt_2))) : Option (Int32 × Int32)) fun fault_5 wrongAt_6 =>
  if fault_5 = 0 then
  (some (value, fault_5, wrongAt_6))
  else
  (some (0, fault_5, wrongAt_6))
def fX6_lookedCell (frm : Int32) (sort : Int32) (value : Int32) (fault : Int32) (wrongAt : Int32) : Option (Int32 × Int32 × Int32) :=
  bd3 (fX6_looked 0 77 frm sort value fault wrongAt) fun r1 fault_2 wrongAt_3 =>
  bd2 ((if fault_2 = 0 then
  (bd1 (fX6_isCell r1) fun r11 =>
  bd2 (fX6_needs r11 3 frm fault_2 wrongAt_3) fun fault_13 wrongAt_14 =>
  some (fault_13, wrongAt_14))
  else
  (some (fault_2, wrongAt_3))) : Option (Int32 × Int32)) fun fault_5 wrongAt_6 =>
  if fault_5 = 0 then
  (some (r1, fault_5, wrongAt_6))
  else
  (some (0, fault_5, wrongAt_6))
def fX6_readNumber (p1 : Int32) (p2 : Int32) (tape : AI) (taped : Int32) (pos : Int32) (frm : Int32) (sort : Int32) (value : Int32) (fault : Int32) (wrongAt : Int32) : Option (Int32 × Int32 × Int32 × Int32 × Int32 × Int32 × Int32) :=
  bd3 (fX6_looked p1 p2 frm sort value fault wrongAt) fun r1 fault_2 wrongAt_3 =>
  bd6 (fX6_takes tape taped pos frm sort value fault_2 wrongAt_3) fun pos_5 frm_6 sort_7 value_8 fault_9 wrongAt_10 =>
  some (r1, pos_5, frm_6, sort_7, value_8, fault_9, wrongAt_10)
def fX6_readCell (tape : AI) (taped : Int32) (pos : Int32) (frm : Int32) (sort : Int32) (value : Int32) (fault : Int32) (wrongAt : Int32) : Option (Int32 × Int32 × Int32 × Int32 × Int32 × Int32 × Int32) :=
  bd3 (fX6_lookedCell frm sort value fault wrongAt) fun r1 fault_2 wrongAt_3 =>
  bd6 (fX6_takes tape taped pos frm sort value fault_2 wrongAt_3) fun pos_5 frm_6 sort_7 value_8 fault_9 wrongAt_10 =>
  some (r1, pos_5, frm_6, sort_7, value_8, fault_9, wrongAt_10)
def fX6_readSaying (p1 : Int32) (draft : AI) (tape : AI) (taped : Int32) (pos : Int32) (frm : Int32) (sort : Int32) (value : Int32) (fault : Int32) (wrongAt : Int32) : Option (AI × Int32 × Int32 × Int32 × Int32 × Int32 × Int32) :=
  nm ((18 : Int32) + ((5 : Int32) * (draft 43))) fun x1 =>
  nm (x1 + (0 : Int32)) fun x2 =>
  gd x2 61 <|
  nm (upd draft x2.toNatClampNeg p1) fun draft_4 =>
  nm (x1 + (1 : Int32)) fun x5 =>
  bd7 (fX6_readCell tape taped pos frm sort value fault wrongAt) fun r6 pos_7 frm_8 sort_9 value_10 fault_11 wrongAt_12 =>
  gd x5 61 <|
  nm (upd draft_4 x5.toNatClampNeg r6) fun draft_15 =>
  nm (x1 + (2 : Int32)) fun x16 =>
  bd7 (fX6_readNumber 0 3 tape taped pos_7 frm_8 sort_9 value_10 fault_11 wrongAt_12) fun r17 pos_18 frm_19 sort_20 value_21 fault_22 wrongAt_23 =>
  gd x16 61 <|
  nm (upd draft_15 x16.toNatClampNeg r17) fun draft_26 =>
  nm (x1 + (3 : Int32)) fun x27 =>
  bd7 (fX6_readNumber 1 9 tape taped pos_18 frm_19 sort_20 value_21 fault_22 wrongAt_23) fun r28 pos_29 frm_30 sort_31 value_32 fault_33 wrongAt_34 =>
  gd x27 61 <|
  nm (upd draft_26 x27.toNatClampNeg r28) fun draft_37 =>
  nm (x1 + (4 : Int32)) fun x38 =>
  bd7 (fX6_readNumber 0 9 tape taped pos_29 frm_30 sort_31 value_32 fault_33 wrongAt_34) fun r39 pos_40 frm_41 sort_42 value_43 fault_44 wrongAt_45 =>
  gd x38 61 <|
  nm (upd draft_37 x38.toNatClampNeg r39) fun draft_48 =>
  nm (draft_48 43) fun x49 =>
  nm (x49 + (1 : Int32)) fun x50 =>
  nm (upd draft_48 43 x50) fun draft_51 =>
  some (draft_51, pos_40, frm_41, sort_42, value_43, fault_44, wrongAt_45)
def fX6_readWall (draft : AI) (dWalls : Int32) (tape : AI) (taped : Int32) (pos : Int32) (frm : Int32) (sort : Int32) (value : Int32) (fault : Int32) (wrongAt : Int32) : Option (AI × Int32 × Int32 × Int32 × Int32 × Int32 × Int32 × Int32) :=
  bd3 (fX6_lookedCell frm sort value fault wrongAt) fun r1 fault_2 wrongAt_3 =>
  bd3 ((if fault_2 = 0 then
  (nm (r1 / (10 : Int32)) fun x19 =>
  gd x19 61 <|
  nm (draft x19.toNatClampNeg) fun x21 =>
  nm (x21 >>> ((r1 - r1 / (10 : Int32) * (10 : Int32)) &&& 31)) fun x22 =>
  bd1 ((if (x22 &&& (1 : Int32)) = 0 then
  (some 1)
  else
  (some 0)) : Option (Int32)) fun y23 =>
  bd2 (fX6_needs y23 4 frm fault_2 wrongAt_3) fun fault_26 wrongAt_27 =>
  nm (r1 / (10 : Int32)) fun x29 =>
  gd x29 61 <|
  nm (draft x29.toNatClampNeg) fun x31 =>
  nm (x31 ||| ((1 : Int32) <<< ((r1 - r1 / (10 : Int32) * (10 : Int32)) &&& 31))) fun x32 =>
  gd x29 61 <|
  nm (upd draft x29.toNatClampNeg x32) fun draft_34 =>
  some (draft_34, fault_26, wrongAt_27))
  else
  (some (draft, fault_2, wrongAt_3))) : Option (AI × Int32 × Int32)) fun draft_5 fault_6 wrongAt_7 =>
  nm (dWalls + (1 : Int32)) fun x10 =>
  bd6 (fX6_takes tape taped pos frm sort value fault_6 wrongAt_7) fun pos_11 frm_12 sort_13 value_14 fault_15 wrongAt_16 =>
  some (draft_5, x10, pos_11, frm_12, sort_13, value_14, fault_15, wrongAt_16)
def fX6_readWind (draft : AI) (toldWinds : Int32) (tape : AI) (taped : Int32) (pos : Int32) (frm : Int32) (sort : Int32) (value : Int32) (fault : Int32) (wrongAt : Int32) : Option (AI × Int32 × Int32 × Int32 × Int32 × Int32 × Int32 × Int32) :=
  bd3 (fX6_looked 0 9 frm sort value fault wrongAt) fun r1 fault_2 wrongAt_3 =>
  bd3 ((if fault_2 = 0 then
  (nm (toldWinds >>> (r1 &&& 31)) fun x29 =>
  bd1 ((if (x29 &&& (1 : Int32)) = 0 then
  (some 1)
  else
  (some 0)) : Option (Int32)) fun y30 =>
  bd2 (fX6_needs y30 4 frm fault_2 wrongAt_3) fun fault_33 wrongAt_34 =>
  nm (toldWinds ||| ((1 : Int32) <<< (r1 &&& 31))) fun x36 =>
  some (x36, fault_33, wrongAt_34))
  else
  (some (toldWinds, fault_2, wrongAt_3))) : Option (Int32 × Int32 × Int32)) fun toldWinds_5 fault_6 wrongAt_7 =>
  bd6 (fX6_takes tape taped pos frm sort value fault_6 wrongAt_7) fun pos_10 frm_11 sort_12 value_13 fault_14 wrongAt_15 =>
  nm ((8 : Int32) + r1) fun x17 =>
  bd7 (fX6_readNumber 0 4 tape taped pos_10 frm_11 sort_12 value_13 fault_14 wrongAt_15) fun r18 pos_19 frm_20 sort_21 value_22 fault_23 wrongAt_24 =>
  gd x17 61 <|
  nm (upd draft x17.toNatClampNeg r18) fun draft_27 =>
  some (draft_27, toldWinds_5, pos_19, frm_20, sort_21, value_22, fault_23, wrongAt_24)
def fX6_readLineOf (p1 : Int32) (draft : AI) (dHearers : Int32) (dWalls : Int32) (toldWinds : Int32) (tape : AI) (taped : Int32) (pos : Int32) (frm : Int32) (sort : Int32) (value : Int32) (fault : Int32) (wrongAt : Int32) : Option (AI × Int32 × Int32 × Int32 × Int32 × Int32 × Int32 × Int32 × Int32 × Int32) :=
  if p1 = 4 then
  (bd8 (fX6_readWall draft dWalls tape taped pos frm sort value fault wrongAt) fun draft_2 dWalls_3 pos_4 frm_5 sort_6 value_7 fault_8 wrongAt_9 =>
  some (draft_2, dHearers, dWalls_3, toldWinds, pos_4, frm_5, sort_6, value_7, fault_8, wrongAt_9))
  else
  (if p1 = 5 then
  (nm ((44 : Int32) + dHearers) fun x12 =>
  bd7 (fX6_readCell tape taped pos frm sort value fault wrongAt) fun r13 pos_14 frm_15 sort_16 value_17 fault_18 wrongAt_19 =>
  gd x12 61 <|
  nm (upd draft x12.toNatClampNeg r13) fun draft_22 =>
  nm (dHearers + (1 : Int32)) fun x23 =>
  some (draft_22, x23, dWalls, toldWinds, pos_14, frm_15, sort_16, value_17, fault_18, wrongAt_19))
  else
  (if p1 = 6 then
  (bd8 (fX6_readWind draft toldWinds tape taped pos frm sort value fault wrongAt) fun draft_25 toldWinds_26 pos_27 frm_28 sort_29 value_30 fault_31 wrongAt_32 =>
  some (draft_25, dHearers, dWalls, toldWinds_26, pos_27, frm_28, sort_29, value_30, fault_31, wrongAt_32))
  else
  (bd7 (fX6_readSaying p1 draft tape taped pos frm sort value fault wrongAt) fun draft_34 pos_35 frm_36 sort_37 value_38 fault_39 wrongAt_40 =>
  some (draft_34, dHearers, dWalls, toldWinds, pos_35, frm_36, sort_37, value_38, fault_39, wrongAt_40))))
def fX6_hasRoom (p1 : Int32) (draft : AI) (dHearers : Int32) (dWalls : Int32) : Option (Int32) :=
  if p1 = 4 then
  (if 12 ≤ dWalls then
  (some 0)
  else
  (some 1))
  else
  (if p1 = 5 then
  (if 4 ≤ dHearers then
  (some 0)
  else
  (some 1))
  else
  (if p1 = 6 then
  (some 1)
  else
  (nm (draft 43) fun x4 =>
  if 5 ≤ x4 then
  (some 0)
  else
  (some 1))))
def fX6_readLine (draft : AI) (dHearers : Int32) (dWalls : Int32) (toldWinds : Int32) (tape : AI) (taped : Int32) (pos : Int32) (frm : Int32) (sort : Int32) (value : Int32) (fault : Int32) (wrongAt : Int32) : Option (AI × Int32 × Int32 × Int32 × Int32 × Int32 × Int32 × Int32 × Int32 × Int32) :=
  bd1 ((if sort = 1 then
  (bd1 (fX6_lineNow tape taped pos frm) fun r55 =>
  some r55)
  else
  (some (-4))) : Option (Int32)) fun y1 =>
  bd1 ((if y1 = (-4) then
  (some 0)
  else
  (some 1)) : Option (Int32)) fun y4 =>
  bd2 (fX6_needs y4 2 frm fault wrongAt) fun fault_7 wrongAt_8 =>
  bd1 (fX6_hasRoom y1 draft dHearers dWalls) fun r10 =>
  bd2 (fX6_needs r10 5 frm fault_7 wrongAt_8) fun fault_12 wrongAt_13 =>
  bd6 (fX6_takes tape taped pos frm sort value fault_12 wrongAt_13) fun pos_15 frm_16 sort_17 value_18 fault_19 wrongAt_20 =>
  if fault_19 ≤ 0 then
  (bd10 (fX6_readLineOf y1 draft dHearers dWalls toldWinds tape taped pos_15 frm_16 sort_17 value_18 fault_19 wrongAt_20) fun draft_23 dHearers_24 dWalls_25 toldWinds_26 pos_27 frm_28 sort_29 value_30 fault_31 wrongAt_32 =>
  bd2 ((if fault_31 = 0 then
  (bd1 ((if sort_29 = 3 then
  (some 1)
  else
  (some 0)) : Option (Int32)) fun y46 =>
  bd2 (fX6_needs y46 2 frm_28 fault_31 wrongAt_32) fun fault_49 wrongAt_50 =>
  some (fault_49, wrongAt_50))
  else
  (some (fault_31, wrongAt_32))) : Option (Int32 × Int32)) fun fault_34 wrongAt_35 =>
  bd6 (fX6_takes tape taped pos_27 frm_28 sort_29 value_30 fault_34 wrongAt_35) fun pos_38 frm_39 sort_40 value_41 fault_42 wrongAt_43 =>
  some (draft_23, dHearers_24, dWalls_25, toldWinds_26, pos_38, frm_39, sort_40, value_41, fault_42, wrongAt_43))
  else
  (some (draft, dHearers, dWalls, toldWinds, pos_15, frm_16, sort_17, value_18, fault_19, wrongAt_20))
def fX6_text_L20 (tape : AI) (taped : Int32) (K : Int32 → AI → Int32 → Int32 → Int32 → Int32 → Int32 → Int32 → Int32 → Int32 → Int32 → Option (Int32 × AI × AI × Int32 × AI × Int32 × Int32 × Int32 × Int32 × Int32 × Int32 × Int32 × Int32 × Int32 × Int32)) : Nat → Int32 → AI → Int32 → Int32 → Int32 → Int32 → Int32 → Int32 → Int32 → Int32 → Int32 → Option (Int32 × AI × AI × Int32 × AI × Int32 × Int32 × Int32 × Int32 × Int32 × Int32 × Int32 × Int32 × Int32 × Int32)
  | 0, _, _, _, _, _, _, _, _, _, _, _ => none
  | n + 1, v13, draft_14, dHearers_15, dWalls_16, toldWinds_17, pos_18, frm_19, sort_20, value_21, fault_22, wrongAt_23 =>
    if fault_22 = 0 then
    (if sort_20 = 0 then
    (K v13 draft_14 dHearers_15 dWalls_16 toldWinds_17 pos_18 frm_19 sort_20 value_21 fault_22 wrongAt_23)
    else
    (bd10 (fX6_readLine draft_14 dHearers_15 dWalls_16 toldWinds_17 tape taped pos_18 frm_19 sort_20 value_21 fault_22 wrongAt_23) fun draft_27 dHearers_28 dWalls_29 toldWinds_30 pos_31 frm_32 sort_33 value_34 fault_35 wrongAt_36 =>
    nm (v13 + 1) fun x38 =>
    fX6_text_L20 tape taped K n x38 draft_27 dHearers_28 dWalls_29 toldWinds_30 pos_31 frm_32 sort_33 value_34 fault_35 wrongAt_36))
    else
    (K v13 draft_14 dHearers_15 dWalls_16 toldWinds_17 pos_18 frm_19 sort_20 value_21 fault_22 wrongAt_23)
def fX6_text (st : AI) (isKept : AI) (hearers : Int32) (draft : AI) (dHearers : Int32) (dWalls : Int32) (toldWinds : Int32) (tape : AI) (taped : Int32) (pos : Int32) (frm : Int32) (sort : Int32) (value : Int32) (fault : Int32) (wrongAt : Int32) : Option (Int32 × AI × AI × Int32 × AI × Int32 × Int32 × Int32 × Int32 × Int32 × Int32 × Int32 × Int32 × Int32 × Int32) :=
  bd4 (fX6_firstDraft draft dHearers dWalls toldWinds) fun draft_1 dHearers_2 dWalls_3 toldWinds_4 =>
  bd6 (fX6_takes tape taped 0 frm sort value 0 wrongAt) fun pos_6 frm_7 sort_8 value_9 fault_10 wrongAt_11 =>
  fX6_text_L20 tape taped (fun v13 draft_14 dHearers_15 dWalls_16 toldWinds_17 pos_18 frm_19 sort_20 value_21 fault_22 wrongAt_23 =>
  if fault_22 ≤ 0 then
  (bd3 (fX6_keepDraft st isKept hearers draft_14 dHearers_15) fun st_40 isKept_41 hearers_42 =>
  some (v13, st_40, isKept_41, hearers_42, draft_14, dHearers_15, dWalls_16, toldWinds_17, 0, pos_18, frm_19, sort_20, value_21, fault_22, wrongAt_23))
  else
  (nm ((-10 : Int32) - wrongAt_23) fun x44 =>
  some (x44, st, isKept, hearers, draft_14, dHearers_15, dWalls_16, toldWinds_17, 0, pos_18, frm_19, sort_20, value_21, fault_22, wrongAt_23))) 4096 0 draft_1 dHearers_2 dWalls_3 toldWinds_4 pos_6 frm_7 sort_8 value_9 fault_10 wrongAt_11
def fX6_fault (fault : Int32) : Option (Int32) :=
  some fault
def fX6_isSaying (p1 : Int32) (st : AI) : Option (Int32) :=
  nm (p1.toInt64) fun x1 =>
  nm (st 43) fun x2 =>
  nm ((x2 - (1 : Int32)).toInt64) fun x3 =>
  bd1 (fX6_in x1 0 x3) fun r4 =>
  gb r4 <|
  some r4
def fX6_isHearer (p1 : Int32) (hearers : Int32) : Option (Int32) :=
  nm (p1.toInt64) fun x1 =>
  nm ((hearers - (1 : Int32)).toInt64) fun x2 =>
  bd1 (fX6_in x1 0 x2) fun r3 =>
  gb r3 <|
  some r3
def fX6_isPart (p1 : Int32) : Option (Int32) :=
  nm (p1.toInt64) fun x1 =>
  bd1 (fX6_in x1 0 1) fun r2 =>
  gb r2 <|
  some r2
def fX6_starts_L2 (st : AI) (K : Int32 → AI → Option (AI)) : Nat → Int32 → AI → Option (AI)
  | 0, _, _ => none
  | n + 1, v1, now_2 =>
    if 61 ≤ v1 then
    (K v1 now_2)
    else
    (gd v1 183 <|
    nm (st v1.toNatClampNeg) fun x6 =>
    gd v1 61 <|
    nm (upd now_2 v1.toNatClampNeg x6) fun now_8 =>
    nm (v1 + 1) fun x9 =>
    fX6_starts_L2 st K n x9 now_8)
def fX6_starts (st : AI) (now : AI) : Option (AI) :=
  fX6_starts_L2 st (fun v1 now_2 =>
  some now_2) 4096 0 now
def fX6_of (p1 : Int32) (p2 : Int32) (now : AI) : Option (Int32) :=
  nm ((18 : Int32) + ((5 : Int32) * p1)) fun x1 =>
  nm (x1 + p2) fun x2 =>
  gd x2 61 <|
  nm (now x2.toNatClampNeg) fun x4 =>
  some x4
def fX6_becomesOf (p1 : Int32) (p2 : Int32) (p3 : Int32) (now : AI) : Option (AI) :=
  nm ((18 : Int32) + ((5 : Int32) * p1)) fun x1 =>
  nm (x1 + p2) fun x2 =>
  gd x2 61 <|
  nm (upd now x2.toNatClampNeg p3) fun now_4 =>
  some now_4
def fX6_isWall (p1 : Int32) (now : AI) : Option (Int32) :=
  nm (p1 / (10 : Int32)) fun x1 =>
  gd x1 61 <|
  nm (now x1.toNatClampNeg) fun x3 =>
  nm (x3 >>> ((p1 - p1 / (10 : Int32) * (10 : Int32)) &&& 31)) fun x4 =>
  nm (x4 &&& (1 : Int32)) fun x5 =>
  if x5 = 1 then
  (some 1)
  else
  (some 0)
def fX6_bitsOf_L4 (p1 : Int32) (K : Int32 → Int32 → Option (Int32)) : Nat → Int32 → Int32 → Option (Int32)
  | 0, _, _ => none
  | n + 1, v1, v2 =>
    if 10 ≤ v1 then
    (K v1 v2)
    else
    (nm (p1 >>> (v1 &&& 31)) fun x5 =>
    nm (v2 + (x5 &&& (1 : Int32))) fun x6 =>
    nm (v1 + 1) fun x7 =>
    fX6_bitsOf_L4 p1 K n x7 x6)
def fX6_bitsOf (p1 : Int32) : Option (Int32) :=
  fX6_bitsOf_L4 p1 (fun v1 v2 =>
  some v2) 4096 0 0
def fX6_walls_L4 (now : AI) (K : Int32 → Int32 → Option (Int32)) : Nat → Int32 → Int32 → Option (Int32)
  | 0, _, _ => none
  | n + 1, v1, v2 =>
    if 8 ≤ v1 then
    (K v1 v2)
    else
    (gd v1 61 <|
    nm (now v1.toNatClampNeg) fun x6 =>
    bd1 (fX6_bitsOf x6) fun r7 =>
    nm (v2 + r7) fun x9 =>
    nm (v1 + 1) fun x10 =>
    fX6_walls_L4 now K n x10 x9)
def fX6_walls (now : AI) : Option (Int32) :=
  fX6_walls_L4 now (fun v1 v2 =>
  some v2) 4096 0 0
def fX6_reachOf (p1 : Int32) (now : AI) : Option (Int32) :=
  bd1 (fX6_of p1 3 now) fun r1 =>
  nm (r1 + (1 : Int32)) fun x3 =>
  nm (x3 / (2 : Int32)) fun x4 =>
  bd1 (fX6_of p1 0 now) fun r5 =>
  if r5 = 1 then
  (some x4)
  else
  (if r5 = 2 then
  (nm (r1 - (1 : Int32)) fun x9 =>
  some x9)
  else
  (if r5 = 3 then
  (nm ((2 : Int32) * x4) fun x11 =>
  some x11)
  else
  (some r1)))
def fX6_beside (p1 : Int32) (p2 : Int32) : Option (Int32) :=
  nm (p1 / (10 : Int32)) fun x1 =>
  bd1 ((if p2 = 1 then
  (some 1)
  else
  (if p2 = 3 then
  (some (-1))
  else
  (some 0))) : Option (Int32)) fun y2 =>
  nm (x1 + y2) fun x5 =>
  nm (p1 - p1 / (10 : Int32) * (10 : Int32)) fun x6 =>
  bd1 ((if p2 = 0 then
  (some 1)
  else
  (if p2 = 2 then
  (some (-1))
  else
  (some 0))) : Option (Int32)) fun y7 =>
  nm (x6 + y7) fun x10 =>
  nm (x5.toInt64) fun x11 =>
  bd1 (fX6_in x11 0 7) fun r12 =>
  if r12 = 0 then
  (some (-4))
  else
  (nm (x10.toInt64) fun x15 =>
  bd1 (fX6_in x15 0 7) fun r16 =>
  if r16 = 0 then
  (some (-4))
  else
  (nm ((10 : Int32) * x5) fun x19 =>
  nm (x19 + x10) fun x20 =>
  some x20))
def fX6_flies_L38 (now : AI) (p1 : Int32) (y3 : Int32) (K : Int32 → Int32 → Int32 → Option (AI × AI × AI × AI)) : Nat → Int32 → Int32 → Int32 → Option (AI × AI × AI × AI)
  | 0, _, _, _ => none
  | n + 1, v12, v13, v14 =>
    bd1 (fX6_reachOf p1 now) fun r16 =>
    if r16 ≤ v13 then
    (K v12 v13 v14)
    else
    (if v12 = (-4) then
    (K v12 v13 v14)
    else
    (if y3 = 0 then
    (bd1 (fX6_isWall v12 now) fun r26 =>
    if r26 = 0 then
    (nm (v13 + 1) fun x29 =>
    bd1 (fX6_of p1 2 now) fun r30 =>
    bd1 (fX6_beside v12 r30) fun r32 =>
    fX6_flies_L38 now p1 y3 K n r32 x29 v12)
    else
    (K v12 v13 v14))
    else
    (nm (v13 + 1) fun x21 =>
    bd1 (fX6_of p1 2 now) fun r22 =>
    bd1 (fX6_beside v12 r22) fun r24 =>
    fX6_flies_L38 now p1 y3 K n r24 x21 v12)))
def fX6_flies (p1 : Int32) (now : AI) (landed : AI) (landedIn : AI) (stepped : AI) : Option (AI × AI × AI × AI) :=
  bd1 (fX6_of p1 0 now) fun r1 =>
  bd1 ((if r1 = 3 then
  (some 1)
  else
  (some 0)) : Option (Int32)) fun y3 =>
  bd1 (fX6_of p1 1 now) fun r6 =>
  bd1 (fX6_of p1 2 now) fun r8 =>
  bd1 (fX6_beside r6 r8) fun r10 =>
  fX6_flies_L38 now p1 y3 (fun v12 v13 v14 =>
  bd1 (fX6_of p1 4 now) fun r34 =>
  nm (r34 + (v13 / (2 : Int32))) fun x36 =>
  bd1 ((if x36 ≤ 9 then
  (some x36)
  else
  (some 9)) : Option (Int32)) fun y37 =>
  nm ((8 : Int32) + y37) fun x40 =>
  gd x40 61 <|
  nm (now x40.toNatClampNeg) fun x42 =>
  bd1 ((if x42 = 4 then
  (some (-4))
  else
  (nm ((8 : Int32) + y37) fun x77 =>
  gd x77 61 <|
  nm (now x77.toNatClampNeg) fun x79 =>
  bd1 (fX6_beside v14 x79) fun r80 =>
  some r80)) : Option (Int32)) fun y43 =>
  bd1 ((if y43 = (-4) then
  (some v14)
  else
  (if y3 = 0 then
  (bd1 (fX6_isWall y43 now) fun r73 =>
  if r73 = 0 then
  (some y43)
  else
  (some v14))
  else
  (some y43))) : Option (Int32)) fun y46 =>
  gd p1 5 <|
  nm (upd landed p1.toNatClampNeg y46) fun landed_50 =>
  gd p1 5 <|
  nm (upd landedIn p1.toNatClampNeg y37) fun landedIn_52 =>
  gd p1 5 <|
  nm (upd stepped p1.toNatClampNeg v13) fun stepped_54 =>
  bd1 (fX6_of p1 0 now) fun r55 =>
  if r55 = 2 then
  (bd1 (fX6_walls now) fun r58 =>
  if 12 ≤ r58 then
  (some (now, landed_50, landedIn_52, stepped_54))
  else
  (gd p1 5 <|
  nm (landed_50 p1.toNatClampNeg) fun x62 =>
  nm (x62 / (10 : Int32)) fun x63 =>
  gd x63 61 <|
  nm (now x63.toNatClampNeg) fun x65 =>
  gd p1 5 <|
  nm (landed_50 p1.toNatClampNeg) fun x67 =>
  nm (x65 ||| ((1 : Int32) <<< ((x67 - x67 / (10 : Int32) * (10 : Int32)) &&& 31))) fun x68 =>
  gd x63 61 <|
  nm (upd now x63.toNatClampNeg x68) fun now_70 =>
  some (now_70, landed_50, landedIn_52, stepped_54)))
  else
  (some (now, landed_50, landedIn_52, stepped_54))) 4096 r10 0 r6
def fX6_dayGoes_L10 (v1 : Int32) (K : Int32 → AI → AI → AI → AI → Option (AI × AI × AI × AI)) : Nat → Int32 → AI → AI → AI → AI → Option (AI × AI × AI × AI)
  | 0, _, _, _, _, _ => none
  | n + 1, v8, now_9, landed_10, landedIn_11, stepped_12 =>
    if (now_9 43) ≤ v8 then
    (K v8 now_9 landed_10 landedIn_11 stepped_12)
    else
    (bd1 (fX6_of v8 4 now_9) fun r15 =>
    if r15 = v1 then
    (bd4 (fX6_flies v8 now_9 landed_10 landedIn_11 stepped_12) fun now_19 landed_20 landedIn_21 stepped_22 =>
    nm (v8 + 1) fun x24 =>
    fX6_dayGoes_L10 v1 K n x24 now_19 landed_20 landedIn_21 stepped_22)
    else
    (nm (v8 + 1) fun x18 =>
    fX6_dayGoes_L10 v1 K n x18 now_9 landed_10 landedIn_11 stepped_12))
def fX6_dayGoes_L2 (K : Int32 → AI → AI → AI → AI → Option (AI × AI × AI × AI)) : Nat → Int32 → AI → AI → AI → AI → Option (AI × AI × AI × AI)
  | 0, _, _, _, _, _ => none
  | n + 1, v1, now_2, landed_3, landedIn_4, stepped_5 =>
    if 10 ≤ v1 then
    (K v1 now_2 landed_3 landedIn_4 stepped_5)
    else
    (fX6_dayGoes_L10 v1 (fun v8 now_9 landed_10 landedIn_11 stepped_12 =>
    nm (v1 + 1) fun x25 =>
    fX6_dayGoes_L2 K n x25 now_9 landed_10 landedIn_11 stepped_12) 4096 0 now_2 landed_3 landedIn_4 stepped_5)
def fX6_dayGoes (now : AI) (landed : AI) (landedIn : AI) (stepped : AI) : Option (AI × AI × AI × AI) :=
  fX6_dayGoes_L2 (fun v1 now_2 landed_3 landedIn_4 stepped_5 =>
  some (now_2, landed_3, landedIn_4, stepped_5)) 4096 0 now landed landedIn stepped
def fX6_goesAsItIs (st : AI) (now : AI) (landed : AI) (landedIn : AI) (stepped : AI) : Option (AI × AI × AI × AI) :=
  bd1 (fX6_starts st now) fun now_1 =>
  bd4 (fX6_dayGoes now_1 landed landedIn stepped) fun now_3 landed_4 landedIn_5 stepped_6 =>
  some (now_3, landed_4, landedIn_5, stepped_6)
def fX6_landIn_L4 (now : AI) (landed : AI) (p1 : Int32) (K : Int32 → Int32 → Option (Int32)) : Nat → Int32 → Int32 → Option (Int32)
  | 0, _, _ => none
  | n + 1, v1, v2 =>
    if (now 43) ≤ v1 then
    (K v1 v2)
    else
    (gd v1 5 <|
    nm (landed v1.toNatClampNeg) fun x6 =>
    bd1 ((if x6 = p1 then
    (some 1)
    else
    (some 0)) : Option (Int32)) fun y7 =>
    bd1 (fX6_flag y7) fun r10 =>
    nm (v2 ||| (r10 <<< (v1 &&& 31))) fun x12 =>
    nm (v1 + 1) fun x13 =>
    fX6_landIn_L4 now landed p1 K n x13 x12)
def fX6_landIn (p1 : Int32) (now : AI) (landed : AI) : Option (Int32) :=
  fX6_landIn_L4 now landed p1 (fun v1 v2 =>
  some v2) 4096 0 0
def fX6_hearersOf_L4 (now : AI) (hearers : Int32) (landed : AI) (p1 : Int32) (K : Int32 → Int32 → Option (Int32)) : Nat → Int32 → Int32 → Option (Int32)
  | 0, _, _ => none
  | n + 1, v1, v2 =>
    if hearers ≤ v1 then
    (K v1 v2)
    else
    (nm ((44 : Int32) + v1) fun x5 =>
    gd x5 61 <|
    nm (now x5.toNatClampNeg) fun x7 =>
    gd p1 5 <|
    bd1 ((if x7 = (landed p1.toNatClampNeg) then
    (some 1)
    else
    (some 0)) : Option (Int32)) fun y9 =>
    bd1 (fX6_flag y9) fun r12 =>
    nm (v2 + r12) fun x14 =>
    nm (v1 + 1) fun x15 =>
    fX6_hearersOf_L4 now hearers landed p1 K n x15 x14)
def fX6_hearersOf (p1 : Int32) (now : AI) (hearers : Int32) (landed : AI) : Option (Int32) :=
  fX6_hearersOf_L4 now hearers landed p1 (fun v1 v2 =>
  some v2) 4096 0 0
def fX6_heard_L4 (now : AI) (hearers : Int32) (landed : AI) (K : Int32 → Int32 → Option (Int32)) : Nat → Int32 → Int32 → Option (Int32)
  | 0, _, _ => none
  | n + 1, v1, v2 =>
    if (now 43) ≤ v1 then
    (K v1 v2)
    else
    (bd1 (fX6_hearersOf v1 now hearers landed) fun r5 =>
    bd1 ((if r5 ≤ 0 then
    (some 0)
    else
    (some 1)) : Option (Int32)) fun y7 =>
    bd1 (fX6_flag y7) fun r10 =>
    nm (v2 + r10) fun x12 =>
    nm (v1 + 1) fun x13 =>
    fX6_heard_L4 now hearers landed K n x13 x12)
def fX6_heard (now : AI) (hearers : Int32) (landed : AI) : Option (Int32) :=
  fX6_heard_L4 now hearers landed (fun v1 v2 =>
  some v2) 4096 0 0
def fX6_rule_L8 (now_1 : AI) (K : Int32 → Int32 → Option (Int32 × AI)) : Nat → Int32 → Int32 → Option (Int32 × AI)
  | 0, _, _ => none
  | n + 1, v3, v4 =>
    if 10 ≤ v3 then
    (K v3 v4)
    else
    (nm ((8 : Int32) + v3) fun x7 =>
    gd x7 61 <|
    nm (now_1 x7.toNatClampNeg) fun x9 =>
    bd1 ((if x9 = 4 then
    (some 0)
    else
    (some 1)) : Option (Int32)) fun y10 =>
    bd1 (fX6_flag y10) fun r13 =>
    nm (v4 ||| (r13 <<< (v3 &&& 31))) fun x15 =>
    nm (v3 + 1) fun x16 =>
    fX6_rule_L8 now_1 K n x16 x15)
def fX6_rule (p1 : Int32) (st : AI) (now : AI) (hearers : Int32) : Option (Int32 × AI) :=
  bd1 (fX6_starts st now) fun now_1 =>
  fX6_rule_L8 now_1 (fun v3 v4 =>
  if p1 = 0 then
  (nm (st 43) fun x19 =>
  some (x19, now_1))
  else
  (if p1 = 1 then
  (some (hearers, now_1))
  else
  (if p1 = 2 then
  (bd1 (fX6_walls now_1) fun r22 =>
  some (r22, now_1))
  else
  (if p1 = 3 then
  (some (v4, now_1))
  else
  (some ((-1), now_1)))))) 4096 0 0
def fX6_saying (p1 : Int32) (p2 : Int32) (st : AI) (now : AI) : Option (Int32 × AI) :=
  bd1 (fX6_isSaying p1 st) fun r1 =>
  if r1 = 0 then
  (some ((-1), now))
  else
  (nm (p2.toInt64) fun x4 =>
  bd1 (fX6_in x4 0 5) fun r5 =>
  if r5 = 0 then
  (some ((-1), now))
  else
  (bd1 (fX6_starts st now) fun now_8 =>
  if 5 ≤ p2 then
  (bd1 (fX6_reachOf p1 now_8) fun r11 =>
  some (r11, now_8))
  else
  (bd1 (fX6_of p1 p2 now_8) fun r13 =>
  some (r13, now_8))))
def fX6_hearer (p1 : Int32) (st : AI) (hearers : Int32) : Option (Int32) :=
  bd1 (fX6_isHearer p1 hearers) fun r1 =>
  if r1 = 0 then
  (some (-1))
  else
  (nm ((44 : Int32) + p1) fun x4 =>
  gd x4 183 <|
  nm (st x4.toNatClampNeg) fun x6 =>
  some x6)
def fX6_wall (p1 : Int32) (st : AI) (now : AI) : Option (Int32 × AI) :=
  bd1 (fX6_isCell p1) fun r1 =>
  if r1 = 0 then
  (some ((-1), now))
  else
  (bd1 (fX6_starts st now) fun now_4 =>
  bd1 (fX6_isWall p1 now_4) fun r6 =>
  bd1 (fX6_flag r6) fun r8 =>
  some (r8, now_4))
def fX6_wind (p1 : Int32) (st : AI) : Option (Int32) :=
  nm (p1.toInt64) fun x1 =>
  bd1 (fX6_in x1 0 9) fun r2 =>
  if r2 = 0 then
  (some (-1))
  else
  (nm ((8 : Int32) + p1) fun x5 =>
  gd x5 183 <|
  nm (st x5.toNatClampNeg) fun x7 =>
  some x7)
def fX6_becomes (p1 : Int32) (p2 : Int32) (st : AI) : Option (Int32 × AI) :=
  gd p1 183 <|
  nm (st p1.toNatClampNeg) fun x2 =>
  gd p1 183 <|
  nm (upd st p1.toNatClampNeg p2) fun st_4 =>
  some (x2, st_4)
def fX6_canBe (p1 : Int32) (p2 : Int32) : Option (Int32) :=
  if p1 = 0 then
  (nm (p2.toInt64) fun x2 =>
  bd1 (fX6_in x2 0 3) fun r3 =>
  gb r3 <|
  some r3)
  else
  (if p1 = 1 then
  (bd1 (fX6_isCell p2) fun r7 =>
  gb r7 <|
  some r7)
  else
  (if p1 = 2 then
  (nm (p2.toInt64) fun x11 =>
  bd1 (fX6_in x11 0 3) fun r12 =>
  gb r12 <|
  some r12)
  else
  (if p1 = 3 then
  (nm (p2.toInt64) fun x16 =>
  bd1 (fX6_in x16 1 9) fun r17 =>
  gb r17 <|
  some r17)
  else
  (if p1 = 4 then
  (nm (p2.toInt64) fun x21 =>
  bd1 (fX6_in x21 0 9) fun r22 =>
  gb r22 <|
  some r22)
  else
  (some 0)))))
def fX6_alter (p1 : Int32) (p2 : Int32) (p3 : Int32) (st : AI) : Option (Int32 × AI) :=
  bd1 (fX6_isSaying p1 st) fun r1 =>
  if r1 = 0 then
  (some ((-1), st))
  else
  (bd1 (fX6_canBe p2 p3) fun r4 =>
  if r4 = 0 then
  (some ((-1), st))
  else
  (nm ((18 : Int32) + ((5 : Int32) * p1)) fun x7 =>
  nm (x7 + p2) fun x8 =>
  bd2 (fX6_becomes x8 p3 st) fun r9 st_10 =>
  some (r9, st_10)))
def fX6_stand (p1 : Int32) (p2 : Int32) (st : AI) (hearers : Int32) : Option (Int32 × AI) :=
  bd1 (fX6_isHearer p1 hearers) fun r1 =>
  if r1 = 0 then
  (some ((-1), st))
  else
  (bd1 (fX6_isCell p2) fun r4 =>
  if r4 = 0 then
  (some ((-1), st))
  else
  (nm ((44 : Int32) + p1) fun x7 =>
  bd2 (fX6_becomes x7 p2 st) fun r8 st_9 =>
  some (r8, st_9)))
def fX6_build (p1 : Int32) (p2 : Int32) (st : AI) (now : AI) : Option (Int32 × AI × AI) :=
  bd1 (fX6_isCell p1) fun r1 =>
  if r1 = 0 then
  (some ((-1), st, now))
  else
  (bd1 (fX6_starts st now) fun now_4 =>
  bd1 (fX6_isWall p1 now_4) fun r6 =>
  bd1 (fX6_flag r6) fun r8 =>
  if p2 = 0 then
  (nm (p1 / (10 : Int32)) fun x11 =>
  if p2 = 0 then
  (gd x11 183 <|
  nm (st x11.toNatClampNeg) fun x14 =>
  nm ((1 : Int32) <<< ((p1 - p1 / (10 : Int32) * (10 : Int32)) &&& 31)) fun x15 =>
  nm (x14 &&& (x15 ^^^ (-1 : Int32))) fun x16 =>
  gd x11 183 <|
  nm (upd st x11.toNatClampNeg x16) fun st_18 =>
  some (r8, st_18, now_4))
  else
  (gd x11 183 <|
  nm (st x11.toNatClampNeg) fun x20 =>
  nm (x20 ||| ((1 : Int32) <<< ((p1 - p1 / (10 : Int32) * (10 : Int32)) &&& 31))) fun x21 =>
  gd x11 183 <|
  nm (upd st x11.toNatClampNeg x21) fun st_23 =>
  some (r8, st_23, now_4)))
  else
  (if r8 = 0 then
  (bd1 (fX6_walls now_4) fun r38 =>
  if r38 = 12 then
  (some ((-3), st, now_4))
  else
  (nm (p1 / (10 : Int32)) fun x41 =>
  if p2 = 0 then
  (gd x41 183 <|
  nm (st x41.toNatClampNeg) fun x44 =>
  nm ((1 : Int32) <<< ((p1 - p1 / (10 : Int32) * (10 : Int32)) &&& 31)) fun x45 =>
  nm (x44 &&& (x45 ^^^ (-1 : Int32))) fun x46 =>
  gd x41 183 <|
  nm (upd st x41.toNatClampNeg x46) fun st_48 =>
  some (r8, st_48, now_4))
  else
  (gd x41 183 <|
  nm (st x41.toNatClampNeg) fun x50 =>
  nm (x50 ||| ((1 : Int32) <<< ((p1 - p1 / (10 : Int32) * (10 : Int32)) &&& 31))) fun x51 =>
  gd x41 183 <|
  nm (upd st x41.toNatClampNeg x51) fun st_53 =>
  some (r8, st_53, now_4))))
  else
  (nm (p1 / (10 : Int32)) fun x25 =>
  if p2 = 0 then
  (gd x25 183 <|
  nm (st x25.toNatClampNeg) fun x28 =>
  nm ((1 : Int32) <<< ((p1 - p1 / (10 : Int32) * (10 : Int32)) &&& 31)) fun x29 =>
  nm (x28 &&& (x29 ^^^ (-1 : Int32))) fun x30 =>
  gd x25 183 <|
  nm (upd st x25.toNatClampNeg x30) fun st_32 =>
  some (r8, st_32, now_4))
  else
  (gd x25 183 <|
  nm (st x25.toNatClampNeg) fun x34 =>
  nm (x34 ||| ((1 : Int32) <<< ((p1 - p1 / (10 : Int32) * (10 : Int32)) &&& 31))) fun x35 =>
  gd x25 183 <|
  nm (upd st x25.toNatClampNeg x35) fun st_37 =>
  some (r8, st_37, now_4)))))
def fX6_blow (p1 : Int32) (p2 : Int32) (st : AI) : Option (Int32 × AI) :=
  nm (p1.toInt64) fun x1 =>
  bd1 (fX6_in x1 0 9) fun r2 =>
  if r2 = 0 then
  (some ((-1), st))
  else
  (nm (p2.toInt64) fun x5 =>
  bd1 (fX6_in x5 0 4) fun r6 =>
  if r6 = 0 then
  (some ((-1), st))
  else
  (nm ((8 : Int32) + p1) fun x9 =>
  bd2 (fX6_becomes x9 p2 st) fun r10 st_11 =>
  some (r10, st_11)))
def fX6_say (p1 : Int32) (p2 : Int32) (p3 : Int32) (st : AI) : Option (Int32 × AI) :=
  bd1 (fX6_isCell p1) fun r1 =>
  if r1 = 0 then
  (some ((-1), st))
  else
  (nm (p2.toInt64) fun x4 =>
  bd1 (fX6_in x4 0 3) fun r5 =>
  if r5 = 0 then
  (some ((-1), st))
  else
  (nm (p3.toInt64) fun x8 =>
  bd1 (fX6_in x8 1 9) fun r9 =>
  if r9 = 0 then
  (some ((-1), st))
  else
  (nm (st 43) fun x12 =>
  if x12 = 5 then
  (some ((-3), st))
  else
  (nm ((18 : Int32) + ((5 : Int32) * (st 43))) fun x14 =>
  nm (x14 + (0 : Int32)) fun x15 =>
  gd x15 183 <|
  nm (upd st x15.toNatClampNeg 0) fun st_17 =>
  nm (x14 + (1 : Int32)) fun x18 =>
  gd x18 183 <|
  nm (upd st_17 x18.toNatClampNeg p1) fun st_20 =>
  nm (x14 + (2 : Int32)) fun x21 =>
  gd x21 183 <|
  nm (upd st_20 x21.toNatClampNeg p2) fun st_23 =>
  nm (x14 + (3 : Int32)) fun x24 =>
  gd x24 183 <|
  nm (upd st_23 x24.toNatClampNeg p3) fun st_26 =>
  nm (x14 + (4 : Int32)) fun x27 =>
  gd x27 183 <|
  nm (upd st_26 x27.toNatClampNeg 0) fun st_29 =>
  nm (st_29 43) fun x30 =>
  nm (x30 + (1 : Int32)) fun x31 =>
  nm (upd st_29 43 x31) fun st_32 =>
  nm (st_32 43) fun x33 =>
  nm (x33 - (1 : Int32)) fun x34 =>
  some (x34, st_32)))))
def fX6_lands (p1 : Int32) (p2 : Int32) (st : AI) (now : AI) (landed : AI) (landedIn : AI) (stepped : AI) : Option (Int32 × AI × AI × AI × AI) :=
  bd1 (fX6_isSaying p1 st) fun r1 =>
  if r1 = 0 then
  (some ((-1), now, landed, landedIn, stepped))
  else
  (nm (p2.toInt64) fun x4 =>
  bd1 (fX6_in x4 0 2) fun r5 =>
  if r5 = 0 then
  (some ((-1), now, landed, landedIn, stepped))
  else
  (bd4 (fX6_goesAsItIs st now landed landedIn stepped) fun now_8 landed_9 landedIn_10 stepped_11 =>
  if p2 = 0 then
  (gd p1 5 <|
  nm (landed_9 p1.toNatClampNeg) fun x20 =>
  some (x20, now_8, landed_9, landedIn_10, stepped_11))
  else
  (if p2 = 1 then
  (gd p1 5 <|
  nm (landedIn_10 p1.toNatClampNeg) fun x18 =>
  some (x18, now_8, landed_9, landedIn_10, stepped_11))
  else
  (gd p1 5 <|
  nm (stepped_11 p1.toNatClampNeg) fun x16 =>
  some (x16, now_8, landed_9, landedIn_10, stepped_11)))))
def fX6_hears (p1 : Int32) (st : AI) (now : AI) (hearers : Int32) (landed : AI) (landedIn : AI) (stepped : AI) : Option (Int32 × AI × AI × AI × AI) :=
  bd1 (fX6_isHearer p1 hearers) fun r1 =>
  if r1 = 0 then
  (some ((-1), now, landed, landedIn, stepped))
  else
  (bd4 (fX6_goesAsItIs st now landed landedIn stepped) fun now_4 landed_5 landedIn_6 stepped_7 =>
  nm ((44 : Int32) + p1) fun x9 =>
  gd x9 61 <|
  nm (now_4 x9.toNatClampNeg) fun x11 =>
  bd1 (fX6_landIn x11 now_4 landed_5) fun r12 =>
  some (r12, now_4, landed_5, landedIn_6, stepped_7))
def fX6_field (p1 : Int32) (p2 : Int32) (st : AI) (now : AI) (landed : AI) (landedIn : AI) (stepped : AI) : Option (Int32 × AI × AI × AI × AI) :=
  bd1 (fX6_isCell p1) fun r1 =>
  if r1 = 0 then
  (some ((-1), now, landed, landedIn, stepped))
  else
  (bd1 (fX6_isPart p2) fun r4 =>
  if r4 = 0 then
  (some ((-1), now, landed, landedIn, stepped))
  else
  (bd4 (fX6_goesAsItIs st now landed landedIn stepped) fun now_7 landed_8 landedIn_9 stepped_10 =>
  if p2 = 0 then
  (bd1 (fX6_landIn p1 now_7 landed_8) fun r17 =>
  some (r17, now_7, landed_8, landedIn_9, stepped_10))
  else
  (bd1 (fX6_isWall p1 now_7) fun r13 =>
  bd1 (fX6_flag r13) fun r15 =>
  some (r15, now_7, landed_8, landedIn_9, stepped_10))))
def fX6_sum_L25 (now_5 : AI) (landedIn_7 : AI) (stepped_8 : AI) (K : Int32 → Int32 → Int32 → Option (Int32 × AI × AI × AI × AI)) : Nat → Int32 → Int32 → Int32 → Option (Int32 × AI × AI × AI × AI)
  | 0, _, _, _ => none
  | n + 1, v10, v11, v12 =>
    if (now_5 43) ≤ v10 then
    (K v10 v11 v12)
    else
    (gd v10 5 <|
    nm (v12 + (stepped_8 v10.toNatClampNeg)) fun x16 =>
    gd v10 5 <|
    nm (v11 ||| ((1 : Int32) <<< ((landedIn_7 v10.toNatClampNeg) &&& 31))) fun x18 =>
    nm (v10 + 1) fun x19 =>
    fX6_sum_L25 now_5 landedIn_7 stepped_8 K n x19 x18 x16)
def fX6_sum (p1 : Int32) (st : AI) (now : AI) (hearers : Int32) (landed : AI) (landedIn : AI) (stepped : AI) : Option (Int32 × AI × AI × AI × AI) :=
  nm (p1.toInt64) fun x1 =>
  bd1 (fX6_in x1 0 3) fun r2 =>
  if r2 = 0 then
  (some ((-1), now, landed, landedIn, stepped))
  else
  (bd4 (fX6_goesAsItIs st now landed landedIn stepped) fun now_5 landed_6 landedIn_7 stepped_8 =>
  fX6_sum_L25 now_5 landedIn_7 stepped_8 (fun v10 v11 v12 =>
  if p1 = 0 then
  (bd1 (fX6_heard now_5 hearers landed_6) fun r25 =>
  some (r25, now_5, landed_6, landedIn_7, stepped_8))
  else
  (if p1 = 1 then
  (bd1 (fX6_walls now_5) fun r23 =>
  some (r23, now_5, landed_6, landedIn_7, stepped_8))
  else
  (if p1 = 2 then
  (some (v12, now_5, landed_6, landedIn_7, stepped_8))
  else
  (some (v11, now_5, landed_6, landedIn_7, stepped_8))))) 4096 0 0 0)
def fX6_isWallAhead (p1 : Int32) (st : AI) : Option (Int32) :=
  nm (p1 / (10 : Int32)) fun x1 =>
  gd x1 183 <|
  nm (st x1.toNatClampNeg) fun x3 =>
  nm (x3 >>> ((p1 - p1 / (10 : Int32) * (10 : Int32)) &&& 31)) fun x4 =>
  nm (x4 &&& (1 : Int32)) fun x5 =>
  if x5 = 1 then
  (some 1)
  else
  (some 0)
def fX6_most_L21 (st : AI) (now_4 : AI) (landed_5 : AI) (K : Int32 → Int32 → Int32 → Option (Int32 × AI × AI × AI × AI)) : Nat → Int32 → Int32 → Int32 → Option (Int32 × AI × AI × AI × AI)
  | 0, _, _, _ => none
  | n + 1, v9, v10, v11 =>
    if 64 ≤ v9 then
    (K v9 v10 v11)
    else
    (bd1 (fX6_cellAt v9) fun r14 =>
    bd1 (fX6_isWallAhead r14 st) fun r16 =>
    bd1 ((if r16 = 0 then
    (bd1 (fX6_landIn r14 now_4 landed_5) fun r29 =>
    bd1 (fX6_bitsOf r29) fun r31 =>
    some r31)
    else
    (some (-1))) : Option (Int32)) fun y18 =>
    bd1 ((if y18 ≤ v11 then
    (some v10)
    else
    (some r14)) : Option (Int32)) fun y21 =>
    if y18 ≤ v11 then
    (nm (v9 + 1) fun x25 =>
    fX6_most_L21 st now_4 landed_5 K n x25 y21 v11)
    else
    (nm (v9 + 1) fun x26 =>
    fX6_most_L21 st now_4 landed_5 K n x26 y21 y18))
def fX6_most (p1 : Int32) (st : AI) (now : AI) (landed : AI) (landedIn : AI) (stepped : AI) : Option (Int32 × AI × AI × AI × AI) :=
  bd1 (fX6_isPart p1) fun r1 =>
  if r1 = 0 then
  (some ((-1), now, landed, landedIn, stepped))
  else
  (bd4 (fX6_goesAsItIs st now landed landedIn stepped) fun now_4 landed_5 landedIn_6 stepped_7 =>
  fX6_most_L21 st now_4 landed_5 (fun v9 v10 v11 =>
  if v10 = (-4) then
  (some ((-4), now_4, landed_5, landedIn_6, stepped_7))
  else
  (if p1 = 0 then
  (some (v10, now_4, landed_5, landedIn_6, stepped_7))
  else
  (some (v11, now_4, landed_5, landedIn_6, stepped_7)))) 4096 0 (-4) (-1))
def fX6_goesSaid (p1 : Int32) (p2 : Int32) (p3 : Int32) (st : AI) (now : AI) (landed : AI) (landedIn : AI) (stepped : AI) : Option (AI × AI × AI × AI) :=
  bd1 (fX6_starts st now) fun now_1 =>
  bd1 (fX6_becomesOf p1 3 p2 now_1) fun now_3 =>
  bd1 (fX6_becomesOf p1 2 p3 now_3) fun now_5 =>
  bd4 (fX6_dayGoes now_5 landed landedIn stepped) fun now_7 landed_8 landedIn_9 stepped_10 =>
  some (now_7, landed_8, landedIn_9, stepped_10)
def fX6_aim_L28 (st : AI) (p1 : Int32) (p2 : Int32) (v7 : Int32) (K : Int32 → AI → AI → AI → AI → Option (Int32 × AI × AI × AI × AI)) : Nat → Int32 → AI → AI → AI → AI → Option (Int32 × AI × AI × AI × AI)
  | 0, _, _, _, _, _ => none
  | n + 1, v14, now_15, landed_16, landedIn_17, stepped_18 =>
    if 4 ≤ v14 then
    (K v14 now_15 landed_16 landedIn_17 stepped_18)
    else
    (bd4 (fX6_goesSaid p1 v7 v14 st now_15 landed_16 landedIn_17 stepped_18) fun now_21 landed_22 landedIn_23 stepped_24 =>
    gd p1 5 <|
    nm (landed_22 p1.toNatClampNeg) fun x27 =>
    if x27 = p2 then
    (nm ((10 : Int32) * v7) fun x30 =>
    nm (x30 + v14) fun x31 =>
    some (x31, now_21, landed_22, landedIn_23, stepped_24))
    else
    (nm (v14 + 1) fun x29 =>
    fX6_aim_L28 st p1 p2 v7 K n x29 now_21 landed_22 landedIn_23 stepped_24))
def fX6_aim_L19 (st : AI) (p1 : Int32) (p2 : Int32) (K : Int32 → AI → AI → AI → AI → Option (Int32 × AI × AI × AI × AI)) : Nat → Int32 → AI → AI → AI → AI → Option (Int32 × AI × AI × AI × AI)
  | 0, _, _, _, _, _ => none
  | n + 1, v7, now_8, landed_9, landedIn_10, stepped_11 =>
    if 9 < v7 then
    (K v7 now_8 landed_9 landedIn_10 stepped_11)
    else
    (fX6_aim_L28 st p1 p2 v7 (fun v14 now_15 landed_16 landedIn_17 stepped_18 =>
    nm (v7 + 1) fun x32 =>
    fX6_aim_L19 st p1 p2 K n x32 now_15 landed_16 landedIn_17 stepped_18) 4096 0 now_8 landed_9 landedIn_10 stepped_11)
def fX6_aim (p1 : Int32) (p2 : Int32) (st : AI) (now : AI) (landed : AI) (landedIn : AI) (stepped : AI) : Option (Int32 × AI × AI × AI × AI) :=
  bd1 (fX6_isSaying p1 st) fun r1 =>
  if r1 = 0 then
  (some ((-1), now, landed, landedIn, stepped))
  else
  (bd1 (fX6_isCell p2) fun r4 =>
  if r4 = 0 then
  (some ((-1), now, landed, landedIn, stepped))
  else
  (fX6_aim_L19 st p1 p2 (fun v7 now_8 landed_9 landedIn_10 stepped_11 =>
  some ((-4), now_8, landed_9, landedIn_10, stepped_11)) 4096 1 now landed landedIn stepped))
def fX6_reach_L14 (K : Int32 → AI → Option (Int32 × AI × AI × AI × AI × AI)) : Nat → Int32 → AI → Option (Int32 × AI × AI × AI × AI × AI)
  | 0, _, _ => none
  | n + 1, v4, isThere_5 =>
    if 80 ≤ v4 then
    (K v4 isThere_5)
    else
    (gd v4 80 <|
    nm (upd isThere_5 v4.toNatClampNeg (vp_nar .boolean 0)) fun isThere_9 =>
    nm (v4 + 1) fun x10 =>
    fX6_reach_L14 K n x10 isThere_9)
def fX6_reach_L44 (st : AI) (p1 : Int32) (v11 : Int32) (K : Int32 → Int32 → AI → AI → AI → AI → AI → Option (Int32 × AI × AI × AI × AI × AI)) : Nat → Int32 → Int32 → AI → AI → AI → AI → AI → Option (Int32 × AI × AI × AI × AI × AI)
  | 0, _, _, _, _, _, _, _ => none
  | n + 1, v20, v21, now_22, landed_23, landedIn_24, stepped_25, isThere_26 =>
    if 4 ≤ v20 then
    (K v20 v21 now_22 landed_23 landedIn_24 stepped_25 isThere_26)
    else
    (bd4 (fX6_goesSaid p1 v11 v20 st now_22 landed_23 landedIn_24 stepped_25) fun now_29 landed_30 landedIn_31 stepped_32 =>
    gd p1 5 <|
    nm (landed_30 p1.toNatClampNeg) fun x35 =>
    gd x35 80 <|
    bd1 ((if (isThere_26 x35.toNatClampNeg) = 0 then
    (some 1)
    else
    (some 0)) : Option (Int32)) fun y37 =>
    bd1 (fX6_flag y37) fun r40 =>
    nm (v21 + r40) fun x42 =>
    gd p1 5 <|
    nm (landed_30 p1.toNatClampNeg) fun x44 =>
    gd x44 80 <|
    nm (upd isThere_26 x44.toNatClampNeg (vp_nar .boolean 1)) fun isThere_46 =>
    nm (v20 + 1) fun x47 =>
    fX6_reach_L44 st p1 v11 K n x47 x42 now_29 landed_30 landedIn_31 stepped_32 isThere_46)
def fX6_reach_L35 (st : AI) (p1 : Int32) (K : Int32 → Int32 → AI → AI → AI → AI → AI → Option (Int32 × AI × AI × AI × AI × AI)) : Nat → Int32 → Int32 → AI → AI → AI → AI → AI → Option (Int32 × AI × AI × AI × AI × AI)
  | 0, _, _, _, _, _, _, _ => none
  | n + 1, v11, v12, now_13, landed_14, landedIn_15, stepped_16, isThere_17 =>
    if 9 < v11 then
    (K v11 v12 now_13 landed_14 landedIn_15 stepped_16 isThere_17)
    else
    (fX6_reach_L44 st p1 v11 (fun v20 v21 now_22 landed_23 landedIn_24 stepped_25 isThere_26 =>
    nm (v11 + 1) fun x49 =>
    fX6_reach_L35 st p1 K n x49 v21 now_22 landed_23 landedIn_24 stepped_25 isThere_26) 4096 0 v12 now_13 landed_14 landedIn_15 stepped_16 isThere_17)
def fX6_reach (p1 : Int32) (st : AI) (now : AI) (landed : AI) (landedIn : AI) (stepped : AI) (isThere : AI) : Option (Int32 × AI × AI × AI × AI × AI) :=
  bd1 (fX6_isSaying p1 st) fun r1 =>
  if r1 = 0 then
  (some ((-1), now, landed, landedIn, stepped, isThere))
  else
  (fX6_reach_L14 (fun v4 isThere_5 =>
  fX6_reach_L35 st p1 (fun v11 v12 now_13 landed_14 landedIn_15 stepped_16 isThere_17 =>
  some (v12, now_13, landed_14, landedIn_15, stepped_16, isThere_17)) 4096 1 0 now landed landedIn stepped isThere_5) 4096 0 isThere)
def fX6_screen_L42 (st : AI) (p1 : Int32) (K : Int32 → AI → AI → AI → AI → Option (Int32 × AI × AI × AI × AI)) : Nat → Int32 → AI → AI → AI → AI → Option (Int32 × AI × AI × AI × AI)
  | 0, _, _, _, _, _ => none
  | n + 1, v17, now_18, landed_19, landedIn_20, stepped_21 =>
    if 64 ≤ v17 then
    (K v17 now_18 landed_19 landedIn_20 stepped_21)
    else
    (bd1 (fX6_cellAt v17) fun r24 =>
    bd1 (fX6_starts st now_18) fun now_26 =>
    bd1 (fX6_isWall r24 now_26) fun r28 =>
    if r28 = 0 then
    (nm (r24 / (10 : Int32)) fun x32 =>
    gd x32 61 <|
    nm (now_26 x32.toNatClampNeg) fun x34 =>
    nm (x34 ||| ((1 : Int32) <<< ((r24 - r24 / (10 : Int32) * (10 : Int32)) &&& 31))) fun x35 =>
    gd x32 61 <|
    nm (upd now_26 x32.toNatClampNeg x35) fun now_37 =>
    bd4 (fX6_dayGoes now_37 landed_19 landedIn_20 stepped_21) fun now_38 landed_39 landedIn_40 stepped_41 =>
    bd1 (fX6_landIn p1 now_38 landed_39) fun r43 =>
    if r43 = 0 then
    (some (r24, now_38, landed_39, landedIn_40, stepped_41))
    else
    (nm (v17 + 1) fun x46 =>
    fX6_screen_L42 st p1 K n x46 now_38 landed_39 landedIn_40 stepped_41))
    else
    (nm (v17 + 1) fun x31 =>
    fX6_screen_L42 st p1 K n x31 now_26 landed_19 landedIn_20 stepped_21))
def fX6_screen (p1 : Int32) (st : AI) (now : AI) (landed : AI) (landedIn : AI) (stepped : AI) : Option (Int32 × AI × AI × AI × AI) :=
  bd1 (fX6_isCell p1) fun r1 =>
  if r1 = 0 then
  (some ((-1), now, landed, landedIn, stepped))
  else
  (bd1 (fX6_starts st now) fun now_4 =>
  bd1 (fX6_walls now_4) fun r6 =>
  if r6 = 12 then
  (some ((-3), now_4, landed, landedIn, stepped))
  else
  (bd4 (fX6_dayGoes now_4 landed landedIn stepped) fun now_9 landed_10 landedIn_11 stepped_12 =>
  bd1 (fX6_landIn p1 now_9 landed_10) fun r14 =>
  if r14 = 0 then
  (some ((-4), now_9, landed_10, landedIn_11, stepped_12))
  else
  (fX6_screen_L42 st p1 (fun v17 now_18 landed_19 landedIn_20 stepped_21 =>
  some ((-4), now_18, landed_19, landedIn_20, stepped_21)) 4096 0 now_9 landed_10 landedIn_11 stepped_12)))
def fX6_isFree_L17 (now : AI) (landed : AI) (landedIn : AI) (p1 : Int32) (p2 : Int32) (K : Int32 → Int32 → Option (Int32)) : Nat → Int32 → Int32 → Option (Int32)
  | 0, _, _ => none
  | n + 1, v6, v7 =>
    if (now 43) ≤ v6 then
    (K v6 v7)
    else
    (if v7 = 0 then
    (nm (v6 + 1) fun x11 =>
    fX6_isFree_L17 now landed landedIn p1 p2 K n x11 0)
    else
    (gd v6 5 <|
    nm (landed v6.toNatClampNeg) fun x13 =>
    if x13 = p1 then
    (gd v6 5 <|
    nm (landedIn v6.toNatClampNeg) fun x17 =>
    if x17 = p2 then
    (nm (v6 + 1) fun x19 =>
    fX6_isFree_L17 now landed landedIn p1 p2 K n x19 0)
    else
    (nm (v6 + 1) fun x20 =>
    fX6_isFree_L17 now landed landedIn p1 p2 K n x20 1))
    else
    (nm (v6 + 1) fun x15 =>
    fX6_isFree_L17 now landed landedIn p1 p2 K n x15 1)))
def fX6_isFree (p1 : Int32) (p2 : Int32) (st : AI) (now : AI) (landed : AI) (landedIn : AI) : Option (Int32) :=
  bd1 (fX6_isWallAhead p1 st) fun r1 =>
  bd1 ((if r1 = 0 then
  (some 1)
  else
  (some 0)) : Option (Int32)) fun y3 =>
  fX6_isFree_L17 now landed landedIn p1 p2 (fun v6 v7 =>
  gb v7 <|
  some v7) 4096 0 y3
def fX6_beginsWalk_L6 (K : Int32 → AI → Option (AI × AI × AI × AI × AI)) : Nat → Int32 → AI → Option (AI × AI × AI × AI × AI)
  | 0, _, _ => none
  | n + 1, v6, isAt_7 =>
    if 80 ≤ v6 then
    (K v6 isAt_7)
    else
    (gd v6 80 <|
    nm (upd isAt_7 v6.toNatClampNeg (vp_nar .boolean 0)) fun isAt_11 =>
    nm (v6 + 1) fun x12 =>
    fX6_beginsWalk_L6 K n x12 isAt_11)
def fX6_beginsWalk (p1 : Int32) (st : AI) (now : AI) (landed : AI) (landedIn : AI) (stepped : AI) (isAt : AI) : Option (AI × AI × AI × AI × AI) :=
  bd4 (fX6_goesAsItIs st now landed landedIn stepped) fun now_1 landed_2 landedIn_3 stepped_4 =>
  fX6_beginsWalk_L6 (fun v6 isAt_7 =>
  bd1 (fX6_isFree p1 0 st now_1 landed_2 landedIn_3) fun r13 =>
  gd p1 80 <|
  nm (upd isAt_7 p1.toNatClampNeg (vp_nar .boolean r13)) fun isAt_16 =>
  some (now_1, landed_2, landedIn_3, stepped_4, isAt_16)) 4096 0 isAt
def fX6_walksOn_L24 (isAt : AI) (r5 : Int32) (K : Int32 → Int32 → Option (AI × AI)) : Nat → Int32 → Int32 → Option (AI × AI)
  | 0, _, _ => none
  | n + 1, v9, v10 =>
    if 4 ≤ v9 then
    (K v9 v10)
    else
    (bd1 (fX6_beside r5 v9) fun r13 =>
    if v10 = 0 then
    (if r13 = (-4) then
    (nm (v9 + 1) fun x18 =>
    fX6_walksOn_L24 isAt r5 K n x18 0)
    else
    (gd r13 80 <|
    if (isAt r13.toNatClampNeg) = 0 then
    (nm (v9 + 1) fun x21 =>
    fX6_walksOn_L24 isAt r5 K n x21 0)
    else
    (nm (v9 + 1) fun x22 =>
    fX6_walksOn_L24 isAt r5 K n x22 1)))
    else
    (nm (v9 + 1) fun x16 =>
    fX6_walksOn_L24 isAt r5 K n x16 1))
def fX6_walksOn_L2 (st : AI) (now : AI) (landed : AI) (landedIn : AI) (isAt : AI) (p1 : Int32) (K : Int32 → AI → Option (AI × AI)) : Nat → Int32 → AI → Option (AI × AI)
  | 0, _, _ => none
  | n + 1, v1, isNext_2 =>
    if 64 ≤ v1 then
    (K v1 isNext_2)
    else
    (bd1 (fX6_cellAt v1) fun r5 =>
    gd r5 80 <|
    nm (isAt r5.toNatClampNeg) fun x8 =>
    fX6_walksOn_L24 isAt r5 (fun v9 v10 =>
    if v10 = 0 then
    (gd r5 80 <|
    nm (upd isNext_2 r5.toNatClampNeg (vp_nar .boolean 0)) fun isNext_25 =>
    nm (v1 + 1) fun x26 =>
    fX6_walksOn_L2 st now landed landedIn isAt p1 K n x26 isNext_25)
    else
    (bd1 (fX6_isFree r5 p1 st now landed landedIn) fun r27 =>
    if r27 = 0 then
    (gd r5 80 <|
    nm (upd isNext_2 r5.toNatClampNeg (vp_nar .boolean 0)) fun isNext_31 =>
    nm (v1 + 1) fun x32 =>
    fX6_walksOn_L2 st now landed landedIn isAt p1 K n x32 isNext_31)
    else
    (gd r5 80 <|
    nm (upd isNext_2 r5.toNatClampNeg (vp_nar .boolean 1)) fun isNext_34 =>
    nm (v1 + 1) fun x35 =>
    fX6_walksOn_L2 st now landed landedIn isAt p1 K n x35 isNext_34))) 4096 0 x8)
def fX6_walksOn_L106 (isNext_2 : AI) (K : Int32 → AI → Option (AI × AI)) : Nat → Int32 → AI → Option (AI × AI)
  | 0, _, _ => none
  | n + 1, v36, isAt_37 =>
    if 64 ≤ v36 then
    (K v36 isAt_37)
    else
    (bd1 (fX6_cellAt v36) fun r40 =>
    bd1 (fX6_cellAt v36) fun r42 =>
    gd r42 80 <|
    nm (isNext_2 r42.toNatClampNeg) fun x45 =>
    gd r40 80 <|
    nm (upd isAt_37 r40.toNatClampNeg (vp_nar .boolean x45)) fun isAt_47 =>
    nm (v36 + 1) fun x48 =>
    fX6_walksOn_L106 isNext_2 K n x48 isAt_47)
def fX6_walksOn (p1 : Int32) (st : AI) (now : AI) (landed : AI) (landedIn : AI) (isAt : AI) (isNext : AI) : Option (AI × AI) :=
  fX6_walksOn_L2 st now landed landedIn isAt p1 (fun v1 isNext_2 =>
  fX6_walksOn_L106 isNext_2 (fun v36 isAt_37 =>
  some (isAt_37, isNext_2)) 4096 0 isAt) 4096 0 isNext
def fX6_walk_L23 (st : AI) (p2 : Int32) (now_7 : AI) (landed_8 : AI) (landedIn_9 : AI) (stepped_10 : AI) (K : Int32 → AI → AI → Option (Int32 × AI × AI × AI × AI × AI × AI)) : Nat → Int32 → AI → AI → Option (Int32 × AI × AI × AI × AI × AI × AI)
  | 0, _, _, _ => none
  | n + 1, v13, isAt_14, isNext_15 =>
    if 10 ≤ v13 then
    (K v13 isAt_14 isNext_15)
    else
    (bd2 ((if v13 ≤ 0 then
    (some (isAt_14, isNext_15))
    else
    (bd2 (fX6_walksOn v13 st now_7 landed_8 landedIn_9 isAt_14 isNext_15) fun isAt_26 isNext_27 =>
    some (isAt_26, isNext_27))) : Option (AI × AI)) fun isAt_18 isNext_19 =>
    gd p2 80 <|
    if (isAt_18 p2.toNatClampNeg) = 0 then
    (nm (v13 + 1) fun x24 =>
    fX6_walk_L23 st p2 now_7 landed_8 landedIn_9 stepped_10 K n x24 isAt_18 isNext_19)
    else
    (some (v13, now_7, landed_8, landedIn_9, stepped_10, isAt_18, isNext_19)))
def fX6_walk (p1 : Int32) (p2 : Int32) (st : AI) (now : AI) (landed : AI) (landedIn : AI) (stepped : AI) (isAt : AI) (isNext : AI) : Option (Int32 × AI × AI × AI × AI × AI × AI) :=
  bd1 (fX6_isCell p1) fun r1 =>
  if r1 = 0 then
  (some ((-1), now, landed, landedIn, stepped, isAt, isNext))
  else
  (bd1 (fX6_isCell p2) fun r4 =>
  if r4 = 0 then
  (some ((-1), now, landed, landedIn, stepped, isAt, isNext))
  else
  (bd5 (fX6_beginsWalk p1 st now landed landedIn stepped isAt) fun now_7 landed_8 landedIn_9 stepped_10 isAt_11 =>
  fX6_walk_L23 st p2 now_7 landed_8 landedIn_9 stepped_10 (fun v13 isAt_14 isNext_15 =>
  some ((-4), now_7, landed_8, landedIn_9, stepped_10, isAt_14, isNext_15)) 4096 0 isAt_11 isNext))
def fX6_walks_L18 (st : AI) (now_4 : AI) (landed_5 : AI) (landedIn_6 : AI) (K : Int32 → AI → AI → Option (Int32 × AI × AI × AI × AI × AI × AI)) : Nat → Int32 → AI → AI → Option (Int32 × AI × AI × AI × AI × AI × AI)
  | 0, _, _, _ => none
  | n + 1, v10, isAt_11, isNext_12 =>
    if 10 ≤ v10 then
    (K v10 isAt_11 isNext_12)
    else
    (bd2 (fX6_walksOn v10 st now_4 landed_5 landedIn_6 isAt_11 isNext_12) fun isAt_15 isNext_16 =>
    nm (v10 + 1) fun x18 =>
    fX6_walks_L18 st now_4 landed_5 landedIn_6 K n x18 isAt_15 isNext_16)
def fX6_walks_L37 (isAt_11 : AI) (K : Int32 → Int32 → Option (Int32 × AI × AI × AI × AI × AI × AI)) : Nat → Int32 → Int32 → Option (Int32 × AI × AI × AI × AI × AI × AI)
  | 0, _, _ => none
  | n + 1, v19, v20 =>
    if 80 ≤ v19 then
    (K v19 v20)
    else
    (gd v19 80 <|
    nm (isAt_11 v19.toNatClampNeg) fun x24 =>
    bd1 (fX6_flag x24) fun r25 =>
    nm (v20 + r25) fun x27 =>
    nm (v19 + 1) fun x28 =>
    fX6_walks_L37 isAt_11 K n x28 x27)
def fX6_walks (p1 : Int32) (st : AI) (now : AI) (landed : AI) (landedIn : AI) (stepped : AI) (isAt : AI) (isNext : AI) : Option (Int32 × AI × AI × AI × AI × AI × AI) :=
  bd1 (fX6_isCell p1) fun r1 =>
  if r1 = 0 then
  (some ((-1), now, landed, landedIn, stepped, isAt, isNext))
  else
  (bd5 (fX6_beginsWalk p1 st now landed landedIn stepped isAt) fun now_4 landed_5 landedIn_6 stepped_7 isAt_8 =>
  fX6_walks_L18 st now_4 landed_5 landedIn_6 (fun v10 isAt_11 isNext_12 =>
  fX6_walks_L37 isAt_11 (fun v19 v20 =>
  some (v20, now_4, landed_5, landedIn_6, stepped_7, isAt_11, isNext_12)) 4096 0 0) 4096 1 isAt_8 isNext)
def fX6_when_L25 (st : AI) (hearers : Int32) (p1 : Int32) (K : Int32 → Int32 → Int32 → AI → AI → AI → AI → Option (Int32 × AI × AI × AI × AI)) : Nat → Int32 → Int32 → Int32 → AI → AI → AI → AI → Option (Int32 × AI × AI × AI × AI)
  | 0, _, _, _, _, _, _, _ => none
  | n + 1, v7, v8, v9, now_10, landed_11, landedIn_12, stepped_13 =>
    if 10 ≤ v7 then
    (K v7 v8 v9 now_10 landed_11 landedIn_12 stepped_13)
    else
    (bd1 (fX6_starts st now_10) fun now_16 =>
    bd1 (fX6_becomesOf p1 4 v7 now_16) fun now_18 =>
    bd4 (fX6_dayGoes now_18 landed_11 landedIn_12 stepped_13) fun now_20 landed_21 landedIn_22 stepped_23 =>
    bd1 (fX6_hearersOf p1 now_20 hearers landed_21) fun r25 =>
    bd1 ((if r25 ≤ v9 then
    (some v8)
    else
    (some v7)) : Option (Int32)) fun y27 =>
    if r25 ≤ v9 then
    (nm (v7 + 1) fun x31 =>
    fX6_when_L25 st hearers p1 K n x31 y27 v9 now_20 landed_21 landedIn_22 stepped_23)
    else
    (nm (v7 + 1) fun x32 =>
    fX6_when_L25 st hearers p1 K n x32 y27 r25 now_20 landed_21 landedIn_22 stepped_23))
def fX6_when (p1 : Int32) (p2 : Int32) (st : AI) (now : AI) (hearers : Int32) (landed : AI) (landedIn : AI) (stepped : AI) : Option (Int32 × AI × AI × AI × AI) :=
  bd1 (fX6_isSaying p1 st) fun r1 =>
  if r1 = 0 then
  (some ((-1), now, landed, landedIn, stepped))
  else
  (bd1 (fX6_isPart p2) fun r4 =>
  if r4 = 0 then
  (some ((-1), now, landed, landedIn, stepped))
  else
  (fX6_when_L25 st hearers p1 (fun v7 v8 v9 now_10 landed_11 landedIn_12 stepped_13 =>
  if p2 = 0 then
  (some (v8, now_10, landed_11, landedIn_12, stepped_13))
  else
  (some (v9, now_10, landed_11, landedIn_12, stepped_13))) 4096 0 0 (-1) now landed landedIn stepped))
def fX6_common_L6 (K : Int64 → Int64 → Option (Int64)) : Nat → Int64 → Int64 → Option (Int64)
  | 0, _, _ => none
  | n + 1, v1, v2 =>
    if (lg_cmp v1 (0 : Int64)) = 0 then
    (K v1 v2)
    else
    (gzl v1 <|
    nm (v2 - v2 / v1 * v1) fun x6 =>
    fX6_common_L6 K n x6 v1)
def fX6_common (p1 : Int64) (p2 : Int64) : Option (Int64) :=
  fX6_common_L6 (fun v1 v2 =>
  some v2) 4096 p2 p1
def fX6_told (p1 : Int64) (p2 : Int64) (p3 : Int32) : Option (Int64) :=
  bd1 (fX6_common p2 p1) fun r1 =>
  if p3 = 0 then
  (gzl r1 <|
  nm (p1 / r1) fun x7 =>
  some x7)
  else
  (gzl r1 <|
  nm (p2 / r1) fun x5 =>
  some x5)
def fX6_findOdds_L18 (K : Int32 → Int64 → Option (AI × AI × AI × AI × Int64 × Int64 × Int64)) : Nat → Int32 → Int64 → Option (AI × AI × AI × AI × Int64 × Int64 × Int64)
  | 0, _, _ => none
  | n + 1, v1, allWays_2 =>
    if 10 ≤ v1 then
    (K v1 allWays_2)
    else
    (nm (allWays_2 * (10 : Int64)) fun x5 =>
    nm (v1 + 1) fun x6 =>
    fX6_findOdds_L18 K n x6 x5)
def fX6_findOdds_L64 (p1 : Int32) (v7 : Int32) (K : Int32 → Int64 → AI → Option (AI × AI × AI × AI × Int64 × Int64 × Int64)) : Nat → Int32 → Int64 → AI → Option (AI × AI × AI × AI × Int64 × Int64 × Int64)
  | 0, _, _, _ => none
  | n + 1, v18, v19, now_20 =>
    if 10 ≤ v18 then
    (K v18 v19 now_20)
    else
    (nm (v7 >>> (v18 &&& 31)) fun x23 =>
    nm (x23 &&& (1 : Int32)) fun x24 =>
    bd1 ((if x24 = 1 then
    (some 1)
    else
    (some 0)) : Option (Int32)) fun y25 =>
    bd1 ((if y25 = 0 then
    (nm (((10 : Int32) - p1).toInt64) fun x44 =>
    some x44)
    else
    (nm (p1.toInt64) fun x45 =>
    some x45)) : Option (Int64)) fun y28 =>
    nm (v19 * y28) fun x31 =>
    nm ((8 : Int32) + v18) fun x32 =>
    if y25 = 0 then
    (nm ((8 : Int32) + v18) fun x34 =>
    gd x34 61 <|
    nm (now_20 x34.toNatClampNeg) fun x36 =>
    gd x32 61 <|
    nm (upd now_20 x32.toNatClampNeg x36) fun now_38 =>
    nm (v18 + 1) fun x39 =>
    fX6_findOdds_L64 p1 v7 K n x39 x31 now_38)
    else
    (gd x32 61 <|
    nm (upd now_20 x32.toNatClampNeg 4) fun now_41 =>
    nm (v18 + 1) fun x42 =>
    fX6_findOdds_L64 p1 v7 K n x42 x31 now_41))
def fX6_findOdds_L46 (st : AI) (hearers : Int32) (p1 : Int32) (p2 : Int32) (p3 : Int32) (K : Int32 → AI → AI → AI → AI → Int64 → Int64 → Option (AI × AI × AI × AI × Int64 × Int64 × Int64)) : Nat → Int32 → AI → AI → AI → AI → Int64 → Int64 → Option (AI × AI × AI × AI × Int64 × Int64 × Int64)
  | 0, _, _, _, _, _, _, _ => none
  | n + 1, v7, now_8, landed_9, landedIn_10, stepped_11, landSum_12, heardSum_13 =>
    if 1024 ≤ v7 then
    (K v7 now_8 landed_9 landedIn_10 stepped_11 landSum_12 heardSum_13)
    else
    (bd1 (fX6_starts st now_8) fun now_16 =>
    fX6_findOdds_L64 p1 v7 (fun v18 v19 now_20 =>
    if (lg_cmp v19 (0 : Int64)) ≤ 0 then
    (nm (v7 + 1) fun x48 =>
    fX6_findOdds_L46 st hearers p1 p2 p3 K n x48 now_20 landed_9 landedIn_10 stepped_11 landSum_12 heardSum_13)
    else
    (bd4 (fX6_dayGoes now_20 landed_9 landedIn_10 stepped_11) fun now_49 landed_50 landedIn_51 stepped_52 =>
    bd1 (fX6_landIn p3 now_49 landed_50) fun r54 =>
    nm (r54 >>> (p2 &&& 31)) fun x56 =>
    nm (x56 &&& (1 : Int32)) fun x57 =>
    bd1 ((if x57 = 1 then
    (some v19)
    else
    (some 0)) : Option (Int64)) fun y58 =>
    nm (landSum_12 + y58) fun x61 =>
    bd1 (fX6_heard now_49 hearers landed_50) fun r62 =>
    nm (heardSum_13 + (v19 * (r62.toInt64))) fun x64 =>
    nm (v7 + 1) fun x65 =>
    fX6_findOdds_L46 st hearers p1 p2 p3 K n x65 now_49 landed_50 landedIn_51 stepped_52 x61 x64)) 4096 0 1 now_16)
def fX6_findOdds (p1 : Int32) (p2 : Int32) (p3 : Int32) (st : AI) (now : AI) (hearers : Int32) (landed : AI) (landedIn : AI) (stepped : AI) (landSum : Int64) (heardSum : Int64) (allWays : Int64) : Option (AI × AI × AI × AI × Int64 × Int64 × Int64) :=
  fX6_findOdds_L18 (fun v1 allWays_2 =>
  fX6_findOdds_L46 st hearers p1 p2 p3 (fun v7 now_8 landed_9 landedIn_10 stepped_11 landSum_12 heardSum_13 =>
  some (now_8, landed_9, landedIn_10, stepped_11, landSum_12, heardSum_13, allWays_2)) 4096 0 now landed landedIn stepped 0 0) 4096 0 1
def fX6_luck (p1 : Int32) (p2 : Int32) (p3 : Int32) (p4 : Int32) (st : AI) (now : AI) (hearers : Int32) (landed : AI) (landedIn : AI) (stepped : AI) (landSum : Int64) (heardSum : Int64) (allWays : Int64) : Option (Int64 × AI × AI × AI × AI × Int64 × Int64 × Int64) :=
  nm (p1.toInt64) fun x1 =>
  bd1 (fX6_in x1 0 10) fun r2 =>
  if r2 = 0 then
  (some ((-1), now, landed, landedIn, stepped, landSum, heardSum, allWays))
  else
  (bd1 (fX6_isSaying p2 st) fun r5 =>
  if r5 = 0 then
  (some ((-1), now, landed, landedIn, stepped, landSum, heardSum, allWays))
  else
  (bd1 (fX6_isCell p3) fun r8 =>
  if r8 = 0 then
  (some ((-1), now, landed, landedIn, stepped, landSum, heardSum, allWays))
  else
  (bd1 (fX6_isPart p4) fun r11 =>
  if r11 = 0 then
  (some ((-1), now, landed, landedIn, stepped, landSum, heardSum, allWays))
  else
  (bd7 (fX6_findOdds p1 p2 p3 st now hearers landed landedIn stepped landSum heardSum allWays) fun now_14 landed_15 landedIn_16 stepped_17 landSum_18 heardSum_19 allWays_20 =>
  bd1 (fX6_told landSum_18 allWays_20 p4) fun r22 =>
  some (r22, now_14, landed_15, landedIn_16, stepped_17, landSum_18, heardSum_19, allWays_20)))))
def fX6_mean (p1 : Int32) (p2 : Int32) (st : AI) (now : AI) (hearers : Int32) (landed : AI) (landedIn : AI) (stepped : AI) (landSum : Int64) (heardSum : Int64) (allWays : Int64) : Option (Int64 × AI × AI × AI × AI × Int64 × Int64 × Int64) :=
  nm (p1.toInt64) fun x1 =>
  bd1 (fX6_in x1 0 10) fun r2 =>
  if r2 = 0 then
  (some ((-1), now, landed, landedIn, stepped, landSum, heardSum, allWays))
  else
  (bd1 (fX6_isPart p2) fun r5 =>
  if r5 = 0 then
  (some ((-1), now, landed, landedIn, stepped, landSum, heardSum, allWays))
  else
  (bd7 (fX6_findOdds p1 0 0 st now hearers landed landedIn stepped landSum heardSum allWays) fun now_8 landed_9 landedIn_10 stepped_11 landSum_12 heardSum_13 allWays_14 =>
  bd1 (fX6_told heardSum_13 allWays_14 p2) fun r16 =>
  some (r16, now_8, landed_9, landedIn_10, stepped_11, landSum_12, heardSum_13, allWays_14)))
def fX6_see (p1 : Int32) (p2 : Int32) (st : AI) : Option (Int32 × AI) :=
  bd1 (fX6_isSaying p1 st) fun r1 =>
  if r1 = 0 then
  (some ((-1), st))
  else
  (bd1 (fX6_isCell p2) fun r4 =>
  if r4 = 0 then
  (some ((-1), st))
  else
  (nm (st 48) fun x7 =>
  if x7 = 6 then
  (some ((-3), st))
  else
  (nm ((49 : Int32) + ((2 : Int32) * (st 48))) fun x9 =>
  gd x9 183 <|
  nm (upd st x9.toNatClampNeg p1) fun st_11 =>
  nm (x9 + (1 : Int32)) fun x12 =>
  gd x12 183 <|
  nm (upd st_11 x12.toNatClampNeg p2) fun st_14 =>
  nm (st_14 48) fun x15 =>
  nm (x15 + (1 : Int32)) fun x16 =>
  nm (upd st_14 48 x16) fun st_17 =>
  nm (st_17 48) fun x18 =>
  some (x18, st_17))))
def fX6_forget (p1 : Int32) (st : AI) : Option (Int32 × AI) :=
  nm (p1.toInt64) fun x1 =>
  nm ((st 48).toInt64) fun x2 =>
  bd1 (fX6_in x1 0 x2) fun r3 =>
  if r3 = 0 then
  (some ((-1), st))
  else
  (bd2 (fX6_becomes 48 p1 st) fun r6 st_7 =>
  some (r6, st_7))
def fX6_isSoWith_L21 (st : AI) (landed_6 : AI) (K : Int32 → Int32 → Option (Int32 × AI × AI × AI × AI)) : Nat → Int32 → Int32 → Option (Int32 × AI × AI × AI × AI)
  | 0, _, _ => none
  | n + 1, v10, v11 =>
    if (st 48) ≤ v10 then
    (K v10 v11)
    else
    (if v11 = 0 then
    (nm (v10 + 1) fun x15 =>
    fX6_isSoWith_L21 st landed_6 K n x15 0)
    else
    (nm ((49 : Int32) + ((2 : Int32) * v10)) fun x16 =>
    gd x16 183 <|
    nm (st x16.toNatClampNeg) fun x18 =>
    gd x18 5 <|
    nm (landed_6 x18.toNatClampNeg) fun x20 =>
    nm ((49 : Int32) + ((2 : Int32) * v10)) fun x21 =>
    nm (x21 + (1 : Int32)) fun x22 =>
    gd x22 183 <|
    if x20 = (st x22.toNatClampNeg) then
    (nm (v10 + 1) fun x26 =>
    fX6_isSoWith_L21 st landed_6 K n x26 1)
    else
    (nm (v10 + 1) fun x25 =>
    fX6_isSoWith_L21 st landed_6 K n x25 0)))
def fX6_isSoWith (p1 : Int32) (p2 : Int32) (p3 : Int32) (st : AI) (now : AI) (landed : AI) (landedIn : AI) (stepped : AI) : Option (Int32 × AI × AI × AI × AI) :=
  bd1 (fX6_starts st now) fun now_1 =>
  bd1 (fX6_becomesOf p1 p2 p3 now_1) fun now_3 =>
  bd4 (fX6_dayGoes now_3 landed landedIn stepped) fun now_5 landed_6 landedIn_7 stepped_8 =>
  fX6_isSoWith_L21 st landed_6 (fun v10 v11 =>
  gb v11 <|
  some (v11, now_5, landed_6, landedIn_7, stepped_8)) 4096 0 1
def fX6_kinds_L14 (st : AI) (p1 : Int32) (K : Int32 → Int32 → AI → AI → AI → AI → Option (Int32 × AI × AI × AI × AI)) : Nat → Int32 → Int32 → AI → AI → AI → AI → Option (Int32 × AI × AI × AI × AI)
  | 0, _, _, _, _, _, _ => none
  | n + 1, v4, v5, now_6, landed_7, landedIn_8, stepped_9 =>
    if 4 ≤ v4 then
    (K v4 v5 now_6 landed_7 landedIn_8 stepped_9)
    else
    (bd5 (fX6_isSoWith p1 0 v4 st now_6 landed_7 landedIn_8 stepped_9) fun r12 now_13 landed_14 landedIn_15 stepped_16 =>
    bd1 (fX6_flag r12) fun r18 =>
    nm (v5 ||| (r18 <<< (v4 &&& 31))) fun x20 =>
    nm (v4 + 1) fun x21 =>
    fX6_kinds_L14 st p1 K n x21 x20 now_13 landed_14 landedIn_15 stepped_16)
def fX6_kinds (p1 : Int32) (st : AI) (now : AI) (landed : AI) (landedIn : AI) (stepped : AI) : Option (Int32 × AI × AI × AI × AI) :=
  bd1 (fX6_isSaying p1 st) fun r1 =>
  if r1 = 0 then
  (some ((-1), now, landed, landedIn, stepped))
  else
  (fX6_kinds_L14 st p1 (fun v4 v5 now_6 landed_7 landedIn_8 stepped_9 =>
  some (v5, now_6, landed_7, landedIn_8, stepped_9)) 4096 0 0 now landed landedIn stepped)
def fX6_forces_L14 (st : AI) (p1 : Int32) (K : Int32 → Int32 → AI → AI → AI → AI → Option (Int32 × AI × AI × AI × AI)) : Nat → Int32 → Int32 → AI → AI → AI → AI → Option (Int32 × AI × AI × AI × AI)
  | 0, _, _, _, _, _, _ => none
  | n + 1, v4, v5, now_6, landed_7, landedIn_8, stepped_9 =>
    if 9 < v4 then
    (K v4 v5 now_6 landed_7 landedIn_8 stepped_9)
    else
    (bd5 (fX6_isSoWith p1 3 v4 st now_6 landed_7 landedIn_8 stepped_9) fun r12 now_13 landed_14 landedIn_15 stepped_16 =>
    bd1 (fX6_flag r12) fun r18 =>
    nm (v5 ||| (r18 <<< (v4 &&& 31))) fun x20 =>
    nm (v4 + 1) fun x21 =>
    fX6_forces_L14 st p1 K n x21 x20 now_13 landed_14 landedIn_15 stepped_16)
def fX6_forces (p1 : Int32) (st : AI) (now : AI) (landed : AI) (landedIn : AI) (stepped : AI) : Option (Int32 × AI × AI × AI × AI) :=
  bd1 (fX6_isSaying p1 st) fun r1 =>
  if r1 = 0 then
  (some ((-1), now, landed, landedIn, stepped))
  else
  (fX6_forces_L14 st p1 (fun v4 v5 now_6 landed_7 landedIn_8 stepped_9 =>
  some (v5, now_6, landed_7, landedIn_8, stepped_9)) 4096 1 0 now landed landedIn stepped)
def fX6_froms_L26 (st : AI) (p1 : Int32) (K : Int32 → Int32 → Int32 → AI → AI → AI → AI → Option (Int32 × AI × AI × AI × AI)) : Nat → Int32 → Int32 → Int32 → AI → AI → AI → AI → Option (Int32 × AI × AI × AI × AI)
  | 0, _, _, _, _, _, _, _ => none
  | n + 1, v7, v8, v9, now_10, landed_11, landedIn_12, stepped_13 =>
    if 64 ≤ v7 then
    (K v7 v8 v9 now_10 landed_11 landedIn_12 stepped_13)
    else
    (bd1 (fX6_cellAt v7) fun r16 =>
    bd5 (fX6_isSoWith p1 1 r16 st now_10 landed_11 landedIn_12 stepped_13) fun r18 now_19 landed_20 landedIn_21 stepped_22 =>
    if r18 = 0 then
    (nm (v7 + 1) fun x25 =>
    fX6_froms_L26 st p1 K n x25 v8 v9 now_19 landed_20 landedIn_21 stepped_22)
    else
    (if v9 = 0 then
    (bd1 (fX6_cellAt v7) fun r29 =>
    nm (v9 + 1) fun x31 =>
    nm (v7 + 1) fun x32 =>
    fX6_froms_L26 st p1 K n x32 r29 x31 now_19 landed_20 landedIn_21 stepped_22)
    else
    (nm (v9 + 1) fun x27 =>
    nm (v7 + 1) fun x28 =>
    fX6_froms_L26 st p1 K n x28 v8 x27 now_19 landed_20 landedIn_21 stepped_22)))
def fX6_froms (p1 : Int32) (p2 : Int32) (st : AI) (now : AI) (landed : AI) (landedIn : AI) (stepped : AI) : Option (Int32 × AI × AI × AI × AI) :=
  bd1 (fX6_isSaying p1 st) fun r1 =>
  if r1 = 0 then
  (some ((-1), now, landed, landedIn, stepped))
  else
  (bd1 (fX6_isPart p2) fun r4 =>
  if r4 = 0 then
  (some ((-1), now, landed, landedIn, stepped))
  else
  (fX6_froms_L26 st p1 (fun v7 v8 v9 now_10 landed_11 landedIn_12 stepped_13 =>
  if p2 = 0 then
  (some (v9, now_10, landed_11, landedIn_12, stepped_13))
  else
  (some (v8, now_10, landed_11, landedIn_12, stepped_13))) 4096 0 (-4) 0 now landed landedIn stepped))
def fX6_look_L26 (K : Int32 → AI → Option (Int32 × AI × AI × AI × AI × AI)) : Nat → Int32 → AI → Option (Int32 × AI × AI × AI × AI × AI)
  | 0, _, _ => none
  | n + 1, v7, ways_8 =>
    if 400 ≤ v7 then
    (K v7 ways_8)
    else
    (gd v7 400 <|
    nm (upd ways_8 v7.toNatClampNeg 0) fun ways_12 =>
    nm (v7 + 1) fun x13 =>
    fX6_look_L26 K n x13 ways_12)
def fX6_look_L75 (st : AI) (landed_25 : AI) (K : Int32 → AI → Option (Int32 × AI × AI × AI × AI × AI)) : Nat → Int32 → AI → Option (Int32 × AI × AI × AI × AI × AI)
  | 0, _, _ => none
  | n + 1, v32, ways_33 =>
    if (st 43) ≤ v32 then
    (K v32 ways_33)
    else
    (nm ((80 : Int32) * v32) fun x36 =>
    gd v32 5 <|
    nm (x36 + (landed_25 v32.toNatClampNeg)) fun x38 =>
    gd x38 400 <|
    nm (ways_33 x38.toNatClampNeg) fun x40 =>
    nm (x40 + (1 : Int32)) fun x41 =>
    gd x38 400 <|
    nm (upd ways_33 x38.toNatClampNeg x41) fun ways_43 =>
    nm (v32 + 1) fun x44 =>
    fX6_look_L75 st landed_25 K n x44 ways_43)
def fX6_look_L51 (st : AI) (p1 : Int32) (K : Int32 → Int32 → AI → AI → AI → AI → AI → Option (Int32 × AI × AI × AI × AI × AI)) : Nat → Int32 → Int32 → AI → AI → AI → AI → AI → Option (Int32 × AI × AI × AI × AI × AI)
  | 0, _, _, _, _, _, _, _ => none
  | n + 1, v14, v15, now_16, landed_17, landedIn_18, stepped_19, ways_20 =>
    if 9 < v14 then
    (K v14 v15 now_16 landed_17 landedIn_18 stepped_19 ways_20)
    else
    (bd5 (fX6_isSoWith p1 3 v14 st now_16 landed_17 landedIn_18 stepped_19) fun r23 now_24 landed_25 landedIn_26 stepped_27 =>
    if r23 = 0 then
    (nm (v14 + 1) fun x30 =>
    fX6_look_L51 st p1 K n x30 v15 now_24 landed_25 landedIn_26 stepped_27 ways_20)
    else
    (nm (v15 + 1) fun x31 =>
    fX6_look_L75 st landed_25 (fun v32 ways_33 =>
    nm (v14 + 1) fun x45 =>
    fX6_look_L51 st p1 K n x45 x31 now_24 landed_25 landedIn_26 stepped_27 ways_33) 4096 0 ways_20))
def fX6_look_L142 (ways_20 : AI) (v46 : Int32) (K : Int32 → Int32 → Option (Int32 × AI × AI × AI × AI × AI)) : Nat → Int32 → Int32 → Option (Int32 × AI × AI × AI × AI × AI)
  | 0, _, _ => none
  | n + 1, v51, v52 =>
    if 80 ≤ v51 then
    (K v51 v52)
    else
    (nm ((80 : Int32) * v46) fun x55 =>
    nm (x55 + v51) fun x56 =>
    gd x56 400 <|
    nm (ways_20 x56.toNatClampNeg) fun x58 =>
    if x58 ≤ v52 then
    (nm (v51 + 1) fun x60 =>
    fX6_look_L142 ways_20 v46 K n x60 v52)
    else
    (nm ((80 : Int32) * v46) fun x61 =>
    nm (x61 + v51) fun x62 =>
    gd x62 400 <|
    nm (ways_20 x62.toNatClampNeg) fun x64 =>
    nm (v51 + 1) fun x65 =>
    fX6_look_L142 ways_20 v46 K n x65 x64))
def fX6_look_L124 (st : AI) (ways_20 : AI) (K : Int32 → Int32 → Int32 → Option (Int32 × AI × AI × AI × AI × AI)) : Nat → Int32 → Int32 → Int32 → Option (Int32 × AI × AI × AI × AI × AI)
  | 0, _, _, _ => none
  | n + 1, v46, v47, v48 =>
    if (st 43) ≤ v46 then
    (K v46 v47 v48)
    else
    (fX6_look_L142 ways_20 v46 (fun v51 v52 =>
    bd1 ((if v48 ≤ v52 then
    (some v47)
    else
    (some v46)) : Option (Int32)) fun y66 =>
    if v48 ≤ v52 then
    (nm (v46 + 1) fun x70 =>
    fX6_look_L124 st ways_20 K n x70 y66 v48)
    else
    (nm (v46 + 1) fun x71 =>
    fX6_look_L124 st ways_20 K n x71 y66 v52)) 4096 0 0)
def fX6_look (p1 : Int32) (p2 : Int32) (st : AI) (now : AI) (landed : AI) (landedIn : AI) (stepped : AI) (ways : AI) : Option (Int32 × AI × AI × AI × AI × AI) :=
  bd1 (fX6_isSaying p1 st) fun r1 =>
  if r1 = 0 then
  (some ((-1), now, landed, landedIn, stepped, ways))
  else
  (bd1 (fX6_isPart p2) fun r4 =>
  if r4 = 0 then
  (some ((-1), now, landed, landedIn, stepped, ways))
  else
  (fX6_look_L26 (fun v7 ways_8 =>
  fX6_look_L51 st p1 (fun v14 v15 now_16 landed_17 landedIn_18 stepped_19 ways_20 =>
  fX6_look_L124 st ways_20 (fun v46 v47 v48 =>
  if v47 = (-4) then
  (some ((-4), now_16, landed_17, landedIn_18, stepped_19, ways_20))
  else
  (if p2 = 0 then
  (some (v47, now_16, landed_17, landedIn_18, stepped_19, ways_20))
  else
  (some (v48, now_16, landed_17, landedIn_18, stepped_19, ways_20)))) 4096 0 (-4) v15) 4096 1 0 now landed landedIn stepped ways_8) 4096 0 ways))
def fX6_drift_L43 (st : AI) (K : Int32 → AI → Option (Int32 × AI × AI × AI × AI × AI)) : Nat → Int32 → AI → Option (Int32 × AI × AI × AI × AI × AI)
  | 0, _, _ => none
  | n + 1, v9, drawn_10 =>
    if (st 43) ≤ v9 then
    (K v9 drawn_10)
    else
    (nm ((2 : Int32) * v9) fun x13 =>
    nm ((18 : Int32) + ((5 : Int32) * v9)) fun x14 =>
    nm (x14 + (2 : Int32)) fun x15 =>
    gd x15 183 <|
    nm (st x15.toNatClampNeg) fun x17 =>
    gd x13 10 <|
    nm (upd drawn_10 x13.toNatClampNeg x17) fun drawn_19 =>
    nm ((2 : Int32) * v9) fun x20 =>
    nm (x20 + (1 : Int32)) fun x21 =>
    nm ((18 : Int32) + ((5 : Int32) * v9)) fun x22 =>
    nm (x22 + (3 : Int32)) fun x23 =>
    gd x23 183 <|
    nm (st x23.toNatClampNeg) fun x25 =>
    gd x21 10 <|
    nm (upd drawn_19 x21.toNatClampNeg x25) fun drawn_27 =>
    nm (v9 + 1) fun x28 =>
    fX6_drift_L43 st K n x28 drawn_27)
def fX6_drift_L197 (st : AI) (drawn_55 : AI) (K : Int32 → AI → Option (Int32 × AI × AI × AI × AI × AI)) : Nat → Int32 → AI → Option (Int32 × AI × AI × AI × AI × AI)
  | 0, _, _ => none
  | n + 1, v58, now_59 =>
    if (st 43) ≤ v58 then
    (K v58 now_59)
    else
    (nm ((2 : Int32) * v58) fun x62 =>
    gd x62 10 <|
    nm (drawn_55 x62.toNatClampNeg) fun x64 =>
    bd1 (fX6_becomesOf v58 2 x64 now_59) fun now_65 =>
    nm ((2 : Int32) * v58) fun x67 =>
    nm (x67 + (1 : Int32)) fun x68 =>
    gd x68 10 <|
    nm (drawn_55 x68.toNatClampNeg) fun x70 =>
    bd1 (fX6_becomesOf v58 3 x70 now_65) fun now_71 =>
    nm (v58 + 1) fun x73 =>
    fX6_drift_L197 st drawn_55 K n x73 now_71)
def fX6_drift_L112 (st : AI) (hearers : Int32) (p2 : Int32) (K : Int32 → Int32 → Int32 → AI → AI → AI → AI → AI → Option (Int32 × AI × AI × AI × AI × AI)) : Nat → Int32 → Int32 → Int32 → AI → AI → AI → AI → AI → Option (Int32 × AI × AI × AI × AI × AI)
  | 0, _, _, _, _, _, _, _, _ => none
  | n + 1, v29, v30, v31, now_32, landed_33, landedIn_34, stepped_35, drawn_36 =>
    if p2 ≤ v29 then
    (K v29 v30 v31 now_32 landed_33 landedIn_34 stepped_35 drawn_36)
    else
    (nm (v31 * (1103515245 : Int32)) fun x39 =>
    nm (x39 + (12345 : Int32)) fun x40 =>
    nm (x40 >>> ((16 : Int32) &&& 31)) fun x41 =>
    nm (x41 &&& (32767 : Int32)) fun x42 =>
    gz (st 43) <|
    nm (x42 - x42 / (st 43) * (st 43)) fun x44 =>
    nm ((2 : Int32) * x44) fun x45 =>
    nm (x42 / (8 : Int32)) fun x46 =>
    nm (x46 - x46 / (4 : Int32) * (4 : Int32)) fun x47 =>
    gd x45 10 <|
    nm (upd drawn_36 x45.toNatClampNeg x47) fun drawn_49 =>
    nm ((2 : Int32) * x44) fun x50 =>
    nm (x50 + (1 : Int32)) fun x51 =>
    nm (x42 / (32 : Int32)) fun x52 =>
    nm ((1 : Int32) + (x52 - x52 / (9 : Int32) * (9 : Int32))) fun x53 =>
    gd x51 10 <|
    nm (upd drawn_49 x51.toNatClampNeg x53) fun drawn_55 =>
    bd1 (fX6_starts st now_32) fun now_56 =>
    fX6_drift_L197 st drawn_55 (fun v58 now_59 =>
    bd4 (fX6_dayGoes now_59 landed_33 landedIn_34 stepped_35) fun now_74 landed_75 landedIn_76 stepped_77 =>
    bd1 (fX6_heard now_74 hearers landed_75) fun r79 =>
    nm (v30 + r79) fun x81 =>
    nm (v29 + 1) fun x82 =>
    fX6_drift_L112 st hearers p2 K n x82 x81 x40 now_74 landed_75 landedIn_76 stepped_77 drawn_55) 4096 0 now_56)
def fX6_drift (p1 : Int32) (p2 : Int32) (p3 : Int32) (st : AI) (now : AI) (hearers : Int32) (landed : AI) (landedIn : AI) (stepped : AI) (drawn : AI) : Option (Int32 × AI × AI × AI × AI × AI) :=
  nm (p2.toInt64) fun x1 =>
  bd1 (fX6_in x1 1 60) fun r2 =>
  if r2 = 0 then
  (some ((-1), now, landed, landedIn, stepped, drawn))
  else
  (bd1 (fX6_isPart p3) fun r5 =>
  if r5 = 0 then
  (some ((-1), now, landed, landedIn, stepped, drawn))
  else
  (if (st 43) = 0 then
  (some ((-2), now, landed, landedIn, stepped, drawn))
  else
  (fX6_drift_L43 st (fun v9 drawn_10 =>
  fX6_drift_L112 st hearers p2 (fun v29 v30 v31 now_32 landed_33 landedIn_34 stepped_35 drawn_36 =>
  if p3 = 0 then
  (some (v30, now_32, landed_33, landedIn_34, stepped_35, drawn_36))
  else
  (nm (landed_33 0) fun x84 =>
  some (x84, now_32, landed_33, landedIn_34, stepped_35, drawn_36))) 4096 0 0 p1 now landed landedIn stepped drawn_10) 4096 0 drawn)))
def fX6_copies_L2 (p1 : Int32) (p2 : Int32) (K : Int32 → AI → Option (AI)) : Nat → Int32 → AI → Option (AI)
  | 0, _, _ => none
  | n + 1, v1, st_2 =>
    if 61 ≤ v1 then
    (K v1 st_2)
    else
    (nm (p1 + v1) fun x5 =>
    nm (p2 + v1) fun x6 =>
    gd x6 183 <|
    nm (st_2 x6.toNatClampNeg) fun x8 =>
    gd x5 183 <|
    nm (upd st_2 x5.toNatClampNeg x8) fun st_10 =>
    nm (v1 + 1) fun x11 =>
    fX6_copies_L2 p1 p2 K n x11 st_10)
def fX6_copies (p1 : Int32) (p2 : Int32) (st : AI) : Option (AI) :=
  fX6_copies_L2 p1 p2 (fun v1 st_2 =>
  some st_2) 4096 0 st
def fX6_keep (p1 : Int32) (st : AI) (isKept : AI) : Option (Int32 × AI × AI) :=
  nm (p1.toInt64) fun x1 =>
  bd1 (fX6_in x1 0 1) fun r2 =>
  if r2 = 0 then
  (some ((-1), st, isKept))
  else
  (gd p1 2 <|
  nm (isKept p1.toNatClampNeg) fun x6 =>
  bd1 (fX6_flag x6) fun r7 =>
  gd p1 2 <|
  nm (upd isKept p1.toNatClampNeg (vp_nar .boolean 1)) fun isKept_10 =>
  nm ((61 : Int32) * (p1 + (1 : Int32))) fun x11 =>
  bd1 (fX6_copies x11 0 st) fun st_12 =>
  some (r7, st_12, isKept_10))
def fX6_back (p1 : Int32) (st : AI) (isKept : AI) : Option (Int32 × AI) :=
  nm (p1.toInt64) fun x1 =>
  bd1 (fX6_in x1 0 1) fun r2 =>
  if r2 = 0 then
  (some ((-1), st))
  else
  (gd p1 2 <|
  if (isKept p1.toNatClampNeg) = 0 then
  (some ((-2), st))
  else
  (nm ((61 : Int32) * (p1 + (1 : Int32))) fun x7 =>
  bd1 (fX6_copies 0 x7 st) fun st_8 =>
  nm (st_8 43) fun x10 =>
  some (x10, st_8)))
def fX6_isSheet (p1 : Int32) (p2 : Int32) : Option (Int32) :=
  nm (p1.toInt64) fun x1 =>
  bd1 (fX6_in x1 0 3) fun r2 =>
  if r2 = 0 then
  (some 0)
  else
  (nm (p2.toInt64) fun x5 =>
  bd1 (fX6_in x5 0 2) fun r6 =>
  if r6 = 0 then
  (some 0)
  else
  (some 1))
def fX6_sheet_L40 (p1 : Int32) (K : Int32 → AI → Option (Int32 × AI × AI × AI)) : Nat → Int32 → AI → Option (Int32 × AI × AI × AI)
  | 0, _, _ => none
  | n + 1, v10, cells_11 =>
    if 40 ≤ v10 then
    (K v10 cells_11)
    else
    (nm ((40 : Int32) * p1) fun x14 =>
    nm (x14 + v10) fun x15 =>
    gd x15 160 <|
    nm (upd cells_11 x15.toNatClampNeg 0) fun cells_17 =>
    nm (v10 + 1) fun x18 =>
    fX6_sheet_L40 p1 K n x18 cells_17)
def fX6_sheet (p1 : Int32) (p2 : Int32) (p3 : Int32) (lanes : AI) (sizes : AI) (cells : AI) : Option (Int32 × AI × AI × AI) :=
  bd1 (fX6_isSheet p1 p2) fun r1 =>
  if r1 = 0 then
  (some ((-1), lanes, sizes, cells))
  else
  (if p3 ≤ 40 then
  (if 0 ≤ p3 then
  (gd p1 4 <|
  nm (upd lanes p1.toNatClampNeg p2) fun lanes_7 =>
  gd p1 4 <|
  nm (upd sizes p1.toNatClampNeg p3) fun sizes_9 =>
  fX6_sheet_L40 p1 (fun v10 cells_11 =>
  some (1, lanes_7, sizes_9, cells_11)) 4096 0 cells)
  else
  (some ((-14), lanes, sizes, cells)))
  else
  (some ((-1), lanes, sizes, cells)))
def fX6_lay (p1 : Int32) (p2 : Int32) (p3 : Int32) (lanes : AI) (sizes : AI) (cells : AI) : Option (Int32 × AI) :=
  bd1 (fX6_isSheet p1 0) fun r1 =>
  if r1 = 0 then
  (some ((-1), cells))
  else
  (gd p1 4 <|
  nm (lanes p1.toNatClampNeg) fun x5 =>
  if x5 = (-4) then
  (some ((-11), cells))
  else
  (nm (p2.toInt64) fun x7 =>
  gd p1 4 <|
  nm (sizes p1.toNatClampNeg) fun x9 =>
  nm ((x9 - (1 : Int32)).toInt64) fun x10 =>
  bd1 (fX6_in x7 0 x10) fun r11 =>
  if r11 = 0 then
  (some ((-12), cells))
  else
  (nm ((40 : Int32) * p1) fun x14 =>
  nm (x14 + p2) fun x15 =>
  gd p1 4 <|
  if (lanes p1.toNatClampNeg) = 0 then
  (nm (p3.toInt8.toInt32) fun x26 =>
  gd x15 160 <|
  nm (upd cells x15.toNatClampNeg x26) fun cells_28 =>
  some (1, cells_28))
  else
  (gd p1 4 <|
  nm (lanes p1.toNatClampNeg) fun x19 =>
  if x19 = 1 then
  (nm (p3.toInt16.toInt32) fun x23 =>
  gd x15 160 <|
  nm (upd cells x15.toNatClampNeg x23) fun cells_25 =>
  some (1, cells_25))
  else
  (gd x15 160 <|
  nm (upd cells x15.toNatClampNeg p3) fun cells_22 =>
  some (1, cells_22))))))
def fX6_read_L26 (st : AI) (K : Int32 → AI → Option (Int32 × AI × Int32 × AI)) : Nat → Int32 → AI → Option (Int32 × AI × Int32 × AI)
  | 0, _, _ => none
  | n + 1, v8, before_9 =>
    if 61 ≤ v8 then
    (K v8 before_9)
    else
    (gd v8 183 <|
    nm (st v8.toNatClampNeg) fun x13 =>
    gd v8 61 <|
    nm (upd before_9 v8.toNatClampNeg x13) fun before_15 =>
    nm (v8 + 1) fun x16 =>
    fX6_read_L26 st K n x16 before_15)
def fX6_read_L77 (lanes : AI) (sizes : AI) (p1 : Int32) (p2 : Int32) (p3 : Int32) (v17 : Int32) (K : Int32 → Int32 → Option (Int32 × AI × Int32 × AI)) : Nat → Int32 → Int32 → Option (Int32 × AI × Int32 × AI)
  | 0, _, _ => none
  | n + 1, v24, v25 =>
    if 3 ≤ v24 then
    (K v24 v25)
    else
    (if v25 = 0 then
    (nm (p3.toInt64) fun x29 =>
    nm (x29 + (((3 : Int32) * v17).toInt64)) fun x30 =>
    nm (x30 + (v24.toInt64)) fun x31 =>
    gd p1 4 <|
    nm (lanes p1.toNatClampNeg) fun x33 =>
    if x33 = (-4) then
    (nm (v24 + 1) fun x45 =>
    fX6_read_L77 lanes sizes p1 p2 p3 v17 K n x45 1)
    else
    (gd p1 4 <|
    nm (lanes p1.toNatClampNeg) fun x36 =>
    if x36 = p2 then
    (if (lg_cmp x31 (0 : Int64)) < 0 then
    (nm (v24 + 1) fun x39 =>
    fX6_read_L77 lanes sizes p1 p2 p3 v17 K n x39 2)
    else
    (gd p1 4 <|
    if (lg_cmp x31 ((sizes p1.toNatClampNeg).toInt64)) < 0 then
    (nm (v24 + 1) fun x42 =>
    fX6_read_L77 lanes sizes p1 p2 p3 v17 K n x42 0)
    else
    (nm (v24 + 1) fun x43 =>
    fX6_read_L77 lanes sizes p1 p2 p3 v17 K n x43 2)))
    else
    (nm (v24 + 1) fun x44 =>
    fX6_read_L77 lanes sizes p1 p2 p3 v17 K n x44 3)))
    else
    (K v24 v25))
def fX6_read_L217 (before_9 : AI) (K : Int32 → AI → Option (Int32 × AI × Int32 × AI)) : Nat → Int32 → AI → Option (Int32 × AI × Int32 × AI)
  | 0, _, _ => none
  | n + 1, v65, st_66 =>
    if 61 ≤ v65 then
    (K v65 st_66)
    else
    (gd v65 61 <|
    nm (before_9 v65.toNatClampNeg) fun x70 =>
    gd v65 183 <|
    nm (upd st_66 v65.toNatClampNeg x70) fun st_72 =>
    nm (v65 + 1) fun x73 =>
    fX6_read_L217 before_9 K n x73 st_72)
def fX6_read_L62 (lanes : AI) (sizes : AI) (cells : AI) (torn : Int32) (p1 : Int32) (p2 : Int32) (p3 : Int32) (p4 : Int32) (before_9 : AI) (K : Int32 → Int32 → Int32 → AI → Option (Int32 × AI × Int32 × AI)) : Nat → Int32 → Int32 → Int32 → AI → Option (Int32 × AI × Int32 × AI)
  | 0, _, _, _, _ => none
  | n + 1, v17, v18, v19, st_20 =>
    if p4 ≤ v17 then
    (K v17 v18 v19 st_20)
    else
    (if v19 = 0 then
    (fX6_read_L77 lanes sizes p1 p2 p3 v17 (fun v24 v25 =>
    if v25 = 0 then
    (nm ((40 : Int32) * p1) fun x48 =>
    nm (x48 + p3) fun x49 =>
    nm (x49 + ((3 : Int32) * v17)) fun x50 =>
    gd x50 160 <|
    nm (cells x50.toNatClampNeg) fun x52 =>
    nm (x50 + (1 : Int32)) fun x53 =>
    gd x53 160 <|
    nm (cells x53.toNatClampNeg) fun x55 =>
    nm (x50 + (2 : Int32)) fun x56 =>
    gd x56 160 <|
    nm (cells x56.toNatClampNeg) fun x58 =>
    bd2 (fX6_say x52 x55 x58 st_20) fun r59 st_60 =>
    if 0 ≤ r59 then
    (nm (v18 + 1) fun x63 =>
    nm (v17 + 1) fun x64 =>
    fX6_read_L62 lanes sizes cells torn p1 p2 p3 p4 before_9 K n x64 x63 v25 st_60)
    else
    (fX6_read_L217 before_9 (fun v65 st_66 =>
    nm ((-20 : Int32) - v17) fun x74 =>
    some (x74, st_66, torn, before_9)) 4096 0 st_60))
    else
    (nm (v17 + 1) fun x47 =>
    fX6_read_L62 lanes sizes cells torn p1 p2 p3 p4 before_9 K n x47 v18 v25 st_20)) 4096 0 v19)
    else
    (K v17 v18 v19 st_20))
def fX6_read (p1 : Int32) (p2 : Int32) (p3 : Int32) (p4 : Int32) (st : AI) (lanes : AI) (sizes : AI) (cells : AI) (torn : Int32) (before : AI) : Option (Int32 × AI × Int32 × AI) :=
  bd1 (fX6_isSheet p1 p2) fun r1 =>
  if r1 = 0 then
  (some ((-1), st, torn, before))
  else
  (nm (p4.toInt64) fun x4 =>
  bd1 (fX6_in x4 0 13) fun r5 =>
  if r5 = 0 then
  (some ((-1), st, torn, before))
  else
  (fX6_read_L26 st (fun v8 before_9 =>
  fX6_read_L62 lanes sizes cells torn p1 p2 p3 p4 before_9 (fun v17 v18 v19 st_20 =>
  some (v18, st_20, v19, before_9)) 4096 0 0 0 st) 4096 0 before))
def fX6_torn (torn : Int32) : Option (Int32) :=
  some torn
def fX6_count_L8 (now_1 : AI) (K : Int32 → Int32 → Option (Int32 × AI)) : Nat → Int32 → Int32 → Option (Int32 × AI)
  | 0, _, _ => none
  | n + 1, v3, v4 =>
    if (now_1 43) ≤ v3 then
    (K v3 v4)
    else
    (bd1 (fX6_of v3 3 now_1) fun r7 =>
    nm (v4 + r7) fun x9 =>
    nm (v3 + 1) fun x10 =>
    fX6_count_L8 now_1 K n x10 x9)
def fX6_count (p1 : Int32) (st : AI) (now : AI) (isKept : AI) (taped : Int32) (lanes : AI) (sizes : AI) : Option (Int32 × AI) :=
  bd1 (fX6_starts st now) fun now_1 =>
  fX6_count_L8 now_1 (fun v3 v4 =>
  if p1 = 0 then
  (nm (st 48) fun x12 =>
  some (x12, now_1))
  else
  (if p1 = 1 then
  (nm (isKept 0) fun x14 =>
  bd1 (fX6_flag x14) fun r15 =>
  nm (isKept 1) fun x17 =>
  bd1 (fX6_flag x17) fun r18 =>
  nm (r15 + r18) fun x20 =>
  some (x20, now_1))
  else
  (if p1 = 2 then
  (some (taped, now_1))
  else
  (if p1 = 3 then
  (nm (lanes 0) fun x23 =>
  if x23 = (-4) then
  (some ((-4), now_1))
  else
  (nm (sizes 0) fun x25 =>
  some (x25, now_1)))
  else
  (if p1 = 4 then
  (some (v4, now_1))
  else
  (some ((-1), now_1))))))) 4096 0 0
def fX5_feed (p1 : Int32) (v : VT) (rd : RT) : Option (Int32 × RT) :=
  if p1 < 0 then
  (some ((-1), rd))
  else
  (if p1 ≤ 127 then
  (if (rSz rd) < 160 then
  (nm (p1.toInt8.toInt32) fun x4 =>
  gd (rSz rd) 160 <|
  nm (rTa' rd (upd (rTa rd) ((rSz rd).toNatClampNeg) (vp_nar .byte x4))) fun rd_6 =>
  nm ((rSz rd_6) + (1 : Int32)) fun x7 =>
  nm (rSz' rd_6 x7) fun rd_8 =>
  some ((rSz rd_8), rd_8))
  else
  (some ((-3), rd)))
  else
  (some ((-1), rd)))
def fX5_end (p1 : Int32) (v : VT) (rd : RT) : Option (Int32 × RT) :=
  if p1 < 0 then
  (some ((-1), rd))
  else
  (if p1 ≤ (rSz rd) then
  (nm (rSz' rd p1) fun rd_3 =>
  some ((rSz rd), rd_3))
  else
  (some ((-1), rd)))
def fX5_fault (v : VT) (rd : RT) : Option (Int32) :=
  some (rFl rd)
def fX5_rule (p1 : Int32) (v : VT) (nw : CT) : Option (Int32) :=
  if p1 = 0 then
  (some (cSa nw))
  else
  (if p1 = 1 then
  (some (cHe nw))
  else
  (if p1 = 2 then
  (bd1 (fJ13_bitCount_95d88 (cW nw)) fun r4 =>
  some r4)
  else
  (if p1 = 3 then
  (bd1 (fX0_windyHours nw) fun r7 =>
  some r7)
  else
  (some (-1)))))
def fX5_saying (p1 : Int32) (p2 : Int32) (v : VT) (nw : CT) : Option (Int32) :=
  bd1 (fX0_isSaying p1 nw) fun r1 =>
  if r1 = 0 then
  (some (-1))
  else
  (if p2 < 0 then
  (some (-1))
  else
  (if p2 ≤ 5 then
  (if p2 = 5 then
  (gd p1 5 <|
  nm (cTo nw p1.toNatClampNeg 0) fun x13 =>
  gd p1 5 <|
  nm (cTo nw p1.toNatClampNeg 3) fun x16 =>
  bd1 (fX3_reachBy x13 x16) fun r17 =>
  some r17)
  else
  (gd p1 5 <|
  gd p2 5 <|
  nm (cTo nw p1.toNatClampNeg p2.toNatClampNeg) fun x10 =>
  some x10))
  else
  (some (-1))))
def fX5_hearer (p1 : Int32) (v : VT) (nw : CT) : Option (Int32) :=
  bd1 (fX0_isHearer p1 nw) fun r1 =>
  if r1 = 0 then
  (some (-1))
  else
  (gd p1 4 <|
  nm (cAt nw p1.toNatClampNeg) fun x5 =>
  some x5)
def fX5_wall (p1 : Int32) (v : VT) (nw : CT) : Option (Int32) :=
  bd1 (fX3_isCell p1) fun r1 =>
  if r1 = 0 then
  (some (-1))
  else
  (bd1 (fX3_placeOf p1) fun r4 =>
  bd1 (fX3_has (cW nw) r4) fun r6 =>
  if r6 = 0 then
  (some 0)
  else
  (some 1))
def fX5_wind (p1 : Int32) (v : VT) (nw : CT) : Option (Int32) :=
  bd1 (fX3_fits 4 p1) fun r1 =>
  if r1 = 0 then
  (some (-1))
  else
  (gd p1 10 <|
  nm (cWi nw p1.toNatClampNeg) fun x5 =>
  some x5)
def fX5_alter (p1 : Int32) (p2 : Int32) (p3 : Int32) (v : VT) (nw : CT) : Option (Int32 × CT) :=
  bd1 (fX0_isSaying p1 nw) fun r1 =>
  if r1 = 0 then
  (some ((-1), nw))
  else
  (if p2 < 0 then
  (some ((-1), nw))
  else
  (if 5 ≤ p2 then
  (some ((-1), nw))
  else
  (bd1 (fX3_fits p2 p3) fun r6 =>
  if r6 = 0 then
  (some ((-1), nw))
  else
  (gd p1 5 <|
  gd p2 5 <|
  nm (cTo nw p1.toNatClampNeg p2.toNatClampNeg) fun x12 =>
  gd p1 5 <|
  gd p2 5 <|
  nm (cTo' nw (va_up (cTo nw) p1.toNatClampNeg (upd (cTo nw p1.toNatClampNeg) p2.toNatClampNeg p3))) fun nw_16 =>
  some (x12, nw_16)))))
def fX5_stand (p1 : Int32) (p2 : Int32) (v : VT) (nw : CT) : Option (Int32 × CT) :=
  bd1 (fX0_isHearer p1 nw) fun r1 =>
  if r1 = 0 then
  (some ((-1), nw))
  else
  (bd1 (fX3_isCell p2) fun r4 =>
  if r4 = 0 then
  (some ((-1), nw))
  else
  (gd p1 4 <|
  nm (cAt nw p1.toNatClampNeg) fun x8 =>
  gd p1 4 <|
  nm (cAt' nw (upd (cAt nw) p1.toNatClampNeg p2)) fun nw_10 =>
  some (x8, nw_10)))
def fX5_build (p1 : Int32) (p2 : Int32) (v : VT) (nw : CT) : Option (Int32 × CT) :=
  bd1 (fX3_isCell p1) fun r1 =>
  if r1 = 0 then
  (some ((-1), nw))
  else
  (bd1 (fX3_placeOf p1) fun r4 =>
  bd1 (fX3_has (cW nw) r4) fun r6 =>
  if p2 = 0 then
  (bd1 ((if p2 = 0 then
  (nm ((1 : Int64) <<< (r4.toInt64 &&& 63)) fun x15 =>
  nm ((cW nw) &&& (x15 ^^^ (-1 : Int64))) fun x16 =>
  some x16)
  else
  (nm ((cW nw) ||| ((1 : Int64) <<< (r4.toInt64 &&& 63))) fun x17 =>
  some x17)) : Option (Int64)) fun y9 =>
  nm (cW' nw y9) fun nw_12 =>
  if r6 = 0 then
  (some (0, nw_12))
  else
  (some (1, nw_12)))
  else
  (if r6 = 0 then
  (bd1 (fJ13_bitCount_95d88 (cW nw)) fun r28 =>
  if r28 < 12 then
  (bd1 ((if p2 = 0 then
  (nm ((1 : Int64) <<< (r4.toInt64 &&& 63)) fun x37 =>
  nm ((cW nw) &&& (x37 ^^^ (-1 : Int64))) fun x38 =>
  some x38)
  else
  (nm ((cW nw) ||| ((1 : Int64) <<< (r4.toInt64 &&& 63))) fun x39 =>
  some x39)) : Option (Int64)) fun y31 =>
  nm (cW' nw y31) fun nw_34 =>
  if r6 = 0 then
  (some (0, nw_34))
  else
  (some (1, nw_34)))
  else
  (some ((-3), nw)))
  else
  (bd1 ((if p2 = 0 then
  (nm ((1 : Int64) <<< (r4.toInt64 &&& 63)) fun x25 =>
  nm ((cW nw) &&& (x25 ^^^ (-1 : Int64))) fun x26 =>
  some x26)
  else
  (nm ((cW nw) ||| ((1 : Int64) <<< (r4.toInt64 &&& 63))) fun x27 =>
  some x27)) : Option (Int64)) fun y19 =>
  nm (cW' nw y19) fun nw_22 =>
  if r6 = 0 then
  (some (0, nw_22))
  else
  (some (1, nw_22)))))
def fX5_blow (p1 : Int32) (p2 : Int32) (v : VT) (nw : CT) : Option (Int32 × CT) :=
  bd1 (fX3_fits 4 p1) fun r1 =>
  if r1 = 0 then
  (some ((-1), nw))
  else
  (bd1 (fX3_fits 5 p2) fun r4 =>
  if r4 = 0 then
  (some ((-1), nw))
  else
  (gd p1 10 <|
  nm (cWi nw p1.toNatClampNeg) fun x8 =>
  gd p1 10 <|
  nm (cWi' nw (upd (cWi nw) p1.toNatClampNeg p2)) fun nw_10 =>
  some (x8, nw_10)))
def fX5_say (p1 : Int32) (p2 : Int32) (p3 : Int32) (v : VT) (nw : CT) : Option (Int32 × CT) :=
  bd2 (fX0_addPlain p1 p2 p3 nw) fun r1 nw_2 =>
  some (r1, nw_2)
def fX5_lands (p1 : Int32) (p2 : Int32) (v : VT) (nw : CT) (da : DT) : Option (Int32 × DT) :=
  bd1 (fX0_isSaying p1 nw) fun r1 =>
  if r1 = 0 then
  (some ((-1), da))
  else
  (if p2 < 0 then
  (some ((-1), da))
  else
  (if p2 ≤ 2 then
  (bd1 (fX1_pass da nw) fun da_6 =>
  if p2 = 0 then
  (gd p1 5 <|
  nm (dPl da_6 p1.toNatClampNeg) fun x15 =>
  bd1 (fX3_cellOf x15) fun r16 =>
  some (r16, da_6))
  else
  (if p2 = 1 then
  (gd p1 5 <|
  nm (dHo da_6 p1.toNatClampNeg) fun x13 =>
  some (x13, da_6))
  else
  (gd p1 5 <|
  nm (dSt da_6 p1.toNatClampNeg) fun x11 =>
  some (x11, da_6))))
  else
  (some ((-1), da))))
def fX5_hears (p1 : Int32) (v : VT) (nw : CT) (da : DT) : Option (Int32 × DT) :=
  bd1 (fX0_isHearer p1 nw) fun r1 =>
  if r1 = 0 then
  (some ((-1), da))
  else
  (bd1 (fX1_pass da nw) fun da_4 =>
  gd p1 4 <|
  nm (cAt nw p1.toNatClampNeg) fun x7 =>
  bd1 (fX3_placeOf x7) fun r8 =>
  bd1 (fX1_landedIn r8 da_4) fun r10 =>
  some (r10, da_4))
def fX5_field (p1 : Int32) (p2 : Int32) (v : VT) (nw : CT) (da : DT) : Option (Int32 × DT) :=
  bd1 (fX3_isCell p1) fun r1 =>
  if r1 = 0 then
  (some ((-1), da))
  else
  (if p2 < 0 then
  (some ((-1), da))
  else
  (if p2 ≤ 1 then
  (bd1 (fX1_pass da nw) fun da_6 =>
  bd1 (fX3_placeOf p1) fun r8 =>
  if p2 = 0 then
  (bd1 (fX1_landedIn r8 da_6) fun r14 =>
  some (r14, da_6))
  else
  (bd1 (fX3_has (dW da_6) r8) fun r11 =>
  if r11 = 0 then
  (some (0, da_6))
  else
  (some (1, da_6))))
  else
  (some ((-1), da))))
def fX5_sum (p1 : Int32) (v : VT) (nw : CT) (da : DT) : Option (Int32 × DT) :=
  if p1 < 0 then
  (some ((-1), da))
  else
  (if p1 ≤ 3 then
  (bd1 (fX1_pass da nw) fun da_3 =>
  if p1 = 0 then
  (bd1 (fX1_heard da_3 nw) fun r6 =>
  some (r6, da_3))
  else
  (if p1 = 1 then
  (bd1 (fJ13_bitCount_95d88 (dW da_3)) fun r9 =>
  some (r9, da_3))
  else
  (if p1 = 2 then
  (bd1 (fX1_allSteps da_3) fun r12 =>
  some (r12, da_3))
  else
  (bd1 (fX1_hoursOfLanding da_3) fun r14 =>
  some (r14, da_3)))))
  else
  (some ((-1), da)))
def fX5_most_L31 (nw : CT) (da_3 : DT) (K : Int32 → Int32 → Int32 → Option (Int32 × DT)) : Nat → Int32 → Int32 → Int32 → Option (Int32 × DT)
  | 0, _, _, _ => none
  | n + 1, v5, v6, v7 =>
    if 64 ≤ v5 then
    (K v5 v6 v7)
    else
    (bd1 (fX1_landedIn v5 da_3) fun r10 =>
    bd1 (fJ6_bitCount_0f7a4 r10) fun r12 =>
    bd1 (fX3_has (cW nw) v5) fun r14 =>
    if r14 = 0 then
    (if r12 ≤ v6 then
    (nm (v5 + 1) fun x19 =>
    fX5_most_L31 nw da_3 K n x19 v6 v7)
    else
    (bd1 (fX3_cellOf v5) fun r20 =>
    nm (v5 + 1) fun x22 =>
    fX5_most_L31 nw da_3 K n x22 r12 r20))
    else
    (nm (v5 + 1) fun x17 =>
    fX5_most_L31 nw da_3 K n x17 v6 v7))
def fX5_most (p1 : Int32) (v : VT) (nw : CT) (da : DT) : Option (Int32 × DT) :=
  if p1 < 0 then
  (some ((-1), da))
  else
  (if p1 ≤ 1 then
  (bd1 (fX1_pass da nw) fun da_3 =>
  fX5_most_L31 nw da_3 (fun v5 v6 v7 =>
  if p1 = 0 then
  (some (v7, da_3))
  else
  (some (v6, da_3))) 4096 0 (-4) (-4))
  else
  (some ((-1), da)))
def fX5_placeBy (p1 : Int32) (p2 : Int32) (p3 : Int32) (v : VT) (tr : CT) (da : DT) : Option (Int32 × CT × DT) :=
  gd p1 5 <|
  nm (cTo' tr (va_up (cTo tr) p1.toNatClampNeg (upd (cTo tr p1.toNatClampNeg) 2 p2))) fun tr_3 =>
  gd p1 5 <|
  nm (cTo' tr_3 (va_up (cTo tr_3) p1.toNatClampNeg (upd (cTo tr_3 p1.toNatClampNeg) 3 p3))) fun tr_6 =>
  bd1 (fX1_pass da tr_6) fun da_7 =>
  gd p1 5 <|
  nm (dPl da_7 p1.toNatClampNeg) fun x10 =>
  some (x10, tr_6, da_7)
def fX5_aim_L49 (v : VT) (p1 : Int32) (r7 : Int32) (v11 : Int32) (K : Int32 → CT → DT → Option (Int32 × CT × DT)) : Nat → Int32 → CT → DT → Option (Int32 × CT × DT)
  | 0, _, _, _ => none
  | n + 1, v16, tr_17, da_18 =>
    if 4 ≤ v16 then
    (K v16 tr_17 da_18)
    else
    (bd3 (fX5_placeBy p1 v16 v11 v tr_17 da_18) fun r21 tr_22 da_23 =>
    if r21 = r7 then
    (nm ((10 : Int32) * v11) fun x27 =>
    nm (x27 + v16) fun x28 =>
    some (x28, tr_22, da_23))
    else
    (nm (v16 + 1) fun x26 =>
    fX5_aim_L49 v p1 r7 v11 K n x26 tr_22 da_23))
def fX5_aim_L39 (v : VT) (p1 : Int32) (r7 : Int32) (K : Int32 → CT → DT → Option (Int32 × CT × DT)) : Nat → Int32 → CT → DT → Option (Int32 × CT × DT)
  | 0, _, _, _ => none
  | n + 1, v11, tr_12, da_13 =>
    if 9 < v11 then
    (K v11 tr_12 da_13)
    else
    (fX5_aim_L49 v p1 r7 v11 (fun v16 tr_17 da_18 =>
    nm (v11 + 1) fun x29 =>
    fX5_aim_L39 v p1 r7 K n x29 tr_17 da_18) 4096 0 tr_12 da_13)
def fX5_aim (p1 : Int32) (p2 : Int32) (v : VT) (nw : CT) (tr : CT) (da : DT) : Option (Int32 × CT × DT) :=
  bd1 (fX0_isSaying p1 nw) fun r1 =>
  if r1 = 0 then
  (some ((-1), tr, da))
  else
  (bd1 (fX3_isCell p2) fun r4 =>
  if r4 = 0 then
  (some ((-1), tr, da))
  else
  (bd1 (fX3_placeOf p2) fun r7 =>
  bd1 (fX0_copyTo tr nw) fun tr_9 =>
  fX5_aim_L39 v p1 r7 (fun v11 tr_12 da_13 =>
  some ((-4), tr_12, da_13)) 4096 1 tr_9 da))
def fX5_reach_L39 (v : VT) (p1 : Int32) (v6 : Int32) (K : Int32 → Int64 → CT → DT → Option (Int32 × CT × DT)) : Nat → Int32 → Int64 → CT → DT → Option (Int32 × CT × DT)
  | 0, _, _, _, _ => none
  | n + 1, v12, v13, tr_14, da_15 =>
    if 4 ≤ v12 then
    (K v12 v13 tr_14 da_15)
    else
    (bd3 (fX5_placeBy p1 v12 v6 v tr_14 da_15) fun r18 tr_19 da_20 =>
    nm (v13 ||| ((1 : Int64) <<< (r18.toInt64 &&& 63))) fun x22 =>
    nm (v12 + 1) fun x23 =>
    fX5_reach_L39 v p1 v6 K n x23 x22 tr_19 da_20)
def fX5_reach_L29 (v : VT) (p1 : Int32) (K : Int32 → Int64 → CT → DT → Option (Int32 × CT × DT)) : Nat → Int32 → Int64 → CT → DT → Option (Int32 × CT × DT)
  | 0, _, _, _, _ => none
  | n + 1, v6, v7, tr_8, da_9 =>
    if 9 < v6 then
    (K v6 v7 tr_8 da_9)
    else
    (fX5_reach_L39 v p1 v6 (fun v12 v13 tr_14 da_15 =>
    nm (v6 + 1) fun x24 =>
    fX5_reach_L29 v p1 K n x24 v13 tr_14 da_15) 4096 0 v7 tr_8 da_9)
def fX5_reach (p1 : Int32) (v : VT) (nw : CT) (tr : CT) (da : DT) : Option (Int32 × CT × DT) :=
  bd1 (fX0_isSaying p1 nw) fun r1 =>
  if r1 = 0 then
  (some ((-1), tr, da))
  else
  (bd1 (fX0_copyTo tr nw) fun tr_4 =>
  fX5_reach_L29 v p1 (fun v6 v7 tr_8 da_9 =>
  bd1 (fJ13_bitCount_95d88 v7) fun r25 =>
  some (r25, tr_8, da_9)) 4096 1 0 tr_4 da)
def fX5_screen_L70 (nw : CT) (r7 : Int32) (K : Int32 → CT → DT → Option (Int32 × CT × DT)) : Nat → Int32 → CT → DT → Option (Int32 × CT × DT)
  | 0, _, _, _ => none
  | n + 1, v16, tr_17, da_18 =>
    if 64 ≤ v16 then
    (K v16 tr_17 da_18)
    else
    (bd1 (fX3_has (cW nw) v16) fun r21 =>
    if r21 = 0 then
    (nm ((cW nw) ||| ((1 : Int64) <<< (v16.toInt64 &&& 63))) fun x25 =>
    nm (cW' tr_17 x25) fun tr_26 =>
    bd1 (fX1_pass da_18 tr_26) fun da_27 =>
    bd1 (fX1_landedIn r7 da_27) fun r29 =>
    if r29 = 0 then
    (bd1 (fX3_cellOf v16) fun r33 =>
    some (r33, tr_26, da_27))
    else
    (nm (v16 + 1) fun x32 =>
    fX5_screen_L70 nw r7 K n x32 tr_26 da_27))
    else
    (nm (v16 + 1) fun x24 =>
    fX5_screen_L70 nw r7 K n x24 tr_17 da_18))
def fX5_screen (p1 : Int32) (v : VT) (nw : CT) (tr : CT) (da : DT) : Option (Int32 × CT × DT) :=
  bd1 (fX3_isCell p1) fun r1 =>
  if r1 = 0 then
  (some ((-1), tr, da))
  else
  (bd1 (fJ13_bitCount_95d88 (cW nw)) fun r4 =>
  if r4 < 12 then
  (bd1 (fX3_placeOf p1) fun r7 =>
  bd1 (fX1_pass da nw) fun da_9 =>
  bd1 (fX1_landedIn r7 da_9) fun r11 =>
  if r11 = 0 then
  (some ((-4), tr, da_9))
  else
  (bd1 (fX0_copyTo tr nw) fun tr_14 =>
  fX5_screen_L70 nw r7 (fun v16 tr_17 da_18 =>
  some ((-4), tr_17, da_18)) 4096 0 tr_14 da_9))
  else
  (some ((-3), tr, da)))
def fX5_closedIn (p1 : Int32) (v : VT) (nw : CT) (da : DT) : Option (Int64) :=
  bd1 (fX1_landingsOf p1 da) fun r1 =>
  nm ((cW nw) ||| r1) fun x3 =>
  some x3
def fX5_beginWalks (p1 : Int32) (v : VT) (nw : CT) (da : DT) : Option (Int64) :=
  bd1 (fX3_placeOf p1) fun r1 =>
  nm ((1 : Int64) <<< (r1.toInt64 &&& 63)) fun x3 =>
  bd1 (fX5_closedIn 0 v nw da) fun r4 =>
  nm (x3 &&& (r4 ^^^ (-1 : Int64))) fun x6 =>
  some x6
def fX5_goOn (p1 : Int64) (p2 : Int32) (v : VT) (nw : CT) (da : DT) : Option (Int64) :=
  bd1 (fX3_spread p1) fun r1 =>
  bd1 (fX5_closedIn p2 v nw da) fun r3 =>
  nm (r1 &&& (r3 ^^^ (-1 : Int64))) fun x5 =>
  some x5
def fX5_walk_L42 (v : VT) (nw : CT) (da_7 : DT) (r9 : Int32) (K : Int32 → Int64 → Option (Int32 × DT)) : Nat → Int32 → Int64 → Option (Int32 × DT)
  | 0, _, _ => none
  | n + 1, v13, v14 =>
    if 10 ≤ v13 then
    (K v13 v14)
    else
    (bd1 ((if v13 ≤ 0 then
    (some v14)
    else
    (bd1 (fX5_goOn v14 v13 v nw da_7) fun r25 =>
    some r25)) : Option (Int64)) fun y17 =>
    bd1 (fX3_has y17 r9) fun r20 =>
    if r20 = 0 then
    (nm (v13 + 1) fun x23 =>
    fX5_walk_L42 v nw da_7 r9 K n x23 y17)
    else
    (some (v13, da_7)))
def fX5_walk (p1 : Int32) (p2 : Int32) (v : VT) (nw : CT) (da : DT) : Option (Int32 × DT) :=
  bd1 (fX3_isCell p1) fun r1 =>
  if r1 = 0 then
  (some ((-1), da))
  else
  (bd1 (fX3_isCell p2) fun r4 =>
  if r4 = 0 then
  (some ((-1), da))
  else
  (bd1 (fX1_pass da nw) fun da_7 =>
  bd1 (fX3_placeOf p2) fun r9 =>
  bd1 (fX5_beginWalks p1 v nw da_7) fun r11 =>
  fX5_walk_L42 v nw da_7 r9 (fun v13 v14 =>
  some ((-4), da_7)) 4096 0 r11))
def fX5_walks_L29 (v : VT) (nw : CT) (da_4 : DT) (K : Int32 → Int64 → Option (Int32 × DT)) : Nat → Int32 → Int64 → Option (Int32 × DT)
  | 0, _, _ => none
  | n + 1, v8, v9 =>
    if 10 ≤ v8 then
    (K v8 v9)
    else
    (bd1 (fX5_goOn v9 v8 v nw da_4) fun r12 =>
    nm (v8 + 1) fun x14 =>
    fX5_walks_L29 v nw da_4 K n x14 r12)
def fX5_walks (p1 : Int32) (v : VT) (nw : CT) (da : DT) : Option (Int32 × DT) :=
  bd1 (fX3_isCell p1) fun r1 =>
  if r1 = 0 then
  (some ((-1), da))
  else
  (bd1 (fX1_pass da nw) fun da_4 =>
  bd1 (fX5_beginWalks p1 v nw da_4) fun r6 =>
  fX5_walks_L29 v nw da_4 (fun v8 v9 =>
  bd1 (fJ13_bitCount_95d88 v9) fun r15 =>
  some (r15, da_4)) 4096 1 r6)
def fX5_when_L41 (p1 : Int32) (K : Int32 → Int32 → Int32 → CT → DT → Option (Int32 × CT × DT)) : Nat → Int32 → Int32 → Int32 → CT → DT → Option (Int32 × CT × DT)
  | 0, _, _, _, _, _ => none
  | n + 1, v8, v9, v10, tr_11, da_12 =>
    if 10 ≤ v8 then
    (K v8 v9 v10 tr_11 da_12)
    else
    (gd p1 5 <|
    nm (cTo' tr_11 (va_up (cTo tr_11) p1.toNatClampNeg (upd (cTo tr_11 p1.toNatClampNeg) 4 v8))) fun tr_17 =>
    bd1 (fX1_pass da_12 tr_17) fun da_18 =>
    gd p1 5 <|
    nm (dPl da_18 p1.toNatClampNeg) fun x21 =>
    bd1 (fX0_hearersIn x21 tr_17) fun r22 =>
    if r22 ≤ v9 then
    (nm (v8 + 1) fun x25 =>
    fX5_when_L41 p1 K n x25 v9 v10 tr_17 da_18)
    else
    (nm (v8 + 1) fun x26 =>
    fX5_when_L41 p1 K n x26 r22 v8 tr_17 da_18))
def fX5_when (p1 : Int32) (p2 : Int32) (v : VT) (nw : CT) (tr : CT) (da : DT) : Option (Int32 × CT × DT) :=
  bd1 (fX0_isSaying p1 nw) fun r1 =>
  if r1 = 0 then
  (some ((-1), tr, da))
  else
  (if p2 < 0 then
  (some ((-1), tr, da))
  else
  (if p2 ≤ 1 then
  (bd1 (fX0_copyTo tr nw) fun tr_6 =>
  fX5_when_L41 p1 (fun v8 v9 v10 tr_11 da_12 =>
  if p2 = 0 then
  (some (v10, tr_11, da_12))
  else
  (some (v9, tr_11, da_12))) 4096 0 (-1) 0 tr_6 da)
  else
  (some ((-1), tr, da))))
def fX5_luck_L52 (nw : CT) (p1 : Int32) (p2 : Int32) (r12 : Int32) (K : Int32 → Int64 → DT → Option (Int64 × DT)) : Nat → Int32 → Int64 → DT → Option (Int64 × DT)
  | 0, _, _, _ => none
  | n + 1, v14, v15, da_16 =>
    if ((1 : Int32) <<< ((cSa nw) &&& 31)) ≤ v14 then
    (K v14 v15 da_16)
    else
    (bd2 (fX1_passByOdds p1 v14 da_16 nw) fun r19 da_20 =>
    gd p2 5 <|
    nm (dPl da_20 p2.toNatClampNeg) fun x23 =>
    if x23 = r12 then
    (nm (v15 + r19) fun x26 =>
    nm (v14 + 1) fun x27 =>
    fX5_luck_L52 nw p1 p2 r12 K n x27 x26 da_20)
    else
    (nm (v14 + 1) fun x25 =>
    fX5_luck_L52 nw p1 p2 r12 K n x25 v15 da_20))
def fX5_luck (p1 : Int32) (p2 : Int32) (p3 : Int32) (p4 : Int32) (v : VT) (nw : CT) (da : DT) : Option (Int64 × DT) :=
  bd1 (fX3_isOutOfTen p1) fun r1 =>
  if r1 = 0 then
  (some ((-1), da))
  else
  (bd1 (fX0_isSaying p2 nw) fun r4 =>
  if r4 = 0 then
  (some ((-1), da))
  else
  (bd1 (fX3_isCell p3) fun r7 =>
  if r7 = 0 then
  (some ((-1), da))
  else
  (if p4 < 0 then
  (some ((-1), da))
  else
  (if p4 ≤ 1 then
  (bd1 (fX3_placeOf p3) fun r12 =>
  fX5_luck_L52 nw p1 p2 r12 (fun v14 v15 da_16 =>
  bd1 (fX3_lowest v15 100000 p4) fun r28 =>
  some (r28, da_16)) 4096 0 0 da)
  else
  (some ((-1), da))))))
def fX5_mean_L25 (nw : CT) (p1 : Int32) (K : Int32 → Int64 → DT → Option (Int64 × DT)) : Nat → Int32 → Int64 → DT → Option (Int64 × DT)
  | 0, _, _, _ => none
  | n + 1, v6, v7, da_8 =>
    if ((1 : Int32) <<< ((cSa nw) &&& 31)) ≤ v6 then
    (K v6 v7 da_8)
    else
    (bd2 (fX1_passByOdds p1 v6 da_8 nw) fun r11 da_12 =>
    bd1 (fX1_heard da_12 nw) fun r14 =>
    nm (v7 + (r11 * (r14.toInt64))) fun x16 =>
    nm (v6 + 1) fun x17 =>
    fX5_mean_L25 nw p1 K n x17 x16 da_12)
def fX5_mean (p1 : Int32) (p2 : Int32) (v : VT) (nw : CT) (da : DT) : Option (Int64 × DT) :=
  bd1 (fX3_isOutOfTen p1) fun r1 =>
  if r1 = 0 then
  (some ((-1), da))
  else
  (if p2 < 0 then
  (some ((-1), da))
  else
  (if p2 ≤ 1 then
  (fX5_mean_L25 nw p1 (fun v6 v7 da_8 =>
  bd1 (fX3_lowest v7 100000 p2) fun r18 =>
  some (r18, da_8)) 4096 0 0 da)
  else
  (some ((-1), da))))
def fX5_see (p1 : Int32) (p2 : Int32) (v : VT) (nw : CT) : Option (Int32 × CT) :=
  bd1 (fX0_isSaying p1 nw) fun r1 =>
  if r1 = 0 then
  (some ((-1), nw))
  else
  (bd1 (fX3_isCell p2) fun r4 =>
  if r4 = 0 then
  (some ((-1), nw))
  else
  (if (cSe nw) < 6 then
  (gd (cSe nw) 6 <|
  nm (cSs' nw (upd (cSs nw) ((cSe nw).toNatClampNeg) p1)) fun nw_9 =>
  bd1 (fX3_placeOf p2) fun r10 =>
  gd (cSe nw_9) 6 <|
  nm (cSp' nw_9 (upd (cSp nw_9) ((cSe nw_9).toNatClampNeg) r10)) fun nw_13 =>
  nm ((cSe nw_13) + (1 : Int32)) fun x14 =>
  nm (cSe' nw_13 x14) fun nw_15 =>
  some ((cSe nw_15), nw_15))
  else
  (some ((-3), nw))))
def fX5_forget (p1 : Int32) (v : VT) (nw : CT) : Option (Int32 × CT) :=
  if p1 < 0 then
  (some ((-1), nw))
  else
  (if p1 ≤ (cSe nw) then
  (nm (cSe' nw p1) fun nw_3 =>
  some ((cSe nw), nw_3))
  else
  (some ((-1), nw)))
def fX5_asSeenBy_L17 (p1 : Int32) (p2 : Int32) (p4 : Int32) (K : Int32 → Int32 → CT → DT → Option (Int32 × CT × DT)) : Nat → Int32 → Int32 → CT → DT → Option (Int32 × CT × DT)
  | 0, _, _, _, _ => none
  | n + 1, v3, v4, tr_5, da_6 =>
    if p4 < v3 then
    (K v3 v4 tr_5 da_6)
    else
    (gd p1 5 <|
    gd p2 5 <|
    nm (cTo' tr_5 (va_up (cTo tr_5) p1.toNatClampNeg (upd (cTo tr_5 p1.toNatClampNeg) p2.toNatClampNeg v3))) fun tr_12 =>
    bd1 (fX1_pass da_6 tr_12) fun da_13 =>
    bd1 (fX1_isAsSeen da_13 tr_12) fun r15 =>
    if r15 = 0 then
    (nm (v3 + 1) fun x18 =>
    fX5_asSeenBy_L17 p1 p2 p4 K n x18 v4 tr_12 da_13)
    else
    (nm (v4 ||| ((1 : Int32) <<< (v3 &&& 31))) fun x19 =>
    nm (v3 + 1) fun x20 =>
    fX5_asSeenBy_L17 p1 p2 p4 K n x20 x19 tr_12 da_13))
def fX5_asSeenBy (p1 : Int32) (p2 : Int32) (p3 : Int32) (p4 : Int32) (v : VT) (nw : CT) (tr : CT) (da : DT) : Option (Int32 × CT × DT) :=
  bd1 (fX0_copyTo tr nw) fun tr_1 =>
  fX5_asSeenBy_L17 p1 p2 p4 (fun v3 v4 tr_5 da_6 =>
  some (v4, tr_5, da_6)) 4096 p3 0 tr_1 da
def fX5_kinds (p1 : Int32) (v : VT) (nw : CT) (tr : CT) (da : DT) : Option (Int32 × CT × DT) :=
  bd1 (fX0_isSaying p1 nw) fun r1 =>
  if r1 = 0 then
  (some ((-1), tr, da))
  else
  (bd3 (fX5_asSeenBy p1 0 0 3 v nw tr da) fun r4 tr_5 da_6 =>
  some (r4, tr_5, da_6))
def fX5_forces (p1 : Int32) (v : VT) (nw : CT) (tr : CT) (da : DT) : Option (Int32 × CT × DT) :=
  bd1 (fX0_isSaying p1 nw) fun r1 =>
  if r1 = 0 then
  (some ((-1), tr, da))
  else
  (bd3 (fX5_asSeenBy p1 3 1 9 v nw tr da) fun r4 tr_5 da_6 =>
  some (r4, tr_5, da_6))
def fX5_froms_L42 (p1 : Int32) (K : Int32 → Int32 → Int32 → CT → DT → Option (Int32 × CT × DT)) : Nat → Int32 → Int32 → Int32 → CT → DT → Option (Int32 × CT × DT)
  | 0, _, _, _, _, _ => none
  | n + 1, v8, v9, v10, tr_11, da_12 =>
    if 64 ≤ v8 then
    (K v8 v9 v10 tr_11 da_12)
    else
    (gd p1 5 <|
    bd1 (fX3_cellOf v8) fun r17 =>
    nm (cTo' tr_11 (va_up (cTo tr_11) p1.toNatClampNeg (upd (cTo tr_11 p1.toNatClampNeg) 1 r17))) fun tr_19 =>
    bd1 (fX1_pass da_12 tr_19) fun da_20 =>
    bd1 (fX1_isAsSeen da_20 tr_19) fun r22 =>
    if r22 = 0 then
    (nm (v8 + 1) fun x25 =>
    fX5_froms_L42 p1 K n x25 v9 v10 tr_19 da_20)
    else
    (if v10 = 0 then
    (bd1 (fX3_cellOf v8) fun r29 =>
    nm (v10 + 1) fun x31 =>
    nm (v8 + 1) fun x32 =>
    fX5_froms_L42 p1 K n x32 r29 x31 tr_19 da_20)
    else
    (nm (v10 + 1) fun x27 =>
    nm (v8 + 1) fun x28 =>
    fX5_froms_L42 p1 K n x28 v9 x27 tr_19 da_20)))
def fX5_froms (p1 : Int32) (p2 : Int32) (v : VT) (nw : CT) (tr : CT) (da : DT) : Option (Int32 × CT × DT) :=
  bd1 (fX0_isSaying p1 nw) fun r1 =>
  if r1 = 0 then
  (some ((-1), tr, da))
  else
  (if p2 < 0 then
  (some ((-1), tr, da))
  else
  (if p2 ≤ 1 then
  (bd1 (fX0_copyTo tr nw) fun tr_6 =>
  fX5_froms_L42 p1 (fun v8 v9 v10 tr_11 da_12 =>
  if p2 = 0 then
  (some (v10, tr_11, da_12))
  else
  (some (v9, tr_11, da_12))) 4096 0 (-4) 0 tr_6 da)
  else
  (some ((-1), tr, da))))
def fX5_mostLeft_L6 (K : Int32 → VT → Option (Int32 × VT × CT × DT)) : Nat → Int32 → VT → Option (Int32 × VT × CT × DT)
  | 0, _, _ => none
  | n + 1, v1, v_2 =>
    if 64 ≤ v1 then
    (K v1 v_2)
    else
    (gd v1 64 <|
    nm (vTa' v_2 (upd (vTa v_2) v1.toNatClampNeg 0)) fun v_6 =>
    nm (v1 + 1) fun x7 =>
    fX5_mostLeft_L6 K n x7 v_6)
def fX5_mostLeft_L41 (p1 : Int32) (p2 : Int32) (p3 : Int32) (K : Int32 → Int32 → VT → CT → DT → Option (Int32 × VT × CT × DT)) : Nat → Int32 → Int32 → VT → CT → DT → Option (Int32 × VT × CT × DT)
  | 0, _, _, _, _, _ => none
  | n + 1, v10, v11, v_12, tr_13, da_14 =>
    if 9 < v10 then
    (K v10 v11 v_12 tr_13 da_14)
    else
    (nm (p2 >>> (v10 &&& 31)) fun x17 =>
    if (x17 &&& (1 : Int32)) = 0 then
    (nm (v10 + 1) fun x19 =>
    fX5_mostLeft_L41 p1 p2 p3 K n x19 v11 v_12 tr_13 da_14)
    else
    (gd p1 5 <|
    nm (cTo' tr_13 (va_up (cTo tr_13) p1.toNatClampNeg (upd (cTo tr_13 p1.toNatClampNeg) 3 v10))) fun tr_22 =>
    bd1 (fX1_pass da_14 tr_22) fun da_23 =>
    gd p3 5 <|
    nm (dPl da_23 p3.toNatClampNeg) fun x26 =>
    gd x26 64 <|
    nm (vTa v_12 x26.toNatClampNeg) fun x28 =>
    nm (x28 + (1 : Int32)) fun x29 =>
    gd x26 64 <|
    nm (vTa' v_12 (upd (vTa v_12) x26.toNatClampNeg x29)) fun v_31 =>
    gd x26 64 <|
    nm (vTa v_31 x26.toNatClampNeg) fun x33 =>
    nm (if v11 < x33 then x33 else v11) fun x34 =>
    nm (v10 + 1) fun x35 =>
    fX5_mostLeft_L41 p1 p2 p3 K n x35 x34 v_31 tr_22 da_23))
def fX5_mostLeft (p1 : Int32) (p2 : Int32) (p3 : Int32) (v : VT) (nw : CT) (tr : CT) (da : DT) : Option (Int32 × VT × CT × DT) :=
  fX5_mostLeft_L6 (fun v1 v_2 =>
  bd1 (fX0_copyTo tr nw) fun tr_8 =>
  fX5_mostLeft_L41 p1 p2 p3 (fun v10 v11 v_12 tr_13 da_14 =>
  some (v11, v_12, tr_13, da_14)) 4096 1 0 v_2 tr_8 da) 4096 0 v
def fX5_look_L45 (nw : CT) (p1 : Int32) (r6 : Int32) (K : Int32 → Int32 → Int32 → VT → CT → DT → Option (Int32 × VT × CT × DT)) : Nat → Int32 → Int32 → Int32 → VT → CT → DT → Option (Int32 × VT × CT × DT)
  | 0, _, _, _, _, _, _ => none
  | n + 1, v12, v13, v14, v_15, tr_16, da_17 =>
    if (cSa nw) ≤ v12 then
    (K v12 v13 v14 v_15 tr_16 da_17)
    else
    (bd4 (fX5_mostLeft p1 r6 v12 v_15 nw tr_16 da_17) fun r20 v_21 tr_22 da_23 =>
    if v13 ≤ r20 then
    (nm (v12 + 1) fun x26 =>
    fX5_look_L45 nw p1 r6 K n x26 v13 v14 v_21 tr_22 da_23)
    else
    (nm (v12 + 1) fun x27 =>
    fX5_look_L45 nw p1 r6 K n x27 r20 v12 v_21 tr_22 da_23))
def fX5_look (p1 : Int32) (p2 : Int32) (v : VT) (nw : CT) (tr : CT) (da : DT) : Option (Int32 × VT × CT × DT) :=
  bd1 (fX0_isSaying p1 nw) fun r1 =>
  if r1 = 0 then
  (some ((-1), v, tr, da))
  else
  (if p2 < 0 then
  (some ((-1), v, tr, da))
  else
  (if p2 ≤ 1 then
  (bd3 (fX5_asSeenBy p1 3 1 9 v nw tr da) fun r6 tr_7 da_8 =>
  bd1 (fJ6_bitCount_0f7a4 r6) fun r10 =>
  fX5_look_L45 nw p1 r6 (fun v12 v13 v14 v_15 tr_16 da_17 =>
  if p2 = 0 then
  (some (v14, v_15, tr_16, da_17))
  else
  (if v14 = (-4) then
  (some (v14, v_15, tr_16, da_17))
  else
  (some (v13, v_15, tr_16, da_17)))) 4096 0 r10 (-4) v tr_7 da_8)
  else
  (some ((-1), v, tr, da))))
def fX5_drift_L59 (nw : CT) (p2 : Int32) (K : Int32 → Int32 → Int32 → CT → DT → Option (Int32 × CT × DT)) : Nat → Int32 → Int32 → Int32 → CT → DT → Option (Int32 × CT × DT)
  | 0, _, _, _, _, _ => none
  | n + 1, v8, v9, v10, tr_11, da_12 =>
    if p2 ≤ v8 then
    (K v8 v9 v10 tr_11 da_12)
    else
    (nm (v9 * (1103515245 : Int32)) fun x15 =>
    nm (x15 + (12345 : Int32)) fun x16 =>
    nm ((x16.toUInt32 >>> ((16 : Int32).toUInt32 &&& Int32.toUInt32 31)).toInt32) fun x17 =>
    nm (x17 &&& (32767 : Int32)) fun x18 =>
    gz (cSa nw) <|
    nm (x18 - x18 / (cSa nw) * (cSa nw)) fun x20 =>
    gd x20 5 <|
    nm (x18 / (8 : Int32)) fun x23 =>
    nm (x23 - x23 / (4 : Int32) * (4 : Int32)) fun x24 =>
    nm (cTo' tr_11 (va_up (cTo tr_11) x20.toNatClampNeg (upd (cTo tr_11 x20.toNatClampNeg) 2 x24))) fun tr_25 =>
    gd x20 5 <|
    nm (x18 / (32 : Int32)) fun x28 =>
    nm ((1 : Int32) + (x28 - x28 / (9 : Int32) * (9 : Int32))) fun x29 =>
    nm (cTo' tr_25 (va_up (cTo tr_25) x20.toNatClampNeg (upd (cTo tr_25 x20.toNatClampNeg) 3 x29))) fun tr_30 =>
    bd1 (fX1_pass da_12 tr_30) fun da_31 =>
    bd1 (fX1_heard da_31 tr_30) fun r33 =>
    nm (v10 + r33) fun x35 =>
    nm (v8 + 1) fun x36 =>
    fX5_drift_L59 nw p2 K n x36 x16 x35 tr_30 da_31)
def fX5_drift (p1 : Int32) (p2 : Int32) (p3 : Int32) (v : VT) (nw : CT) (tr : CT) (da : DT) : Option (Int32 × CT × DT) :=
  if p2 < 1 then
  (some ((-1), tr, da))
  else
  (if 60 < p2 then
  (some ((-1), tr, da))
  else
  (if p3 < 0 then
  (some ((-1), tr, da))
  else
  (if p3 ≤ 1 then
  (if 0 < (cSa nw) then
  (bd1 (fX0_copyTo tr nw) fun tr_6 =>
  fX5_drift_L59 nw p2 (fun v8 v9 v10 tr_11 da_12 =>
  if p3 = 0 then
  (some (v10, tr_11, da_12))
  else
  (nm (dPl da_12 0) fun x38 =>
  bd1 (fX3_cellOf x38) fun r39 =>
  some (r39, tr_11, da_12))) 4096 0 p1 0 tr_6 da)
  else
  (some ((-2), tr, da)))
  else
  (some ((-1), tr, da)))))
def fX5_keep (p1 : Int32) (v : VT) (nw : CT) (i0 : CT) (i1 : CT) : Option (Int32 × VT × CT × CT) :=
  if p1 < 0 then
  (some ((-1), v, i0, i1))
  else
  (if p1 < 2 then
  (gd p1 2 <|
  bd1 ((if (vKe v p1.toNatClampNeg) = 0 then
  (some 0)
  else
  (some 1)) : Option (Int32)) fun y4 =>
  gd p1 2 <|
  sel2 p1 (bd1 (fX0_copyTo i0 nw) fun i0_8 =>
  gd p1 2 <|
  nm (vKe' v (upd (vKe v) p1.toNatClampNeg (vp_nar .boolean 1))) fun v_11 =>
  some (y4, v_11, i0_8, i1)) (bd1 (fX0_copyTo i1 nw) fun i1_12 =>
  gd p1 2 <|
  nm (vKe' v (upd (vKe v) p1.toNatClampNeg (vp_nar .boolean 1))) fun v_15 =>
  some (y4, v_15, i0, i1_12)))
  else
  (some ((-1), v, i0, i1)))
def fX5_back (p1 : Int32) (v : VT) (nw : CT) (i0 : CT) (i1 : CT) : Option (Int32 × CT) :=
  if p1 < 0 then
  (some ((-1), nw))
  else
  (if p1 < 2 then
  (gd p1 2 <|
  if (vKe v p1.toNatClampNeg) = 0 then
  (some ((-2), nw))
  else
  (gd p1 2 <|
  sel2 p1 (bd1 (fX0_copyTo nw i0) fun nw_6 =>
  some ((cSa nw_6), nw_6)) (bd1 (fX0_copyTo nw i1) fun nw_8 =>
  some ((cSa nw_8), nw_8))))
  else
  (some ((-1), nw)))
def fX5_sheet (p1 : Int32) (p2 : Int32) (p3 : Int32) (v : VT) (s0 : ST) (s1 : ST) (s2 : ST) (s3 : ST) : Option (Int32 × ST × ST × ST × ST) :=
  if p1 < 0 then
  (some ((-1), s0, s1, s2, s3))
  else
  (if 4 ≤ p1 then
  (some ((-1), s0, s1, s2, s3))
  else
  (if p2 < 0 then
  (some ((-1), s0, s1, s2, s3))
  else
  (if 3 ≤ p2 then
  (some ((-1), s0, s1, s2, s3))
  else
  (if p3 ≤ 40 then
  (if 0 ≤ p3 then
  (gd p1 4 <|
  sel4 p1 (bd1 (fX4_renew p2 p3 s0) fun s0_8 =>
  some (1, s0_8, s1, s2, s3)) (bd1 (fX4_renew p2 p3 s1) fun s1_10 =>
  some (1, s0, s1_10, s2, s3)) (bd1 (fX4_renew p2 p3 s2) fun s2_12 =>
  some (1, s0, s1, s2_12, s3)) (bd1 (fX4_renew p2 p3 s3) fun s3_14 =>
  some (1, s0, s1, s2, s3_14)))
  else
  (some ((-14), s0, s1, s2, s3)))
  else
  (some ((-1), s0, s1, s2, s3))))))
def fX5_lay (p1 : Int32) (p2 : Int32) (p3 : Int32) (v : VT) (s0 : ST) (s1 : ST) (s2 : ST) (s3 : ST) : Option (Int32 × ST × ST × ST × ST) :=
  if p1 < 0 then
  (some ((-1), s0, s1, s2, s3))
  else
  (if p1 < 4 then
  (gd p1 4 <|
  sel4 p1 (gd p1 4 <|
  sel4 p1 (bd1 (fX4_flawAt (sLa s0) p2 s0) fun r5 =>
  if r5 = 0 then
  (gd p1 4 <|
  sel4 p1 (bd1 (fX4_put p2 p3 s0) fun s0_9 =>
  some (1, s0_9, s1, s2, s3)) (bd1 (fX4_put p2 p3 s1) fun s1_11 =>
  some (1, s0, s1_11, s2, s3)) (bd1 (fX4_put p2 p3 s2) fun s2_13 =>
  some (1, s0, s1, s2_13, s3)) (bd1 (fX4_put p2 p3 s3) fun s3_15 =>
  some (1, s0, s1, s2, s3_15)))
  else
  (nm ((-10 : Int32) - r5) fun x17 =>
  some (x17, s0, s1, s2, s3))) (bd1 (fX4_flawAt (sLa s1) p2 s0) fun r18 =>
  if r18 = 0 then
  (gd p1 4 <|
  sel4 p1 (bd1 (fX4_put p2 p3 s0) fun s0_22 =>
  some (1, s0_22, s1, s2, s3)) (bd1 (fX4_put p2 p3 s1) fun s1_24 =>
  some (1, s0, s1_24, s2, s3)) (bd1 (fX4_put p2 p3 s2) fun s2_26 =>
  some (1, s0, s1, s2_26, s3)) (bd1 (fX4_put p2 p3 s3) fun s3_28 =>
  some (1, s0, s1, s2, s3_28)))
  else
  (nm ((-10 : Int32) - r18) fun x30 =>
  some (x30, s0, s1, s2, s3))) (bd1 (fX4_flawAt (sLa s2) p2 s0) fun r31 =>
  if r31 = 0 then
  (gd p1 4 <|
  sel4 p1 (bd1 (fX4_put p2 p3 s0) fun s0_35 =>
  some (1, s0_35, s1, s2, s3)) (bd1 (fX4_put p2 p3 s1) fun s1_37 =>
  some (1, s0, s1_37, s2, s3)) (bd1 (fX4_put p2 p3 s2) fun s2_39 =>
  some (1, s0, s1, s2_39, s3)) (bd1 (fX4_put p2 p3 s3) fun s3_41 =>
  some (1, s0, s1, s2, s3_41)))
  else
  (nm ((-10 : Int32) - r31) fun x43 =>
  some (x43, s0, s1, s2, s3))) (bd1 (fX4_flawAt (sLa s3) p2 s0) fun r44 =>
  if r44 = 0 then
  (gd p1 4 <|
  sel4 p1 (bd1 (fX4_put p2 p3 s0) fun s0_48 =>
  some (1, s0_48, s1, s2, s3)) (bd1 (fX4_put p2 p3 s1) fun s1_50 =>
  some (1, s0, s1_50, s2, s3)) (bd1 (fX4_put p2 p3 s2) fun s2_52 =>
  some (1, s0, s1, s2_52, s3)) (bd1 (fX4_put p2 p3 s3) fun s3_54 =>
  some (1, s0, s1, s2, s3_54)))
  else
  (nm ((-10 : Int32) - r44) fun x56 =>
  some (x56, s0, s1, s2, s3)))) (gd p1 4 <|
  sel4 p1 (bd1 (fX4_flawAt (sLa s0) p2 s1) fun r58 =>
  if r58 = 0 then
  (gd p1 4 <|
  sel4 p1 (bd1 (fX4_put p2 p3 s0) fun s0_62 =>
  some (1, s0_62, s1, s2, s3)) (bd1 (fX4_put p2 p3 s1) fun s1_64 =>
  some (1, s0, s1_64, s2, s3)) (bd1 (fX4_put p2 p3 s2) fun s2_66 =>
  some (1, s0, s1, s2_66, s3)) (bd1 (fX4_put p2 p3 s3) fun s3_68 =>
  some (1, s0, s1, s2, s3_68)))
  else
  (nm ((-10 : Int32) - r58) fun x70 =>
  some (x70, s0, s1, s2, s3))) (bd1 (fX4_flawAt (sLa s1) p2 s1) fun r71 =>
  if r71 = 0 then
  (gd p1 4 <|
  sel4 p1 (bd1 (fX4_put p2 p3 s0) fun s0_75 =>
  some (1, s0_75, s1, s2, s3)) (bd1 (fX4_put p2 p3 s1) fun s1_77 =>
  some (1, s0, s1_77, s2, s3)) (bd1 (fX4_put p2 p3 s2) fun s2_79 =>
  some (1, s0, s1, s2_79, s3)) (bd1 (fX4_put p2 p3 s3) fun s3_81 =>
  some (1, s0, s1, s2, s3_81)))
  else
  (nm ((-10 : Int32) - r71) fun x83 =>
  some (x83, s0, s1, s2, s3))) (bd1 (fX4_flawAt (sLa s2) p2 s1) fun r84 =>
  if r84 = 0 then
  (gd p1 4 <|
  sel4 p1 (bd1 (fX4_put p2 p3 s0) fun s0_88 =>
  some (1, s0_88, s1, s2, s3)) (bd1 (fX4_put p2 p3 s1) fun s1_90 =>
  some (1, s0, s1_90, s2, s3)) (bd1 (fX4_put p2 p3 s2) fun s2_92 =>
  some (1, s0, s1, s2_92, s3)) (bd1 (fX4_put p2 p3 s3) fun s3_94 =>
  some (1, s0, s1, s2, s3_94)))
  else
  (nm ((-10 : Int32) - r84) fun x96 =>
  some (x96, s0, s1, s2, s3))) (bd1 (fX4_flawAt (sLa s3) p2 s1) fun r97 =>
  if r97 = 0 then
  (gd p1 4 <|
  sel4 p1 (bd1 (fX4_put p2 p3 s0) fun s0_101 =>
  some (1, s0_101, s1, s2, s3)) (bd1 (fX4_put p2 p3 s1) fun s1_103 =>
  some (1, s0, s1_103, s2, s3)) (bd1 (fX4_put p2 p3 s2) fun s2_105 =>
  some (1, s0, s1, s2_105, s3)) (bd1 (fX4_put p2 p3 s3) fun s3_107 =>
  some (1, s0, s1, s2, s3_107)))
  else
  (nm ((-10 : Int32) - r97) fun x109 =>
  some (x109, s0, s1, s2, s3)))) (gd p1 4 <|
  sel4 p1 (bd1 (fX4_flawAt (sLa s0) p2 s2) fun r111 =>
  if r111 = 0 then
  (gd p1 4 <|
  sel4 p1 (bd1 (fX4_put p2 p3 s0) fun s0_115 =>
  some (1, s0_115, s1, s2, s3)) (bd1 (fX4_put p2 p3 s1) fun s1_117 =>
  some (1, s0, s1_117, s2, s3)) (bd1 (fX4_put p2 p3 s2) fun s2_119 =>
  some (1, s0, s1, s2_119, s3)) (bd1 (fX4_put p2 p3 s3) fun s3_121 =>
  some (1, s0, s1, s2, s3_121)))
  else
  (nm ((-10 : Int32) - r111) fun x123 =>
  some (x123, s0, s1, s2, s3))) (bd1 (fX4_flawAt (sLa s1) p2 s2) fun r124 =>
  if r124 = 0 then
  (gd p1 4 <|
  sel4 p1 (bd1 (fX4_put p2 p3 s0) fun s0_128 =>
  some (1, s0_128, s1, s2, s3)) (bd1 (fX4_put p2 p3 s1) fun s1_130 =>
  some (1, s0, s1_130, s2, s3)) (bd1 (fX4_put p2 p3 s2) fun s2_132 =>
  some (1, s0, s1, s2_132, s3)) (bd1 (fX4_put p2 p3 s3) fun s3_134 =>
  some (1, s0, s1, s2, s3_134)))
  else
  (nm ((-10 : Int32) - r124) fun x136 =>
  some (x136, s0, s1, s2, s3))) (bd1 (fX4_flawAt (sLa s2) p2 s2) fun r137 =>
  if r137 = 0 then
  (gd p1 4 <|
  sel4 p1 (bd1 (fX4_put p2 p3 s0) fun s0_141 =>
  some (1, s0_141, s1, s2, s3)) (bd1 (fX4_put p2 p3 s1) fun s1_143 =>
  some (1, s0, s1_143, s2, s3)) (bd1 (fX4_put p2 p3 s2) fun s2_145 =>
  some (1, s0, s1, s2_145, s3)) (bd1 (fX4_put p2 p3 s3) fun s3_147 =>
  some (1, s0, s1, s2, s3_147)))
  else
  (nm ((-10 : Int32) - r137) fun x149 =>
  some (x149, s0, s1, s2, s3))) (bd1 (fX4_flawAt (sLa s3) p2 s2) fun r150 =>
  if r150 = 0 then
  (gd p1 4 <|
  sel4 p1 (bd1 (fX4_put p2 p3 s0) fun s0_154 =>
  some (1, s0_154, s1, s2, s3)) (bd1 (fX4_put p2 p3 s1) fun s1_156 =>
  some (1, s0, s1_156, s2, s3)) (bd1 (fX4_put p2 p3 s2) fun s2_158 =>
  some (1, s0, s1, s2_158, s3)) (bd1 (fX4_put p2 p3 s3) fun s3_160 =>
  some (1, s0, s1, s2, s3_160)))
  else
  (nm ((-10 : Int32) - r150) fun x162 =>
  some (x162, s0, s1, s2, s3)))) (gd p1 4 <|
  sel4 p1 (bd1 (fX4_flawAt (sLa s0) p2 s3) fun r164 =>
  if r164 = 0 then
  (gd p1 4 <|
  sel4 p1 (bd1 (fX4_put p2 p3 s0) fun s0_168 =>
  some (1, s0_168, s1, s2, s3)) (bd1 (fX4_put p2 p3 s1) fun s1_170 =>
  some (1, s0, s1_170, s2, s3)) (bd1 (fX4_put p2 p3 s2) fun s2_172 =>
  some (1, s0, s1, s2_172, s3)) (bd1 (fX4_put p2 p3 s3) fun s3_174 =>
  some (1, s0, s1, s2, s3_174)))
  else
  (nm ((-10 : Int32) - r164) fun x176 =>
  some (x176, s0, s1, s2, s3))) (bd1 (fX4_flawAt (sLa s1) p2 s3) fun r177 =>
  if r177 = 0 then
  (gd p1 4 <|
  sel4 p1 (bd1 (fX4_put p2 p3 s0) fun s0_181 =>
  some (1, s0_181, s1, s2, s3)) (bd1 (fX4_put p2 p3 s1) fun s1_183 =>
  some (1, s0, s1_183, s2, s3)) (bd1 (fX4_put p2 p3 s2) fun s2_185 =>
  some (1, s0, s1, s2_185, s3)) (bd1 (fX4_put p2 p3 s3) fun s3_187 =>
  some (1, s0, s1, s2, s3_187)))
  else
  (nm ((-10 : Int32) - r177) fun x189 =>
  some (x189, s0, s1, s2, s3))) (bd1 (fX4_flawAt (sLa s2) p2 s3) fun r190 =>
  if r190 = 0 then
  (gd p1 4 <|
  sel4 p1 (bd1 (fX4_put p2 p3 s0) fun s0_194 =>
  some (1, s0_194, s1, s2, s3)) (bd1 (fX4_put p2 p3 s1) fun s1_196 =>
  some (1, s0, s1_196, s2, s3)) (bd1 (fX4_put p2 p3 s2) fun s2_198 =>
  some (1, s0, s1, s2_198, s3)) (bd1 (fX4_put p2 p3 s3) fun s3_200 =>
  some (1, s0, s1, s2, s3_200)))
  else
  (nm ((-10 : Int32) - r190) fun x202 =>
  some (x202, s0, s1, s2, s3))) (bd1 (fX4_flawAt (sLa s3) p2 s3) fun r203 =>
  if r203 = 0 then
  (gd p1 4 <|
  sel4 p1 (bd1 (fX4_put p2 p3 s0) fun s0_207 =>
  some (1, s0_207, s1, s2, s3)) (bd1 (fX4_put p2 p3 s1) fun s1_209 =>
  some (1, s0, s1_209, s2, s3)) (bd1 (fX4_put p2 p3 s2) fun s2_211 =>
  some (1, s0, s1, s2_211, s3)) (bd1 (fX4_put p2 p3 s3) fun s3_213 =>
  some (1, s0, s1, s2, s3_213)))
  else
  (nm ((-10 : Int32) - r203) fun x215 =>
  some (x215, s0, s1, s2, s3)))))
  else
  (some ((-1), s0, s1, s2, s3)))
def fX5_read_L60 (v : VT) (nw : CT) (s0 : ST) (p2 : Int32) (p3 : Int32) (p4 : Int32) (K : Int32 → Int32 → Int32 → CT → Option (Int32 × VT × CT × CT)) : Nat → Int32 → Int32 → Int32 → CT → Option (Int32 × VT × CT × CT)
  | 0, _, _, _, _ => none
  | n + 1, v10, v11, v12, tr_13 =>
    if p4 ≤ v10 then
    (K v10 v11 v12 tr_13)
    else
    (if v11 = 0 then
    (nm (p3 + ((3 : Int32) * v10)) fun x17 =>
    bd1 (fX4_flawOfThree p2 x17 s0) fun r18 =>
    if r18 = 0 then
    (bd1 (fX4_cellAt x17 s0) fun r22 =>
    nm (x17 + (1 : Int32)) fun x24 =>
    bd1 (fX4_cellAt x24 s0) fun r25 =>
    nm (x17 + (2 : Int32)) fun x27 =>
    bd1 (fX4_cellAt x27 s0) fun r28 =>
    bd2 (fX0_addPlain r22 r25 r28 tr_13) fun r30 tr_31 =>
    if 0 ≤ r30 then
    (nm (v12 + 1) fun x34 =>
    nm (v10 + 1) fun x35 =>
    fX5_read_L60 v nw s0 p2 p3 p4 K n x35 r18 x34 tr_31)
    else
    (nm ((-20 : Int32) - v10) fun x36 =>
    some (x36, v, nw, tr_31)))
    else
    (nm (v10 + 1) fun x21 =>
    fX5_read_L60 v nw s0 p2 p3 p4 K n x21 r18 v12 tr_13))
    else
    (K v10 v11 v12 tr_13))
def fX5_read_L60b1 (v : VT) (nw : CT) (s1 : ST) (p2 : Int32) (p3 : Int32) (p4 : Int32) (K : Int32 → Int32 → Int32 → CT → Option (Int32 × VT × CT × CT)) : Nat → Int32 → Int32 → Int32 → CT → Option (Int32 × VT × CT × CT)
  | 0, _, _, _, _ => none
  | n + 1, v42, v43, v44, tr_45 =>
    if p4 ≤ v42 then
    (K v42 v43 v44 tr_45)
    else
    (if v43 = 0 then
    (nm (p3 + ((3 : Int32) * v42)) fun x49 =>
    bd1 (fX4_flawOfThree p2 x49 s1) fun r50 =>
    if r50 = 0 then
    (bd1 (fX4_cellAt x49 s1) fun r54 =>
    nm (x49 + (1 : Int32)) fun x56 =>
    bd1 (fX4_cellAt x56 s1) fun r57 =>
    nm (x49 + (2 : Int32)) fun x59 =>
    bd1 (fX4_cellAt x59 s1) fun r60 =>
    bd2 (fX0_addPlain r54 r57 r60 tr_45) fun r62 tr_63 =>
    if 0 ≤ r62 then
    (nm (v44 + 1) fun x66 =>
    nm (v42 + 1) fun x67 =>
    fX5_read_L60b1 v nw s1 p2 p3 p4 K n x67 r50 x66 tr_63)
    else
    (nm ((-20 : Int32) - v42) fun x68 =>
    some (x68, v, nw, tr_63)))
    else
    (nm (v42 + 1) fun x53 =>
    fX5_read_L60b1 v nw s1 p2 p3 p4 K n x53 r50 v44 tr_45))
    else
    (K v42 v43 v44 tr_45))
def fX5_read_L60b2 (v : VT) (nw : CT) (s2 : ST) (p2 : Int32) (p3 : Int32) (p4 : Int32) (K : Int32 → Int32 → Int32 → CT → Option (Int32 × VT × CT × CT)) : Nat → Int32 → Int32 → Int32 → CT → Option (Int32 × VT × CT × CT)
  | 0, _, _, _, _ => none
  | n + 1, v74, v75, v76, tr_77 =>
    if p4 ≤ v74 then
    (K v74 v75 v76 tr_77)
    else
    (if v75 = 0 then
    (nm (p3 + ((3 : Int32) * v74)) fun x81 =>
    bd1 (fX4_flawOfThree p2 x81 s2) fun r82 =>
    if r82 = 0 then
    (bd1 (fX4_cellAt x81 s2) fun r86 =>
    nm (x81 + (1 : Int32)) fun x88 =>
    bd1 (fX4_cellAt x88 s2) fun r89 =>
    nm (x81 + (2 : Int32)) fun x91 =>
    bd1 (fX4_cellAt x91 s2) fun r92 =>
    bd2 (fX0_addPlain r86 r89 r92 tr_77) fun r94 tr_95 =>
    if 0 ≤ r94 then
    (nm (v76 + 1) fun x98 =>
    nm (v74 + 1) fun x99 =>
    fX5_read_L60b2 v nw s2 p2 p3 p4 K n x99 r82 x98 tr_95)
    else
    (nm ((-20 : Int32) - v74) fun x100 =>
    some (x100, v, nw, tr_95)))
    else
    (nm (v74 + 1) fun x85 =>
    fX5_read_L60b2 v nw s2 p2 p3 p4 K n x85 r82 v76 tr_77))
    else
    (K v74 v75 v76 tr_77))
def fX5_read_L60b3 (v : VT) (nw : CT) (s3 : ST) (p2 : Int32) (p3 : Int32) (p4 : Int32) (K : Int32 → Int32 → Int32 → CT → Option (Int32 × VT × CT × CT)) : Nat → Int32 → Int32 → Int32 → CT → Option (Int32 × VT × CT × CT)
  | 0, _, _, _, _ => none
  | n + 1, v106, v107, v108, tr_109 =>
    if p4 ≤ v106 then
    (K v106 v107 v108 tr_109)
    else
    (if v107 = 0 then
    (nm (p3 + ((3 : Int32) * v106)) fun x113 =>
    bd1 (fX4_flawOfThree p2 x113 s3) fun r114 =>
    if r114 = 0 then
    (bd1 (fX4_cellAt x113 s3) fun r118 =>
    nm (x113 + (1 : Int32)) fun x120 =>
    bd1 (fX4_cellAt x120 s3) fun r121 =>
    nm (x113 + (2 : Int32)) fun x123 =>
    bd1 (fX4_cellAt x123 s3) fun r124 =>
    bd2 (fX0_addPlain r118 r121 r124 tr_109) fun r126 tr_127 =>
    if 0 ≤ r126 then
    (nm (v108 + 1) fun x130 =>
    nm (v106 + 1) fun x131 =>
    fX5_read_L60b3 v nw s3 p2 p3 p4 K n x131 r114 x130 tr_127)
    else
    (nm ((-20 : Int32) - v106) fun x132 =>
    some (x132, v, nw, tr_127)))
    else
    (nm (v106 + 1) fun x117 =>
    fX5_read_L60b3 v nw s3 p2 p3 p4 K n x117 r114 v108 tr_109))
    else
    (K v106 v107 v108 tr_109))
def fX5_read (p1 : Int32) (p2 : Int32) (p3 : Int32) (p4 : Int32) (v : VT) (nw : CT) (tr : CT) (s0 : ST) (s1 : ST) (s2 : ST) (s3 : ST) : Option (Int32 × VT × CT × CT) :=
  if p1 < 0 then
  (some ((-1), v, nw, tr))
  else
  (if 4 ≤ p1 then
  (some ((-1), v, nw, tr))
  else
  (if p2 < 0 then
  (some ((-1), v, nw, tr))
  else
  (if 3 ≤ p2 then
  (some ((-1), v, nw, tr))
  else
  (if p4 < 0 then
  (some ((-1), v, nw, tr))
  else
  (if p4 ≤ 13 then
  (gd p1 4 <|
  sel4 p1 (bd1 (fX0_copyTo tr nw) fun tr_8 =>
  fX5_read_L60 v nw s0 p2 p3 p4 (fun v10 v11 v12 tr_13 =>
  bd1 (fX0_copyTo nw tr_13) fun nw_37 =>
  nm (vLt' v v11) fun v_39 =>
  some (v12, v_39, nw_37, tr_13)) 4096 0 0 0 tr_8) (bd1 (fX0_copyTo tr nw) fun tr_40 =>
  fX5_read_L60b1 v nw s1 p2 p3 p4 (fun v42 v43 v44 tr_45 =>
  bd1 (fX0_copyTo nw tr_45) fun nw_69 =>
  nm (vLt' v v43) fun v_71 =>
  some (v44, v_71, nw_69, tr_45)) 4096 0 0 0 tr_40) (bd1 (fX0_copyTo tr nw) fun tr_72 =>
  fX5_read_L60b2 v nw s2 p2 p3 p4 (fun v74 v75 v76 tr_77 =>
  bd1 (fX0_copyTo nw tr_77) fun nw_101 =>
  nm (vLt' v v75) fun v_103 =>
  some (v76, v_103, nw_101, tr_77)) 4096 0 0 0 tr_72) (bd1 (fX0_copyTo tr nw) fun tr_104 =>
  fX5_read_L60b3 v nw s3 p2 p3 p4 (fun v106 v107 v108 tr_109 =>
  bd1 (fX0_copyTo nw tr_109) fun nw_133 =>
  nm (vLt' v v107) fun v_135 =>
  some (v108, v_135, nw_133, tr_109)) 4096 0 0 0 tr_104))
  else
  (some ((-1), v, nw, tr)))))))
def fX5_torn (v : VT) : Option (Int32) :=
  some (vLt v)
def fX5_imagesKept_L4 (v : VT) (K : Int32 → Int32 → Option (Int32)) : Nat → Int32 → Int32 → Option (Int32)
  | 0, _, _ => none
  | n + 1, v1, v2 =>
    if 2 ≤ v1 then
    (K v1 v2)
    else
    (gd v1 2 <|
    if (vKe v v1.toNatClampNeg) = 0 then
    (nm (v1 + 1) fun x7 =>
    fX5_imagesKept_L4 v K n x7 v2)
    else
    (nm (v2 + 1) fun x8 =>
    nm (v1 + 1) fun x9 =>
    fX5_imagesKept_L4 v K n x9 x8))
def fX5_imagesKept (v : VT) : Option (Int32) :=
  fX5_imagesKept_L4 v (fun v1 v2 =>
  some v2) 4096 0 0
def fX5_count (p1 : Int32) (v : VT) (rd : RT) (nw : CT) (s0 : ST) : Option (Int32) :=
  if p1 = 0 then
  (some (cSe nw))
  else
  (if p1 = 1 then
  (bd1 (fX5_imagesKept v) fun r3 =>
  some r3)
  else
  (if p1 = 2 then
  (some (rSz rd))
  else
  (if p1 = 3 then
  (if (sIs s0) = 0 then
  (some (-4))
  else
  (some (sSz s0)))
  else
  (if p1 = 4 then
  (bd1 (fX0_allForces nw) fun r9 =>
  some r9)
  else
  (some (-1))))))
def lenS : List Nat := [5, 5, 6, 8, 4, 4, 6]
def bytS : List (List Int32) := [[112, 108, 97, 105, 110], [115, 109, 97, 108, 108], [115, 101, 114, 109, 111, 110], [112, 114, 111, 112, 111, 115, 97, 108], [119, 97, 108, 108], [119, 105, 110, 100], [104, 101, 97, 114, 101, 114]]
def slen (i : Nat) : Nat := lenS.getD i 0
def sch (i k : Nat) : Int32 := (bytS.getD i []).getD k 0
def fX2_nameOf (p1 : Int32) : Option Nat := if p1 = 0 then some 0 else if p1 = 1 then some 1 else if p1 = 2 then some 2 else if p1 = 3 then some 3 else if p1 = 4 then some 4 else if p1 = 5 then some 5 else some 6
def fX2_flawed (p1 : Int32) (r : RT) : Option (Int32 × RT) :=
  nm (rFl' r p1) fun r_1 =>
  nm (rPl' r_1 (rSt r_1)) fun r_2 =>
  some (0, r_2)
def fX2_next_L0 (K : RT → Option (Int32 × RT)) : Nat → RT → Option (Int32 × RT)
  | 0, _ => none
  | n + 1, r_1 =>
    if (rSz r_1) ≤ (rAt r_1) then
    (K r_1)
    else
    (gd (rAt r_1) 160 <|
    nm (rTa r_1 ((rAt r_1).toNatClampNeg)) fun x5 =>
    if x5 = 32 then
    (nm ((rAt r_1) + (1 : Int32)) fun x7 =>
    nm (rAt' r_1 x7) fun r_8 =>
    fX2_next_L0 K n r_8)
    else
    (K r_1))
def fX2_next_L193 (K : RT → Option (Int32 × RT)) : Nat → RT → Option (Int32 × RT)
  | 0, _ => none
  | n + 1, r_30 =>
    if (rSz r_30) ≤ (rAt r_30) then
    (K r_30)
    else
    (gd (rAt r_30) 160 <|
    nm (rTa r_30 ((rAt r_30).toNatClampNeg)) fun x34 =>
    if x34 < 48 then
    (K r_30)
    else
    (gd (rAt r_30) 160 <|
    nm (rTa r_30 ((rAt r_30).toNatClampNeg)) fun x37 =>
    if 57 < x37 then
    (K r_30)
    else
    (nm ((rVa r_30) * (10 : Int32)) fun x39 =>
    gd (rAt r_30) 160 <|
    nm (x39 + (rTa r_30 ((rAt r_30).toNatClampNeg))) fun x41 =>
    nm (x41 - (48 : Int32)) fun x42 =>
    nm (rVa' r_30 x42) fun r_43 =>
    nm ((rAt r_43) + (1 : Int32)) fun x44 =>
    nm (rAt' r_43 x44) fun r_45 =>
    fX2_next_L193 K n r_45)))
def fX2_next_L193b2 (K : RT → Option (Int32 × RT)) : Nat → RT → Option (Int32 × RT)
  | 0, _ => none
  | n + 1, r_66 =>
    if (rSz r_66) ≤ (rAt r_66) then
    (K r_66)
    else
    (gd (rAt r_66) 160 <|
    nm (rTa r_66 ((rAt r_66).toNatClampNeg)) fun x70 =>
    if x70 < 48 then
    (K r_66)
    else
    (gd (rAt r_66) 160 <|
    nm (rTa r_66 ((rAt r_66).toNatClampNeg)) fun x73 =>
    if 57 < x73 then
    (K r_66)
    else
    (nm ((rVa r_66) * (10 : Int32)) fun x75 =>
    gd (rAt r_66) 160 <|
    nm (x75 + (rTa r_66 ((rAt r_66).toNatClampNeg))) fun x77 =>
    nm (x77 - (48 : Int32)) fun x78 =>
    nm (rVa' r_66 x78) fun r_79 =>
    nm ((rAt r_79) + (1 : Int32)) fun x80 =>
    nm (rAt' r_79 x80) fun r_81 =>
    fX2_next_L193b2 K n r_81)))
def fX2_next_L114 (K : RT → Option (Int32 × RT)) : Nat → RT → Option (Int32 × RT)
  | 0, _ => none
  | n + 1, r_89 =>
    if (rSz r_89) ≤ (rAt r_89) then
    (K r_89)
    else
    (gd (rAt r_89) 160 <|
    nm (rTa r_89 ((rAt r_89).toNatClampNeg)) fun x93 =>
    if x93 < 97 then
    (K r_89)
    else
    (gd (rAt r_89) 160 <|
    nm (rTa r_89 ((rAt r_89).toNatClampNeg)) fun x96 =>
    if 122 < x96 then
    (K r_89)
    else
    (nm ((rAt r_89) + (1 : Int32)) fun x98 =>
    nm (rAt' r_89 x98) fun r_99 =>
    fX2_next_L114 K n r_99)))
def fX2_next (r : RT) : Option (Int32 × RT) :=
  fX2_next_L0 (fun r_1 =>
  nm (rSt' r_1 (rAt r_1)) fun r_9 =>
  if (rAt r_9) < (rSz r_9) then
  (gd (rAt r_9) 160 <|
  nm (rTa r_9 ((rAt r_9).toNatClampNeg)) fun x12 =>
  nm ((rAt r_9) + (1 : Int32)) fun x13 =>
  nm (rAt' r_9 x13) fun r_14 =>
  if x12 = 59 then
  (nm (rTo' r_14 3) fun r_100 =>
  some (1, r_100))
  else
  (if x12 < 97 then
  (if x12 < 48 then
  (bd2 (fX2_flawed 1 r_14) fun r18 r_19 =>
  gb r18 <|
  some (r18, r_19))
  else
  (if 57 < x12 then
  (bd2 (fX2_flawed 1 r_14) fun r23 r_24 =>
  gb r23 <|
  some (r23, r_24))
  else
  (nm (rTo' r_14 2) fun r_27 =>
  nm (x12 - (48 : Int32)) fun x28 =>
  nm (rVa' r_27 x28) fun r_29 =>
  fX2_next_L193 (fun r_30 =>
  nm ((rAt r_30) - (rSt r_30)) fun x46 =>
  if x46 ≤ 2 then
  (some (1, r_30))
  else
  (bd2 (fX2_flawed 1 r_30) fun r48 r_49 =>
  if r48 = 0 then
  (some (0, r_49))
  else
  (some (1, r_49)))) 4096 r_29)))
  else
  (if 122 < x12 then
  (if x12 < 48 then
  (bd2 (fX2_flawed 1 r_14) fun r54 r_55 =>
  gb r54 <|
  some (r54, r_55))
  else
  (if 57 < x12 then
  (bd2 (fX2_flawed 1 r_14) fun r59 r_60 =>
  gb r59 <|
  some (r59, r_60))
  else
  (nm (rTo' r_14 2) fun r_63 =>
  nm (x12 - (48 : Int32)) fun x64 =>
  nm (rVa' r_63 x64) fun r_65 =>
  fX2_next_L193b2 (fun r_66 =>
  nm ((rAt r_66) - (rSt r_66)) fun x82 =>
  if x82 ≤ 2 then
  (some (1, r_66))
  else
  (bd2 (fX2_flawed 1 r_66) fun r84 r_85 =>
  if r84 = 0 then
  (some (0, r_85))
  else
  (some (1, r_85)))) 4096 r_65)))
  else
  (nm (rTo' r_14 1) fun r_88 =>
  fX2_next_L114 (fun r_89 =>
  some (1, r_89)) 4096 r_88))))
  else
  (nm (rTo' r_9 0) fun r_101 =>
  some (1, r_101))) 4096 r
def fX2_readNumber (p1 : Int32) (r : RT) : Option (Int32 × RT) :=
  bd2 (fX2_next r) fun r1 r_2 =>
  if r1 = 0 then
  (some (0, r_2))
  else
  (if (rTo r_2) = 2 then
  (bd1 (fX3_fits p1 (rVa r_2)) fun r6 =>
  if r6 = 0 then
  (bd2 (fX2_flawed 3 r_2) fun r9 r_10 =>
  if r9 = 0 then
  (some (0, r_10))
  else
  (some (1, r_10)))
  else
  (some (1, r_2)))
  else
  (bd2 (fX2_flawed 2 r_2) fun r13 r_14 =>
  gb r13 <|
  some (r13, r_14)))
def fX2_readStop (r : RT) : Option (Int32 × RT) :=
  bd2 (fX2_next r) fun r1 r_2 =>
  if r1 = 0 then
  (some (0, r_2))
  else
  (if (rTo r_2) = 3 then
  (some (1, r_2))
  else
  (bd2 (fX2_flawed 2 r_2) fun r6 r_7 =>
  if r6 = 0 then
  (some (0, r_7))
  else
  (some (1, r_7))))
def fX2_readSaying_L33 (dr : CT) (K : Int32 → RT → CT → Option (Int32 × RT × CT)) : Nat → Int32 → RT → CT → Option (Int32 × RT × CT)
  | 0, _, _, _ => none
  | n + 1, v5, r_6, dr_7 =>
    if 4 < v5 then
    (K v5 r_6 dr_7)
    else
    (bd2 (fX2_readNumber v5 r_6) fun r10 r_11 =>
    if r10 = 0 then
    (some (0, r_11, dr_7))
    else
    (gd (cSa dr) 5 <|
    gd v5 5 <|
    nm (cTo' dr_7 (va_up (cTo dr_7) ((cSa dr).toNatClampNeg) (upd (cTo dr_7 ((cSa dr).toNatClampNeg)) v5.toNatClampNeg (rVa r_11)))) fun dr_17 =>
    nm (v5 + 1) fun x18 =>
    fX2_readSaying_L33 dr K n x18 r_11 dr_17))
def fX2_readSaying (p1 : Int32) (r : RT) (dr : CT) : Option (Int32 × RT × CT) :=
  if (cSa dr) < 5 then
  (gd (cSa dr) 5 <|
  nm (cTo' dr (va_up (cTo dr) ((cSa dr).toNatClampNeg) (upd (cTo dr ((cSa dr).toNatClampNeg)) 0 p1))) fun dr_4 =>
  fX2_readSaying_L33 dr (fun v5 r_6 dr_7 =>
  nm ((cSa dr_7) + (1 : Int32)) fun x19 =>
  nm (cSa' dr_7 x19) fun dr_20 =>
  some (1, r_6, dr_20)) 4096 1 r dr_4)
  else
  (bd2 (fX2_flawed 5 r) fun r21 r_22 =>
  gb r21 <|
  some (r21, r_22, dr))
def fX2_readWall (r : RT) (dr : CT) : Option (Int32 × RT × CT) :=
  bd1 (fJ13_bitCount_95d88 (cW dr)) fun r1 =>
  if r1 < 12 then
  (bd2 (fX2_readNumber 1 r) fun r4 r_5 =>
  if r4 = 0 then
  (some (0, r_5, dr))
  else
  (bd1 (fX3_placeOf (rVa r_5)) fun r8 =>
  bd1 (fX3_has (cW dr) r8) fun r10 =>
  if r10 = 0 then
  (nm ((cW dr) ||| ((1 : Int64) <<< (r8.toInt64 &&& 63))) fun x13 =>
  nm (cW' dr x13) fun dr_14 =>
  some (1, r_5, dr_14))
  else
  (bd2 (fX2_flawed 4 r_5) fun r15 r_16 =>
  gb r15 <|
  some (r15, r_16, dr))))
  else
  (bd2 (fX2_flawed 5 r) fun r19 r_20 =>
  gb r19 <|
  some (r19, r_20, dr))
def fX2_readWind (r : RT) (dr : CT) : Option (Int32 × RT × CT) :=
  bd2 (fX2_readNumber 4 r) fun r1 r_2 =>
  if r1 = 0 then
  (some (0, r_2, dr))
  else
  (nm ((rTh r_2) >>> ((rVa r_2) &&& 31)) fun x5 =>
  if (x5 &&& (1 : Int32)) = 0 then
  (nm ((rTh r_2) ||| ((1 : Int32) <<< ((rVa r_2) &&& 31))) fun x7 =>
  nm (rTh' r_2 x7) fun r_8 =>
  bd2 (fX2_readNumber 5 r_8) fun r9 r_10 =>
  if r9 = 0 then
  (some (0, r_10, dr))
  else
  (gd (rVa r_2) 10 <|
  nm (cWi' dr (upd (cWi dr) ((rVa r_2).toNatClampNeg) (rVa r_10))) fun dr_14 =>
  some (1, r_10, dr_14)))
  else
  (bd2 (fX2_flawed 4 r_2) fun r15 r_16 =>
  gb r15 <|
  some (r15, r_16, dr)))
def fX2_readHearer (r : RT) (dr : CT) : Option (Int32 × RT × CT) :=
  if (cHe dr) < 4 then
  (bd2 (fX2_readNumber 1 r) fun r2 r_3 =>
  if r2 = 0 then
  (some (0, r_3, dr))
  else
  (gd (cHe dr) 4 <|
  nm (cAt' dr (upd (cAt dr) ((cHe dr).toNatClampNeg) (rVa r_3))) fun dr_7 =>
  nm ((cHe dr_7) + (1 : Int32)) fun x8 =>
  nm (cHe' dr_7 x8) fun dr_9 =>
  some (1, r_3, dr_9)))
  else
  (bd2 (fX2_flawed 5 r) fun r10 r_11 =>
  gb r10 <|
  some (r10, r_11, dr))
def fX2_isName_L20 (r : RT) (i1 : Nat) (K : Int32 → Option (Int32)) : Nat → Int32 → Option (Int32)
  | 0, _ => none
  | n + 1, v3 =>
    if (nI (slen i1)) ≤ v3 then
    (K v3)
    else
    (nm ((rSt r) + v3) fun x6 =>
    gd x6 160 <|
    nm (rTa r x6.toNatClampNeg) fun x8 =>
    gd v3 (slen i1) <|
    if x8 = (sch i1 v3.toNatClampNeg) then
    (nm (v3 + 1) fun x11 =>
    fX2_isName_L20 r i1 K n x11)
    else
    (some 0))
def fX2_isName (i1 : Nat) (r : RT) : Option (Int32) :=
  nm (nI (slen i1)) fun x1 =>
  if x1 = ((rAt r) - (rSt r)) then
  (fX2_isName_L20 r i1 (fun v3 =>
  some 1) 4096 0)
  else
  (some 0)
def fX2_lineNamed_L2 (r : RT) (K : Int32 → Option (Int32)) : Nat → Int32 → Option (Int32)
  | 0, _ => none
  | n + 1, v1 =>
    if 7 ≤ v1 then
    (K v1)
    else
    (bd1 (fX2_nameOf v1) fun i4 =>
    bd1 (fX2_isName i4 r) fun r6 =>
    if r6 = 0 then
    (nm (v1 + 1) fun x9 =>
    fX2_lineNamed_L2 r K n x9)
    else
    (some v1))
def fX2_lineNamed (r : RT) : Option (Int32) :=
  fX2_lineNamed_L2 r (fun v1 =>
  some 7) 4096 0
def fX2_readLine (r : RT) (dr : CT) : Option (Int32 × RT × CT) :=
  bd1 ((if (rTo r) = 1 then
  (bd1 (fX2_lineNamed r) fun r79 =>
  some r79)
  else
  (some 7)) : Option (Int32)) fun y1 =>
  if y1 = 0 then
  (bd3 (fX2_readSaying y1 r dr) fun r5 r_6 dr_7 =>
  if r5 = 0 then
  (some (0, r_6, dr_7))
  else
  (bd2 (fX2_readStop r_6) fun r10 r_11 =>
  if r10 = 0 then
  (some (0, r_11, dr_7))
  else
  (some (1, r_11, dr_7))))
  else
  (if y1 = 1 then
  (bd3 (fX2_readSaying y1 r dr) fun r15 r_16 dr_17 =>
  if r15 = 0 then
  (some (0, r_16, dr_17))
  else
  (bd2 (fX2_readStop r_16) fun r20 r_21 =>
  if r20 = 0 then
  (some (0, r_21, dr_17))
  else
  (some (1, r_21, dr_17))))
  else
  (if y1 = 2 then
  (bd3 (fX2_readSaying y1 r dr) fun r25 r_26 dr_27 =>
  if r25 = 0 then
  (some (0, r_26, dr_27))
  else
  (bd2 (fX2_readStop r_26) fun r30 r_31 =>
  if r30 = 0 then
  (some (0, r_31, dr_27))
  else
  (some (1, r_31, dr_27))))
  else
  (if y1 = 3 then
  (bd3 (fX2_readSaying y1 r dr) fun r35 r_36 dr_37 =>
  if r35 = 0 then
  (some (0, r_36, dr_37))
  else
  (bd2 (fX2_readStop r_36) fun r40 r_41 =>
  if r40 = 0 then
  (some (0, r_41, dr_37))
  else
  (some (1, r_41, dr_37))))
  else
  (if y1 = 4 then
  (bd3 (fX2_readWall r dr) fun r45 r_46 dr_47 =>
  if r45 = 0 then
  (some (0, r_46, dr_47))
  else
  (bd2 (fX2_readStop r_46) fun r50 r_51 =>
  if r50 = 0 then
  (some (0, r_51, dr_47))
  else
  (some (1, r_51, dr_47))))
  else
  (if y1 = 5 then
  (bd3 (fX2_readWind r dr) fun r55 r_56 dr_57 =>
  if r55 = 0 then
  (some (0, r_56, dr_57))
  else
  (bd2 (fX2_readStop r_56) fun r60 r_61 =>
  if r60 = 0 then
  (some (0, r_61, dr_57))
  else
  (some (1, r_61, dr_57))))
  else
  (if y1 = 6 then
  (bd3 (fX2_readHearer r dr) fun r65 r_66 dr_67 =>
  if r65 = 0 then
  (some (0, r_66, dr_67))
  else
  (bd2 (fX2_readStop r_66) fun r70 r_71 =>
  if r70 = 0 then
  (some (0, r_71, dr_67))
  else
  (some (1, r_71, dr_67))))
  else
  (bd2 (fX2_flawed 2 r) fun r74 r_75 =>
  gb r74 <|
  some (r74, r_75, dr))))))))
def fX2_readLines_L29 (K : Int32 → RT → CT → Option (Int32 × RT × CT)) : Nat → Int32 → RT → CT → Option (Int32 × RT × CT)
  | 0, _, _, _ => none
  | n + 1, v7, r_8, dr_9 =>
    if 160 < v7 then
    (K v7 r_8 dr_9)
    else
    (bd2 (fX2_next r_8) fun r12 r_13 =>
    if r12 = 0 then
    (K v7 r_13 dr_9)
    else
    (if (rTo r_13) = 0 then
    (K v7 r_13 dr_9)
    else
    (bd3 (fX2_readLine r_13 dr_9) fun r17 r_18 dr_19 =>
    if r17 = 0 then
    (K v7 r_18 dr_19)
    else
    (nm (v7 + 1) fun x22 =>
    fX2_readLines_L29 K n x22 r_18 dr_19))))
def fX2_readLines (r : RT) (dr : CT) : Option (Int32 × RT × CT) :=
  nm (rAt' r 0) fun r_1 =>
  nm (rFl' r_1 0) fun r_2 =>
  nm (rPl' r_2 0) fun r_3 =>
  nm (rTh' r_3 0) fun r_4 =>
  bd1 (fX0_clear dr) fun dr_5 =>
  fX2_readLines_L29 (fun v7 r_8 dr_9 =>
  some (v7, r_8, dr_9)) 4096 0 r_4 dr_5
def fX5_text_L53 (K : Int32 → VT → Option (Int32 × VT × RT × CT × CT)) : Nat → Int32 → VT → Option (Int32 × VT × RT × CT × CT)
  | 0, _, _ => none
  | n + 1, v9, v_10 =>
    if 2 ≤ v9 then
    (K v9 v_10)
    else
    (gd v9 2 <|
    nm (vKe' v_10 (upd (vKe v_10) v9.toNatClampNeg (vp_nar .boolean 0))) fun v_14 =>
    nm (v9 + 1) fun x15 =>
    fX5_text_L53 K n x15 v_14)
def fX5_text (v : VT) (rd : RT) (dr : CT) (nw : CT) : Option (Int32 × VT × RT × CT × CT) :=
  bd3 (fX2_readLines rd dr) fun r1 rd_2 dr_3 =>
  nm (rSz' rd_2 0) fun rd_5 =>
  if (rFl rd_5) = 0 then
  (bd1 (fX0_copyTo nw dr_3) fun nw_7 =>
  fX5_text_L53 (fun v9 v_10 =>
  some (r1, v_10, rd_5, dr_3, nw_7)) 4096 0 v)
  else
  (nm ((-10 : Int32) - (rPl rd_5)) fun x16 =>
  some (x16, v, rd_5, dr_3, nw))
