/-- the reader's words: length, signs -/
def av_sl (j : Nat) : Option Int32 := some (nI (av_lenS.getD j 0))
def av_sc (j : Nat) (i : Int32) : Option Int32 := if i < 0 ∨ av_lenS.getD j 0 ≤ i.toNatClampNeg then none else some ((av_bytS.getD j []).getD i.toNatClampNeg 0)

def fX4_place (q : Nat) (a1 : Nat) (a2 : Int32) (a3 : Int32) (μ : Mem) : Option (Int32) :=
  some a2

def fX4_heft (q : Nat) (a1 : Int32) (μ : Mem) : Option (Int32) :=
  some a1

def fX6_heft (q : Nat) (a1 : Int32) (μ : Mem) : Option (Int32) :=
  some ((a1 + 1) / 2)

def fX11_within_14 (μ : Mem) : Option (Int32) :=
  some 0

def fX11_within (a0 : Int32) (a1 : Int32) (a2 : Int32) (μ : Mem) : Option (Int32) :=
  if a0 < a1 then (
    fX11_within_14 μ) else (
    if a2 < a0 then (
      fX11_within_14 μ) else (
      some 1))

def fX7_loadOf (q : Nat) (a1 : Int32) (μ : Mem) : Option (Int32) :=
  (rd μ (av_rf q 1) a1).bind fun r5 =>
  (rd μ (av_rf q 2) a1).bind fun r11 =>
  some (r5 + r11)

def fX7_bears_36 (μ : Mem) : Option (Int32) :=
  some 1

def fX7_bears (q : Nat) (a1 : Int32) (a2 : Int32) (μ : Mem) : Option (Int32) :=
  (fX11_within a1 0 ((gF μ (av_rf q 0) 1) - 1) μ).bind fun r11 =>
  if r11 = 0 then (
    fX7_bears_36 μ) else (
    (fX7_loadOf q a1 μ).bind fun r19 =>
    (rd μ (av_rf (av_rf q 0) 2) a1).bind fun r32 =>
    if r32 < (r19 + a2) then (
      some 0) else (
      fX7_bears_36 μ))

def fX7_lightest_30 (k4 : Nat → Int32 → Int32 → Mem → Option (Int32)) (q : Nat) (x1 : Int32) (x2 : Int32) (μ : Mem) : Option (Int32) :=
  (some (x2 + 1)).bind fun x2_30 =>
  k4 q x1 x2_30 μ

def fX7_lightest_4 : Nat → Nat → Int32 → Int32 → Mem → Option (Int32)
  | 0 => fun _ _ _ _ => none
  | n + 1 => fun q x1 x2 μ =>
    if (gF μ (av_rf q 0) 1) ≤ x2 then (
      some x1) else (
      (fX7_loadOf q x2 μ).bind fun r17 =>
      (fX7_loadOf q x1 μ).bind fun r22 =>
      if r22 ≤ r17 then (
        fX7_lightest_30 (fX7_lightest_4 n) q x1 x2 μ) else (
        fX7_lightest_30 (fX7_lightest_4 n) q x2 x2 μ))

def fX7_lightest (q : Nat) (μ : Mem) : Option (Int32) :=
  fX7_lightest_4 av_big q 0 1 μ

def dv_X0_11 (q : Nat) (a1 : Int32) (μ : Mem) : Option Int32 :=
  if av_cls q = 0 then fX4_heft q a1 μ else (
  if av_cls q = 6 then fX6_heft q a1 μ else (
  none))

def fX0_place (q : Nat) (a1 : Nat) (a2 : Int32) (a3 : Int32) (μ : Mem) : Option (Int32) :=
  (fX4_place q a1 a2 a3 μ).bind fun r4 =>
  (dv_X0_11 q a3 μ).bind fun r14 =>
  (fX7_bears a1 r4 r14 μ).bind fun r17 =>
  if r17 = 0 then (
    (fX7_lightest a1 μ).bind fun r29 =>
    some r29) else (
    some r4)

def fX7_copyFrom (q : Nat) (a1 : Nat) (μ : Mem) : Option (Mem) :=
  (cpy μ (av_rf a1 1) 0 (av_rf q 1) 0 8).bind fun μ12 =>
  (cpy μ12 (av_rf a1 2) 0 (av_rf q 2) 0 8).bind fun μ27 =>
  (some (sF μ27 q 3 (gF μ27 a1 3))).bind fun μ35 =>
  (some (sF μ35 q 4 (gF μ35 a1 4))).bind fun μ43 =>
  (some (sF μ43 q 5 (gF μ43 a1 5))).bind fun μ51 =>
  some μ51

def fX1_fresh (μ : Mem) : Option (Nat × Mem) :=
  (rdr 12 0).bind fun r5 =>
  (fX7_copyFrom r5 21 μ).bind fun μ10 =>
  (rdr 12 0).bind fun r18 =>
  some (r18, μ10)

def fX1_isDeepest_10 (μ : Mem) : Option (Int32) :=
  some 1

def fX1_isDeepest (a1 : Int32) (μ : Mem) : Option (Int32) :=
  if a1 < 0 then (
    fX1_isDeepest_10 μ) else (
    if a1 < 6 then (
      some 0) else (
      fX1_isDeepest_10 μ))

def fX9_kindOf_24 (y0 : Nat) (y1 : Int32) (μ : Mem) : Option (Nat) :=
  (rdr y0 y1).bind fun r24 =>
  some r24

def fX9_kindOf (q : Nat) (a1 : Int32) (μ : Mem) : Option (Nat) :=
  (fX11_within a1 0 ((nI (av_ln (av_rf q 0))) - 1) μ).bind fun r13 =>
  if r13 = 0 then (
    fX9_kindOf_24 (av_rf q 0) 0 μ) else (
    fX9_kindOf_24 (av_rf q 0) a1 μ)

def fX7_heaviest_30 (k4 : Nat → Int32 → Int32 → Mem → Option (Int32)) (q : Nat) (x1 : Int32) (x2 : Int32) (μ : Mem) : Option (Int32) :=
  (some (x2 + 1)).bind fun x2_30 =>
  k4 q x1 x2_30 μ

def fX7_heaviest_4 : Nat → Nat → Int32 → Int32 → Mem → Option (Int32)
  | 0 => fun _ _ _ _ => none
  | n + 1 => fun q x1 x2 μ =>
    if (gF μ (av_rf q 0) 1) ≤ x2 then (
      some x1) else (
      (fX7_loadOf q x2 μ).bind fun r17 =>
      (fX7_loadOf q x1 μ).bind fun r22 =>
      if r17 ≤ r22 then (
        fX7_heaviest_30 (fX7_heaviest_4 n) q x1 x2 μ) else (
        fX7_heaviest_30 (fX7_heaviest_4 n) q x2 x2 μ))

def fX7_heaviest (q : Nat) (μ : Mem) : Option (Int32) :=
  fX7_heaviest_4 av_big q 0 1 μ

def fX10_place (q : Nat) (a1 : Nat) (a2 : Int32) (a3 : Int32) (μ : Mem) : Option (Int32) :=
  if ((gF μ a1 3) - (gF μ a1 3) / 2 * 2) = 0 then (
    (fX4_place q a1 a2 a3 μ).bind fun r20 =>
    some r20) else (
    (fX7_heaviest a1 μ).bind fun r10 =>
    some r10)

def fX9_ledgeBelow (q : Nat) (a1 : Int32) (μ : Mem) : Option (Int32) :=
  (fX11_within a1 0 ((gF μ q 1) - 1) μ).bind fun r8 =>
  if r8 = 0 then (
    some (-1)) else (
    (rd μ (av_rf q 3) a1).bind fun r19 =>
    some r19)

def fX2_place (q : Nat) (a1 : Nat) (a2 : Int32) (a3 : Int32) (μ : Mem) : Option (Int32) :=
  (fX4_place q a1 a2 a3 μ).bind fun r4 =>
  (fX9_ledgeBelow (av_rf a1 0) r4 μ).bind fun r15 =>
  if r15 = (-1) then (
    some r4) else (
    some r15)

def fX3_heft (q : Nat) (a1 : Int32) (μ : Mem) : Option (Int32) :=
  some (2 * a1)

def fX7_lay (q : Nat) (a1 : Int32) (a2 : Int32) (μ : Mem) : Option (Mem) :=
  (fX11_within a1 0 ((gF μ (av_rf q 0) 1) - 1) μ).bind fun r11 =>
  if r11 = 0 then (
    some μ) else (
    (rd μ (av_rf q 2) a1).bind fun r23 =>
    (wr μ (av_rf q 2) a1 (r23 + a2)).bind fun μ26 =>
    some μ26)

def fX11_hasBit (a0 : Int32) (a1 : Int32) (μ : Mem) : Option (Int32) :=
  if ((a0 >>> (a1 &&& 31)) &&& 1) = 0 then (
    some 0) else (
    some 1)

def fJ6_bitCount_0f7a4 (a0 : Int32) (μ : Mem) : Option (Int32) :=
  (some (a0 - (((a0.toUInt32 >>> (Int32.toUInt32 1 &&& Int32.toUInt32 31)).toInt32) &&& 1431655765))).bind fun x0_9 =>
  (some ((x0_9 &&& 858993459) + (((x0_9.toUInt32 >>> (Int32.toUInt32 2 &&& Int32.toUInt32 31)).toInt32) &&& 858993459))).bind fun x0_23 =>
  (some ((x0_23 + ((x0_23.toUInt32 >>> (Int32.toUInt32 4 &&& Int32.toUInt32 31)).toInt32)) &&& 252645135)).bind fun x0_33 =>
  (some (x0_33 + ((x0_33.toUInt32 >>> (Int32.toUInt32 8 &&& Int32.toUInt32 31)).toInt32))).bind fun x0_40 =>
  (some (x0_40 + ((x0_40.toUInt32 >>> (Int32.toUInt32 16 &&& Int32.toUInt32 31)).toInt32))).bind fun x0_47 =>
  some (x0_47 &&& 63)

def fX7_drop_90 (q : Nat) (x1 : Int32) (x2 : Int32) (μ : Mem) : Option (Int32 × Mem) :=
  (wr μ (av_rf q 1) x1 0).bind fun μ96 =>
  (wr μ96 (av_rf q 2) x1 0).bind fun μ103 =>
  some (x2, μ103)

def fX7_drop_49 (q : Nat) (x1 : Int32) (μ : Mem) : Option (Int32 × Mem) :=
  (rd μ (av_rf (av_rf q 0) 3) x1).bind fun r57 =>
  if r57 = (-1) then (
    fX7_drop_90 q x1 r57 μ) else (
    (rd μ (av_rf q 1) r57).bind fun r70 =>
    (fX7_loadOf q x1 μ).bind fun r73 =>
    (wr μ (av_rf q 1) r57 (r70 + r73)).bind fun μ77 =>
    (some (sF μ77 q 7 ((gF μ77 q 7) ||| (1 <<< (r57 &&& 31))))).bind fun μ87 =>
    fX7_drop_90 q x1 r57 μ87)

def fX7_drop_13 (q : Nat) (x1 : Int32) (μ : Mem) : Option (Int32 × Mem) :=
  (fX11_hasBit (gF μ q 6) x1 μ).bind fun r18 =>
  if r18 = 0 then (
    (fJ6_bitCount_0f7a4 (gF μ q 6) μ).bind fun r33 =>
    (wr μ (av_rf q 8) x1 r33).bind fun μ36 =>
    (some (sF μ36 q 6 ((gF μ36 q 6) ||| (1 <<< (x1 &&& 31))))).bind fun μ46 =>
    fX7_drop_49 q x1 μ46) else (
    fX7_drop_49 q x1 μ)

def fX7_drop (q : Nat) (a1 : Int32) (μ : Mem) : Option (Int32 × Mem) :=
  if (gF μ q 4) = (-1) then (
    (some (sF μ q 4 a1)).bind fun μ10 =>
    fX7_drop_13 q a1 μ10) else (
    fX7_drop_13 q a1 μ)

def fX7_comeDown_70 (k26 : Nat → Int32 → Int32 → Mem → Option (Mem)) (q : Nat) (x1 : Int32) (x2 : Int32) (μ : Mem) : Option (Mem) :=
  (some (x2 + 1)).bind fun x2_70 =>
  k26 q x1 x2_70 μ

def fX7_comeDown_42 (k26 : Nat → Int32 → Int32 → Mem → Option (Mem)) : Nat → Nat → Int32 → Int32 → Int32 → Int32 → Mem → Option (Mem)
  | 0 => fun _ _ _ _ _ _ => none
  | n + 1 => fun q x1 x2 x3 x4 μ =>
    if (8 : Int32) ≤ x4 then (
      fX7_comeDown_70 k26 q x1 x2 μ) else (
      (fX7_bears q x3 0 μ).bind fun r52 =>
      if r52 = 0 then (
        av_b2 (fX7_drop q x3 μ) fun r60 μ60 =>
        (some (x4 + 1)).bind fun x4_64 =>
        fX7_comeDown_42 k26 n q x1 x2 r60 x4_64 μ60) else (
        fX7_comeDown_70 k26 q x1 x2 μ))

def fX7_comeDown_26 : Nat → Nat → Int32 → Int32 → Mem → Option (Mem)
  | 0 => fun _ _ _ _ => none
  | n + 1 => fun q x1 x2 μ =>
    if (gF μ (av_rf q 0) 1) ≤ x2 then (
      if x1 = 0 then (
        some μ) else (
        (some (sF μ q 5 (gF μ q 6))).bind fun μ85 =>
        some μ85)) else (
      fX7_comeDown_42 (fX7_comeDown_26 n) av_big q x1 x2 x2 0 μ)

def fX7_comeDown_13 (q : Nat) (y0 : Int32) (μ : Mem) : Option (Mem) :=
  (some (sF μ q 6 0)).bind fun μ16 =>
  (some (sF μ16 q 7 0)).bind fun μ21 =>
  fX7_comeDown_26 av_big q y0 0 μ21

def fX7_comeDown (q : Nat) (μ : Mem) : Option (Mem) :=
  if (gF μ q 4) = (-1) then (
    fX7_comeDown_13 q 1 μ) else (
    fX7_comeDown_13 q 0 μ)

def dv_X7_69 (q : Nat) (a1 : Nat) (a2 : Int32) (a3 : Int32) (μ : Mem) : Option Int32 :=
  if av_cls q = 4 then fX4_place q a1 a2 a3 μ else (
  if av_cls q = 0 then fX0_place q a1 a2 a3 μ else (
  if av_cls q = 3 then fX4_place q a1 a2 a3 μ else (
  if av_cls q = 6 then fX0_place q a1 a2 a3 μ else (
  if av_cls q = 2 then fX2_place q a1 a2 a3 μ else (
  if av_cls q = 10 then fX10_place q a1 a2 a3 μ else (
  none))))))

def dv_X7_75 (q : Nat) (a1 : Int32) (μ : Mem) : Option Int32 :=
  if av_cls q = 4 then fX4_heft q a1 μ else (
  if av_cls q = 0 then fX4_heft q a1 μ else (
  if av_cls q = 3 then fX3_heft q a1 μ else (
  if av_cls q = 6 then fX6_heft q a1 μ else (
  if av_cls q = 2 then fX4_heft q a1 μ else (
  if av_cls q = 10 then fX3_heft q a1 μ else (
  none))))))

def fX7_cast (q : Nat) (a1 : Int32) (μ : Mem) : Option (Mem) :=
  (fX11_within a1 0 ((gF μ (av_rf q 0) 4) - 1) μ).bind fun r11 =>
  if r11 = 0 then (
    some μ) else (
    (rd μ (av_rf (av_rf q 0) 5) a1).bind fun r30 =>
    (fX9_kindOf (av_rf q 0) r30 μ).bind fun r31 =>
    (rd μ (av_rf (av_rf q 0) 7) a1).bind fun r43 =>
    (rd μ (av_rf (av_rf q 0) 6) a1).bind fun r56 =>
    (dv_X7_69 r31 q r56 r43 μ).bind fun r58 =>
    (dv_X7_75 r31 r43 μ).bind fun r63 =>
    (fX7_lay q r58 r63 μ).bind fun μ66 =>
    (fX7_comeDown q μ66).bind fun μ70 =>
    (some (sF μ70 q 3 ((gF μ70 q 3) + 1))).bind fun μ80 =>
    some μ80)

def fX1_afterFebruary_7 : Nat → Nat → Int32 → Mem → Option (Nat × Mem)
  | 0 => fun _ _ _ => none
  | n + 1 => fun x1 x2 μ =>
    if (gF μ 15 4) ≤ x2 then (
      some (x1, μ)) else (
      (fX7_cast x1 x2 μ).bind fun μ20 =>
      (some (x2 + 1)).bind fun x2_23 =>
      fX1_afterFebruary_7 n x1 x2_23 μ20)

def fX1_afterFebruary (μ : Mem) : Option (Nat × Mem) :=
  av_b2 (fX1_fresh μ) fun r1 μ1 =>
  fX1_afterFebruary_7 av_big r1 0 μ1

def fX1_fillOrder_50 (k5 : Int32 → Int32 → Int32 → Mem → Option (Mem)) (x2 : Int32) (x3 : Int32) (x4 : Int32) (μ : Mem) : Option (Mem) :=
  (some (x4 + 1)).bind fun x4_50 =>
  k5 x2 x3 x4_50 μ

def fX1_fillOrder_5 : Nat → Int32 → Int32 → Int32 → Mem → Option (Mem)
  | 0 => fun _ _ _ _ => none
  | n + 1 => fun x2 x3 x4 μ =>
    if (gF μ 15 4) ≤ x4 then (
      some μ) else (
      if (gF μ 11 4) = 0 then (
        (fX11_hasBit x2 x4 μ).bind fun r27 =>
        if r27 = 0 then (
          if (6 : Int32) ≤ x3 then (
            fX1_fillOrder_50 (fX1_fillOrder_5 n) x2 x3 x4 μ) else (
            (wr μ 13 x3 x4).bind fun μ46 =>
            (some (x3 + 1)).bind fun x3_47 =>
            fX1_fillOrder_50 (fX1_fillOrder_5 n) x2 x3_47 x4 μ46)) else (
          fX1_fillOrder_50 (fX1_fillOrder_5 n) x2 x3 x4 μ)) else (
        some μ))

def fX1_fillOrder (a1 : Int32) (a2 : Int32) (μ : Mem) : Option (Mem) :=
  fX1_fillOrder_5 av_big a2 a1 0 μ

def fX1_ordersOf_4 : Nat → Int32 → Int32 → Int32 → Mem → Option (Int32)
  | 0 => fun _ _ _ _ => none
  | n + 1 => fun x0 x1 x2 μ =>
    if x0 < x2 then (
      some x1) else (
      (some (x1 * x2)).bind fun x1_12 =>
      (some (x2 + 1)).bind fun x2_13 =>
      fX1_ordersOf_4 n x0 x1_12 x2_13 μ)

def fX1_ordersOf (a0 : Int32) (μ : Mem) : Option (Int32) :=
  fX1_ordersOf_4 av_big a0 1 2 μ

def fX1_countOrders_154 (self : Int32 → Int32 → Int32 → Mem → Option (Mem)) (k74 : Int32 → Int32 → Int32 → Int32 → Mem → Option (Mem)) (x1 : Int32) (x2 : Int32) (x3 : Int32) (x5 : Int32) (μ : Mem) : Option (Mem) :=
  (some (x5 + 1)).bind fun x5_154 =>
  k74 x1 x2 x3 x5_154 μ

def fX1_countOrders_110 (self : Int32 → Int32 → Int32 → Mem → Option (Mem)) (k74 : Int32 → Int32 → Int32 → Int32 → Mem → Option (Mem)) (x1 : Int32) (x2 : Int32) (x3 : Int32) (x5 : Int32) (μ : Mem) : Option (Mem) :=
  (rdr 12 (x1 + 1)).bind fun r117 =>
  (rdr 12 x1).bind fun r123 =>
  (fX7_copyFrom r117 r123 μ).bind fun μ124 =>
  (rdr 12 (x1 + 1)).bind fun r134 =>
  (fX7_cast r134 x5 μ124).bind fun μ137 =>
  (self (x1 + 1) x2 (x3 ||| (1 <<< (x5 &&& 31))) μ137).bind fun μ151 =>
  fX1_countOrders_154 self k74 x1 x2 x3 x5 μ151

def fX1_countOrders_74 (self : Int32 → Int32 → Int32 → Mem → Option (Mem)) : Nat → Int32 → Int32 → Int32 → Int32 → Mem → Option (Mem)
  | 0 => fun _ _ _ _ _ => none
  | n + 1 => fun x1 x2 x3 x5 μ =>
    if (gF μ 15 4) ≤ x5 then (
      some μ) else (
      (fX11_hasBit x3 x5 μ).bind fun r89 =>
      if r89 = 0 then (
        if (gF μ 11 4) = 0 then (
          (wr μ 13 x1 x5).bind fun μ109 =>
          fX1_countOrders_110 self (fX1_countOrders_74 self n) x1 x2 x3 x5 μ109) else (
          fX1_countOrders_110 self (fX1_countOrders_74 self n) x1 x2 x3 x5 μ)) else (
        fX1_countOrders_154 self (fX1_countOrders_74 self n) x1 x2 x3 x5 μ))

def fX1_countOrders_37 (self : Int32 → Int32 → Int32 → Mem → Option (Mem)) (x1 : Int32) (x2 : Int32) (x3 : Int32) (x4 : Int32) (μ : Mem) : Option (Mem) :=
  (rdr 12 x1).bind fun r42 =>
  if (gF μ r42 4) = x2 then (
    (fX1_fillOrder x1 x3 μ).bind fun μ53 =>
    (fX1_ordersOf x4 μ53).bind fun r63 =>
    (some (sF μ53 11 4 ((gF μ53 11 4) + r63))).bind fun μ67 =>
    some μ67) else (
    some μ)

def fX1_countOrders_b (self : Int32 → Int32 → Int32 → Mem → Option (Mem)) (a1 : Int32) (a2 : Int32) (a3 : Int32) (μ : Mem) : Option (Mem) :=
  (some ((gF μ 15 4) - a1)).bind fun x4_9 =>
  (rdr 12 a1).bind fun r16 =>
  if (gF μ r16 4) = (-1) then (
    if x4_9 ≤ 0 then (
      fX1_countOrders_37 self a1 a2 a3 x4_9 μ) else (
      (fX1_isDeepest a1 μ).bind fun r31 =>
      if r31 = 0 then (
        fX1_countOrders_74 self av_big a1 a2 a3 0 μ) else (
        fX1_countOrders_37 self a1 a2 a3 x4_9 μ))) else (
    fX1_countOrders_37 self a1 a2 a3 x4_9 μ)

def fX1_countOrders : Nat → Int32 → Int32 → Int32 → Mem → Option (Mem)
  | 0 => fun _ _ _ _ => none
  | d + 1 => fX1_countOrders_b (fX1_countOrders d)

def fX1_ordersWon (a1 : Int32) (μ : Mem) : Option (Int32 × Mem) :=
  av_b2 (fX1_fresh μ) fun r1 μ1 =>
  (some (sF μ1 11 4 0)).bind fun μ7 =>
  (fX1_countOrders 8 0 a1 0 μ7).bind fun μ14 =>
  some (gF μ14 11 4, μ14)

def fX9_bitsAbove_45 (k8 : Nat → Int32 → Int32 → Mem → Option (Int32)) (q : Nat) (x2 : Int32) (x3 : Int32) (μ : Mem) : Option (Int32) :=
  (some (x3 + 1)).bind fun x3_45 =>
  k8 q x2 x3_45 μ

def fX9_bitsAbove_8 : Nat → Nat → Int32 → Int32 → Mem → Option (Int32)
  | 0 => fun _ _ _ _ => none
  | n + 1 => fun q x2 x3 μ =>
    if (gF μ q 1) ≤ x3 then (
      some x2) else (
      (rd μ (av_rf q 3) x3).bind fun r21 =>
      if r21 = (-1) then (
        fX9_bitsAbove_45 (fX9_bitsAbove_8 n) q x2 x3 μ) else (
        (rd μ (av_rf q 3) x3).bind fun r32 =>
        (fX11_hasBit x2 r32 μ).bind fun r33 =>
        if r33 = 0 then (
          fX9_bitsAbove_45 (fX9_bitsAbove_8 n) q x2 x3 μ) else (
          (some (x2 ||| (1 <<< (x3 &&& 31)))).bind fun x2_44 =>
          fX9_bitsAbove_45 (fX9_bitsAbove_8 n) q x2_44 x3 μ)))

def fX9_bitsAbove (q : Nat) (a1 : Int32) (μ : Mem) : Option (Int32) :=
  (some (1 <<< (a1 &&& 31))).bind fun x2_3 =>
  (some (a1 + 1)).bind fun x3_7 =>
  fX9_bitsAbove_8 av_big q x2_3 x3_7 μ

def fX1_afterStone (a1 : Int32) (a2 : Int32) (μ : Mem) : Option (Nat × Mem) :=
  (rdr 12 (a2 + 1)).bind fun r7 =>
  (rdr 12 a2).bind fun r15 =>
  (fX7_copyFrom r7 r15 μ).bind fun μ16 =>
  (fX7_lay r7 a1 1 μ16).bind fun μ22 =>
  (fX7_comeDown r7 μ22).bind fun μ26 =>
  some (r7, μ26)

def fX7_mayStart_32 (k2 : Nat → Int32 → Int32 → Int32 → Mem → Option (Int32)) (q : Nat) (x1 : Int32) (x2 : Int32) (x3 : Int32) (μ : Mem) : Option (Int32) :=
  (some (x3 + 1)).bind fun x3_32 =>
  k2 q x1 x2 x3_32 μ

def fX7_mayStart_2 : Nat → Nat → Int32 → Int32 → Int32 → Mem → Option (Int32)
  | 0 => fun _ _ _ _ _ => none
  | n + 1 => fun q x1 x2 x3 μ =>
    if (gF μ (av_rf q 0) 1) ≤ x3 then (
      some 0) else (
      (fX11_hasBit x1 x3 μ).bind fun r15 =>
      if r15 = 0 then (
        fX7_mayStart_32 (fX7_mayStart_2 n) q x1 x2 x3 μ) else (
        (fX7_bears q x3 x2 μ).bind fun r24 =>
        if r24 = 0 then (
          some 1) else (
          fX7_mayStart_32 (fX7_mayStart_2 n) q x1 x2 x3 μ)))

def fX7_mayStart (q : Nat) (a1 : Int32) (a2 : Int32) (μ : Mem) : Option (Int32) :=
  fX7_mayStart_2 av_big q a1 a2 0 μ

def fX1_fallsWithin_63 (self : Int32 → Int32 → Int32 → Int32 → Int32 → Mem → Option (Int32 × Mem)) (k24 : Int32 → Int32 → Int32 → Int32 → Int32 → Mem → Option (Int32 × Mem)) (x1 : Int32) (x2 : Int32) (x3 : Int32) (x4 : Int32) (x5 : Int32) (μ : Mem) : Option (Int32 × Mem) :=
  (some (x5 + 1)).bind fun x5_63 =>
  k24 x1 x2 x3 x4 x5_63 μ

def fX1_fallsWithin_24 (self : Int32 → Int32 → Int32 → Int32 → Int32 → Mem → Option (Int32 × Mem)) : Nat → Int32 → Int32 → Int32 → Int32 → Int32 → Mem → Option (Int32 × Mem)
  | 0 => fun _ _ _ _ _ _ => none
  | n + 1 => fun x1 x2 x3 x4 x5 μ =>
    if (gF μ 15 1) ≤ x5 then (
      some (0, μ)) else (
      (fX11_hasBit x2 x5 μ).bind fun r39 =>
      if r39 = 0 then (
        fX1_fallsWithin_63 self (fX1_fallsWithin_24 self n) x1 x2 x3 x4 x5 μ) else (
        av_b2 (self x5 x1 x2 (x3 - 1) x4 μ) fun r55 μ55 =>
        if r55 = 0 then (
          fX1_fallsWithin_63 self (fX1_fallsWithin_24 self n) x1 x2 x3 x4 x5 μ55) else (
          some (1, μ55))))

def fX1_fallsWithin_19 (self : Int32 → Int32 → Int32 → Int32 → Int32 → Mem → Option (Int32 × Mem)) (μ : Mem) : Option (Int32 × Mem) :=
  some (0, μ)

def fX1_fallsWithin (self : Int32 → Int32 → Int32 → Int32 → Int32 → Mem → Option (Int32 × Mem)) (a1 : Int32) (a2 : Int32) (a3 : Int32) (a4 : Int32) (μ : Mem) : Option (Int32 × Mem) :=
  if a3 ≤ 0 then (
    fX1_fallsWithin_19 self μ) else (
    (rdr 12 a4).bind fun r10 =>
    (fX7_mayStart r10 a2 a3 μ).bind fun r13 =>
    if r13 = 0 then (
      fX1_fallsWithin_19 self μ) else (
      fX1_fallsWithin_24 self av_big a1 a2 a3 a4 0 μ))

def fX1_fallsBy_47 (self : Int32 → Int32 → Int32 → Int32 → Int32 → Mem → Option (Int32 × Mem)) (μ : Mem) : Option (Int32 × Mem) :=
  some (1, μ)

def fX1_fallsBy_b (self : Int32 → Int32 → Int32 → Int32 → Int32 → Mem → Option (Int32 × Mem)) (a1 : Int32) (a2 : Int32) (a3 : Int32) (a4 : Int32) (a5 : Int32) (μ : Mem) : Option (Int32 × Mem) :=
  (fX1_isDeepest a5 μ).bind fun r3 =>
  if r3 = 0 then (
    av_b2 (fX1_afterStone a1 a5 μ) fun r15 μ15 =>
    (fX11_hasBit (gF μ15 r15 6) a2 μ15).bind fun r26 =>
    if r26 = 0 then (
      av_b2 (fX1_fallsWithin self a2 a3 a4 (a5 + 1) μ15) fun r41 μ41 =>
      if r41 = 0 then (
        some (0, μ41)) else (
        fX1_fallsBy_47 self μ41)) else (
      fX1_fallsBy_47 self μ15)) else (
    some (0, μ))

def fX1_fallsBy : Nat → Int32 → Int32 → Int32 → Int32 → Int32 → Mem → Option (Int32 × Mem)
  | 0 => fun _ _ _ _ _ _ => none
  | d + 1 => fX1_fallsBy_b (fX1_fallsBy d)

def fX1_fewestStones_24 (k16 : Int32 → Int32 → Int32 → Mem → Option (Int32 × Mem)) : Nat → Int32 → Int32 → Int32 → Int32 → Mem → Option (Int32 × Mem)
  | 0 => fun _ _ _ _ _ => none
  | n + 1 => fun x1 x2 x3 x4 μ =>
    if (gF μ 15 1) ≤ x4 then (
      (some (x3 + 1)).bind fun x3_65 =>
      k16 x1 x2 x3_65 μ) else (
      av_b2 (fX1_fallsBy 8 x4 x1 x2 (x3 - 1) 0 μ) fun r45 μ45 =>
      if r45 = 0 then (
        (some (x4 + 1)).bind fun x4_59 =>
        fX1_fewestStones_24 k16 n x1 x2 x3 x4_59 μ45) else (
        (some (sF μ45 11 5 x4)).bind fun μ54 =>
        some (x3, μ54)))

def fX1_fewestStones_16 : Nat → Int32 → Int32 → Int32 → Mem → Option (Int32 × Mem)
  | 0 => fun _ _ _ _ => none
  | n + 1 => fun x1 x2 x3 μ =>
    if (5 : Int32) < x3 then (
      (some (sF μ 11 5 (-1))).bind fun μ73 =>
      some ((-1), μ73)) else (
      fX1_fewestStones_24 (fX1_fewestStones_16 n) av_big x1 x2 x3 0 μ)

def fX1_fewestStones (a1 : Int32) (μ : Mem) : Option (Int32 × Mem) :=
  av_b2 (fX1_fresh μ) fun r1 μ1 =>
  (fX9_bitsAbove 15 a1 μ1).bind fun r10 =>
  fX1_fewestStones_16 av_big a1 r10 1 μ1

def fX1_buriedBy (a1 : Int32) (a2 : Int32) (μ : Mem) : Option (Int32 × Mem) :=
  av_b2 (fX1_fresh μ) fun r1 μ1 =>
  (fX7_lay r1 a1 a2 μ1).bind fun μ8 =>
  (fX7_comeDown r1 μ8).bind fun μ12 =>
  some (gF μ12 r1 7, μ12)

def fX7_snowOver_2 : Nat → Nat → Int32 → Int32 → Mem → Option (Mem)
  | 0 => fun _ _ _ _ => none
  | n + 1 => fun q x1 x2 μ =>
    if (gF μ (av_rf q 0) 1) ≤ x2 then (
      (fX7_comeDown q μ).bind fun μ30 =>
      some μ30) else (
      (rd μ (av_rf q 1) x2).bind fun r19 =>
      (wr μ (av_rf q 1) x2 (r19 + x1)).bind fun μ22 =>
      (some (x2 + 1)).bind fun x2_23 =>
      fX7_snowOver_2 n q x1 x2_23 μ22)

def fX7_snowOver (q : Nat) (a1 : Int32) (μ : Mem) : Option (Mem) :=
  fX7_snowOver_2 av_big q a1 0 μ

def fX1_nightsTill_8 : Nat → Int32 → Int32 → Nat → Int32 → Mem → Option (Int32 × Mem)
  | 0 => fun _ _ _ _ _ => none
  | n + 1 => fun x1 x2 x3 x4 μ =>
    if (60 : Int32) < x4 then (
      some ((-1), μ)) else (
      (fX7_snowOver x3 x2 μ).bind fun μ17 =>
      (fX11_hasBit (gF μ17 x3 6) x1 μ17).bind fun r25 =>
      if r25 = 0 then (
        (some (x4 + 1)).bind fun x4_34 =>
        fX1_nightsTill_8 n x1 x2 x3 x4_34 μ17) else (
        some (x4, μ17)))

def fX1_nightsTill (a1 : Int32) (a2 : Int32) (μ : Mem) : Option (Int32 × Mem) :=
  av_b2 (fX1_fresh μ) fun r1 μ1 =>
  fX1_nightsTill_8 av_big a1 a2 r1 1 μ1

def fX7_fellAhead_41 (μ : Mem) : Option (Int32) :=
  some 0

def fX7_fellAhead_37 (μ : Mem) : Option (Int32) :=
  some 1

def fX7_fellAhead (q : Nat) (a1 : Int32) (a2 : Int32) (μ : Mem) : Option (Int32) :=
  (fX11_hasBit (gF μ q 6) a1 μ).bind fun r5 =>
  if r5 = 0 then (
    fX7_fellAhead_41 μ) else (
    (fX11_hasBit (gF μ q 6) a2 μ).bind fun r16 =>
    if r16 = 0 then (
      fX7_fellAhead_37 μ) else (
      (rd μ (av_rf q 8) a1).bind fun r27 =>
      (rd μ (av_rf q 8) a2).bind fun r33 =>
      if r33 ≤ r27 then (
        fX7_fellAhead_41 μ) else (
        fX7_fellAhead_37 μ)))

def fX1_bestOutcome_142 (self : Int32 → Int32 → Int32 → Int32 → Int32 → Mem → Option (Int32 × Mem)) (x7 : Int32) (μ : Mem) : Option (Int32 × Mem) :=
  some (x7, μ)

def fX1_bestOutcome_134 (self : Int32 → Int32 → Int32 → Int32 → Int32 → Mem → Option (Int32 × Mem)) (k78 : Int32 → Int32 → Int32 → Int32 → Int32 → Int32 → Int32 → Int32 → Mem → Option (Int32 × Mem)) (x1 : Int32) (x2 : Int32) (x3 : Int32) (x4 : Int32) (x5 : Int32) (x6 : Int32) (x8 : Int32) (y0 : Int32) (μ : Mem) : Option (Int32 × Mem) :=
  (some (x8 + 1)).bind fun x8_136 =>
  k78 x1 x2 x3 x4 x5 x6 y0 x8_136 μ

def fX1_bestOutcome_78 (self : Int32 → Int32 → Int32 → Int32 → Int32 → Mem → Option (Int32 × Mem)) : Nat → Int32 → Int32 → Int32 → Int32 → Int32 → Int32 → Int32 → Int32 → Mem → Option (Int32 × Mem)
  | 0 => fun _ _ _ _ _ _ _ _ _ => none
  | n + 1 => fun x1 x2 x3 x4 x5 x6 x7 x8 μ =>
    if (gF μ 15 1) ≤ x8 then (
      fX1_bestOutcome_142 self x7 μ) else (
      if x7 = x6 then (
        fX1_bestOutcome_142 self x7 μ) else (
        av_b2 (self x8 x1 x2 (x3 - 1) x4 μ) fun r107 μ107 =>
        if x5 = 0 then (
          fX1_bestOutcome_134 self (fX1_bestOutcome_78 self n) x1 x2 x3 x4 x5 x6 x8 (av_min x7 r107) μ107) else (
          fX1_bestOutcome_134 self (fX1_bestOutcome_78 self n) x1 x2 x3 x4 x5 x6 x8 (av_max x7 r107) μ107)))

def fX1_bestOutcome_73 (self : Int32 → Int32 → Int32 → Int32 → Int32 → Mem → Option (Int32 × Mem)) (x1 : Int32) (x2 : Int32) (x3 : Int32) (x4 : Int32) (x5 : Int32) (x6 : Int32) (y0 : Int32) (μ : Mem) : Option (Int32 × Mem) :=
  fX1_bestOutcome_78 self av_big x1 x2 x3 x4 x5 x6 y0 0 μ

def fX1_bestOutcome_61 (self : Int32 → Int32 → Int32 → Int32 → Int32 → Mem → Option (Int32 × Mem)) (x1 : Int32) (x2 : Int32) (x3 : Int32) (x4 : Int32) (x5 : Int32) (y0 : Int32) (μ : Mem) : Option (Int32 × Mem) :=
  if x5 = 0 then (
    fX1_bestOutcome_73 self x1 x2 x3 x4 x5 y0 2 μ) else (
    fX1_bestOutcome_73 self x1 x2 x3 x4 x5 y0 0 μ)

def fX1_bestOutcome_49 (self : Int32 → Int32 → Int32 → Int32 → Int32 → Mem → Option (Int32 × Mem)) (x1 : Int32) (x2 : Int32) (x3 : Int32) (x4 : Int32) (y0 : Int32) (μ : Mem) : Option (Int32 × Mem) :=
  if y0 = 0 then (
    fX1_bestOutcome_61 self x1 x2 x3 x4 y0 0 μ) else (
    fX1_bestOutcome_61 self x1 x2 x3 x4 y0 2 μ)

def fX1_bestOutcome_35 (self : Int32 → Int32 → Int32 → Int32 → Int32 → Mem → Option (Int32 × Mem)) (μ : Mem) : Option (Int32 × Mem) :=
  some (1, μ)

def fX1_bestOutcome (self : Int32 → Int32 → Int32 → Int32 → Int32 → Mem → Option (Int32 × Mem)) (a1 : Int32) (a2 : Int32) (a3 : Int32) (a4 : Int32) (μ : Mem) : Option (Int32 × Mem) :=
  if a3 ≤ 0 then (
    fX1_bestOutcome_35 self μ) else (
    (rdr 12 a4).bind fun r10 =>
    (fX9_bitsAbove 15 a1 μ).bind fun r16 =>
    (fX9_bitsAbove 15 a2 μ).bind fun r24 =>
    (fX7_mayStart r10 (r16 ||| r24) a3 μ).bind fun r29 =>
    if r29 = 0 then (
      fX1_bestOutcome_35 self μ) else (
      if (a4 - a4 / 2 * 2) = 0 then (
        fX1_bestOutcome_49 self a1 a2 a3 a4 1 μ) else (
        fX1_bestOutcome_49 self a1 a2 a3 a4 0 μ)))

def fX1_outcomeOf_b (self : Int32 → Int32 → Int32 → Int32 → Int32 → Mem → Option (Int32 × Mem)) (a1 : Int32) (a2 : Int32) (a3 : Int32) (a4 : Int32) (a5 : Int32) (μ : Mem) : Option (Int32 × Mem) :=
  (fX1_isDeepest a5 μ).bind fun r3 =>
  if r3 = 0 then (
    av_b2 (fX1_afterStone a1 a5 μ) fun r15 μ15 =>
    (fX7_fellAhead r15 a2 a3 μ15).bind fun r24 =>
    if r24 = 0 then (
      (fX7_fellAhead r15 a3 a2 μ15).bind fun r36 =>
      if r36 = 0 then (
        av_b2 (fX1_bestOutcome self a2 a3 a4 (a5 + 1) μ15) fun r55 μ55 =>
        some (r55, μ55)) else (
        some (0, μ15))) else (
      some (2, μ15))) else (
    some (1, μ))

def fX1_outcomeOf : Nat → Int32 → Int32 → Int32 → Int32 → Int32 → Mem → Option (Int32 × Mem)
  | 0 => fun _ _ _ _ _ _ => none
  | d + 1 => fX1_outcomeOf_b (fX1_outcomeOf d)

def fX1_play_66 (x4 : Int32) (μ : Mem) : Option (Int32 × Mem) :=
  some (x4, μ)

def fX1_play_60 (k11 : Int32 → Int32 → Int32 → Int32 → Int32 → Mem → Option (Int32 × Mem)) (x1 : Int32) (x2 : Int32) (x3 : Int32) (x4 : Int32) (x5 : Int32) (μ : Mem) : Option (Int32 × Mem) :=
  (some (x5 + 1)).bind fun x5_60 =>
  k11 x1 x2 x3 x4 x5_60 μ

def fX1_play_11 : Nat → Int32 → Int32 → Int32 → Int32 → Int32 → Mem → Option (Int32 × Mem)
  | 0 => fun _ _ _ _ _ _ => none
  | n + 1 => fun x1 x2 x3 x4 x5 μ =>
    if (gF μ 15 1) ≤ x5 then (
      fX1_play_66 x4 μ) else (
      if (2 : Int32) ≤ x4 then (
        fX1_play_66 x4 μ) else (
        av_b2 (fX1_outcomeOf 8 x5 x1 x2 (x3 - 1) 0 μ) fun r38 μ38 =>
        if r38 ≤ x4 then (
          fX1_play_60 (fX1_play_11 n) x1 x2 x3 x4 x5 μ38) else (
          (some (sF μ38 11 5 x5)).bind fun μ57 =>
          fX1_play_60 (fX1_play_11 n) x1 x2 x3 r38 x5 μ57)))

def fX1_play (a1 : Int32) (a2 : Int32) (a3 : Int32) (μ : Mem) : Option (Int32 × Mem) :=
  av_b2 (fX1_fresh μ) fun r1 μ1 =>
  fX1_play_11 av_big a1 a2 a3 (-1) 0 μ1

def fX11_tenTo_4 : Nat → Int32 → Int64 → Int32 → Mem → Option (Int64)
  | 0 => fun _ _ _ _ => none
  | n + 1 => fun x0 x1 x3 μ =>
    if x0 ≤ x3 then (
      some x1) else (
      (some (x1 * 10)).bind fun x1_14 =>
      (some (x3 + 1)).bind fun x3_15 =>
      fX11_tenTo_4 n x0 x1_14 x3_15 μ)

def fX11_tenTo (a0 : Int32) (μ : Mem) : Option (Int64) :=
  fX11_tenTo_4 av_big a0 1 0 μ

def fX1_partsFrom_145 (self : Int32 → Int32 → Int32 → Int32 → Mem → Option (Int64 × Mem)) (x7 : Int64) (μ : Mem) : Option (Int64 × Mem) :=
  some (x7, μ)

def fX1_partsFrom_88 (self : Int32 → Int32 → Int32 → Int32 → Mem → Option (Int64 × Mem)) (x1 : Int32) (x2 : Int32) (x3 : Int32) (x4 : Int32) (x5 : Nat) (x7 : Int64) (μ : Mem) : Option (Int64 × Mem) :=
  if (10 : Int32) ≤ x3 then (
    fX1_partsFrom_145 self x7 μ) else (
    (rdr 12 (x4 + 1)).bind fun r102 =>
    (fX7_copyFrom r102 x5 μ).bind fun μ105 =>
    (rdr 12 (x4 + 1)).bind fun r116 =>
    (fX7_cast r116 x1 μ105).bind fun μ118 =>
    av_b2 (self (x1 + 1) x2 x3 (x4 + 1) μ118) fun r138 μ138 =>
    (some (x7 + ((Int32.toInt64 (10 - x3)) * r138))).bind fun x7_143 =>
    fX1_partsFrom_145 self x7_143 μ138)

def fX1_partsFrom_43 (self : Int32 → Int32 → Int32 → Int32 → Mem → Option (Int64 × Mem)) (x2 : Int32) (x5 : Nat) (x6 : Int32) (μ : Mem) : Option (Int64 × Mem) :=
  if (gF μ x5 4) = x2 then (
    (fX11_tenTo x6 μ).bind fun r54 =>
    some (r54, μ)) else (
    some (0, μ))

def fX1_partsFrom_b (self : Int32 → Int32 → Int32 → Int32 → Mem → Option (Int64 × Mem)) (a1 : Int32) (a2 : Int32) (a3 : Int32) (a4 : Int32) (μ : Mem) : Option (Int64 × Mem) :=
  (rdr 12 a4).bind fun r6 =>
  (some ((gF μ 15 4) - a1)).bind fun x6_18 =>
  if (gF μ r6 4) = (-1) then (
    if x6_18 ≤ 0 then (
      fX1_partsFrom_43 self a2 r6 x6_18 μ) else (
      (fX1_isDeepest a4 μ).bind fun r37 =>
      if r37 = 0 then (
        if a3 ≤ 0 then (
          fX1_partsFrom_88 self a1 a2 a3 a4 r6 0 μ) else (
          av_b2 (self (a1 + 1) a2 a3 a4 μ) fun r81 μ81 =>
          (some (0 + ((Int32.toInt64 a3) * r81))).bind fun x7_86 =>
          fX1_partsFrom_88 self a1 a2 a3 a4 r6 x7_86 μ81)) else (
        fX1_partsFrom_43 self a2 r6 x6_18 μ))) else (
    fX1_partsFrom_43 self a2 r6 x6_18 μ)

def fX1_partsFrom : Nat → Int32 → Int32 → Int32 → Int32 → Mem → Option (Int64 × Mem)
  | 0 => fun _ _ _ _ _ => none
  | d + 1 => fX1_partsFrom_b (fX1_partsFrom d)

def fX1_partsWon (a1 : Int32) (a2 : Int32) (μ : Mem) : Option (Int64 × Mem) :=
  av_b2 (fX1_fresh μ) fun r1 μ1 =>
  av_b2 (fX1_partsFrom 8 0 a1 a2 0 μ1) fun r10 μ10 =>
  some (r10, μ10)

def fX7_loadOfAll_4 : Nat → Nat → Int32 → Int32 → Mem → Option (Int32)
  | 0 => fun _ _ _ _ => none
  | n + 1 => fun q x1 x2 μ =>
    if (gF μ (av_rf q 0) 1) ≤ x2 then (
      some x1) else (
      (fX7_loadOf q x2 μ).bind fun r18 =>
      (some (x1 + r18)).bind fun x1_22 =>
      (some (x2 + 1)).bind fun x2_23 =>
      fX7_loadOfAll_4 n q x1_22 x2_23 μ)

def fX7_loadOfAll (q : Nat) (μ : Mem) : Option (Int32) :=
  fX7_loadOfAll_4 av_big q 0 0 μ

def fX1_loadAfter_70 (x3 : Nat) (μ : Mem) : Option (Int32 × Mem) :=
  (fX7_loadOfAll x3 μ).bind fun r71 =>
  some (r71, μ)

def fX1_loadAfter_12 : Nat → Int32 → Nat → Int64 → Int32 → Mem → Option (Int32 × Mem)
  | 0 => fun _ _ _ _ _ => none
  | n + 1 => fun x2 x3 x4 x6 μ =>
    if x2 ≤ x6 then (
      fX1_loadAfter_70 x3 μ) else (
      if (gF μ 15 4) ≤ 0 then (
        fX1_loadAfter_70 x3 μ) else (
        (some (((x4 * 1103515245) + 12345) - ((x4 * 1103515245) + 12345) / 2147483648 * 2147483648)).bind fun x4_42 =>
        if (Int32.toInt64 (gF μ 15 4)) = 0 then none else (
        (fX7_cast x3 (Int64.toInt32 ((x4_42 / 65536) - (x4_42 / 65536) / (Int32.toInt64 (gF μ 15 4)) * (Int32.toInt64 (gF μ 15 4)))) μ).bind fun μ61 =>
        (some (x6 + 1)).bind fun x6_64 =>
        fX1_loadAfter_12 n x2 x3 x4_42 x6_64 μ61)))

def fX1_loadAfter (a1 : Int32) (a2 : Int32) (μ : Mem) : Option (Int32 × Mem) :=
  av_b2 (fX1_fresh μ) fun r1 μ1 =>
  (some (Int32.toInt64 a1)).bind fun x4_7 =>
  fX1_loadAfter_12 av_big a2 r1 x4_7 0 μ1

def fX5_append (a1 : Int32) (μ : Mem) : Option (Mem) :=
  if (gF μ 9 1) < 0 then (
    some μ) else (
    if (gF μ 9 1) < 150 then (
      (wrb μ 10 (gF μ 9 1) ((Int32.toInt8 a1).toInt32)).bind fun μ28 =>
      (some (sF μ28 9 1 ((gF μ28 9 1) + 1))).bind fun μ36 =>
      some μ36) else (
      some μ))

def fJ7_fill_53178_5 : Nat → Nat → Int32 → Int32 → Int32 → Mem → Option (Mem)
  | 0 => fun _ _ _ _ _ => none
  | n + 1 => fun x0 x1 x2 x3 μ =>
    if x3 ≤ x2 then (
      some μ) else (
      (wr μ x0 x2 x1).bind fun μ13 =>
      (some (x2 + 1)).bind fun x2_14 =>
      fJ7_fill_53178_5 n x0 x1 x2_14 x3 μ13)

def fJ7_fill_53178 (a0 : Nat) (a1 : Int32) (μ : Mem) : Option (Mem) :=
  (some (nI (av_ln a0))).bind fun x3_4 =>
  fJ7_fill_53178_5 av_big a0 a1 0 x3_4 μ

def fX7_startAnew (q : Nat) (μ : Mem) : Option (Mem) :=
  (fJ7_fill_53178 (av_rf q 1) 0 μ).bind fun μ5 =>
  (fJ7_fill_53178 (av_rf q 2) 0 μ5).bind fun μ13 =>
  (some (sF μ13 q 3 0)).bind fun μ18 =>
  (some (sF μ18 q 4 (-1))).bind fun μ23 =>
  (some (sF μ23 q 5 0)).bind fun μ28 =>
  some μ28

def fX8_startAnew (q : Nat) (μ : Mem) : Option (Mem) :=
  (some (sF μ (av_rf q 0) 1 0)).bind fun μ5 =>
  (some (sF μ5 (av_rf q 0) 4 0)).bind fun μ13 =>
  (fX7_startAnew (av_rf q 1) μ13).bind fun μ20 =>
  (some (sF μ20 q 3 0)).bind fun μ25 =>
  (some (sF μ25 q 6 0)).bind fun μ30 =>
  some μ30

def fX5_isBetween_47 (μ : Mem) : Option (Int32) :=
  some 0

def fX5_isBetween (a1 : Int32) (a2 : Int32) (μ : Mem) : Option (Int32) :=
  if (gF μ 9 2) < 0 then (
    fX5_isBetween_47 μ) else (
    if (150 : Int32) ≤ (gF μ 9 2) then (
      fX5_isBetween_47 μ) else (
      (rd μ 10 (gF μ 9 2)).bind fun r25 =>
      if r25 < a1 then (
        fX5_isBetween_47 μ) else (
        (rd μ 10 (gF μ 9 2)).bind fun r38 =>
        if a2 < r38 then (
          fX5_isBetween_47 μ) else (
          some 1))))

def fX5_skipBlanks_0 : Nat → Mem → Option (Mem)
  | 0 => fun _ => none
  | n + 1 => fun μ =>
    if (gF μ 9 1) ≤ (gF μ 9 2) then (
      some μ) else (
      (fX5_isBetween 32 32 μ).bind fun r16 =>
      if r16 = 0 then (
        some μ) else (
        (some (sF μ 9 2 ((gF μ 9 2) + 1))).bind fun μ29 =>
        fX5_skipBlanks_0 n  μ29))

def fX5_skipBlanks (μ : Mem) : Option (Mem) :=
  fX5_skipBlanks_0 av_big μ

def fX5_takeWord_12 : Nat → Mem → Option (Mem)
  | 0 => fun _ => none
  | n + 1 => fun μ =>
    if (gF μ 9 1) ≤ (gF μ 9 2) then (
      some μ) else (
      (fX5_isBetween 97 122 μ).bind fun r28 =>
      if r28 = 0 then (
        some μ) else (
        (some (sF μ 9 2 ((gF μ 9 2) + 1))).bind fun μ41 =>
        fX5_takeWord_12 n  μ41))

def fX5_takeWord (μ : Mem) : Option (Mem) :=
  (fX5_skipBlanks μ).bind fun μ1 =>
  (some (sF μ1 9 3 (gF μ1 9 2))).bind fun μ9 =>
  fX5_takeWord_12 av_big μ9

def fX5_wordIs_20 : Nat → Nat → Int32 → Mem → Option (Int32)
  | 0 => fun _ _ _ => none
  | n + 1 => fun x1 x2 μ =>
    (av_sl x1).bind fun r22 =>
    if r22 ≤ x2 then (
      some 1) else (
      (rd μ 10 ((gF μ 9 3) + x2)).bind fun r38 =>
      (av_sc x1 x2).bind fun r41 =>
      if r38 = r41 then (
        (some (x2 + 1)).bind fun x2_49 =>
        fX5_wordIs_20 n x1 x2_49 μ) else (
        some 0))

def fX5_wordIs (a1 : Nat) (μ : Mem) : Option (Int32) :=
  (av_sl a1).bind fun r10 =>
  if ((gF μ 9 2) - (gF μ 9 3)) = r10 then (
    fX5_wordIs_20 av_big a1 0 μ) else (
    some 0)

def fX5_takeNumber_134 (x3 : Int32) (μ : Mem) : Option (Int32 × Mem) :=
  some (x3, μ)

def fX5_takeNumber_126 (x3 : Int32) (μ : Mem) : Option (Int32 × Mem) :=
  (some (sF μ 9 4 (gF μ 9 3))).bind fun μ131 =>
  fX5_takeNumber_134 x3 μ131

def fX5_takeNumber_94 (x1 : Int32) (x2 : Int32) (x3 : Int32) (μ : Mem) : Option (Int32 × Mem) :=
  (some ((gF μ 9 2) - (gF μ 9 3))).bind fun x4_103 =>
  if x4_103 < 1 then (
    fX5_takeNumber_126 x3 μ) else (
    if (2 : Int32) < x4_103 then (
      fX5_takeNumber_126 x3 μ) else (
      (fX11_within x3 x1 x2 μ).bind fun r120 =>
      if r120 = 0 then (
        fX5_takeNumber_126 x3 μ) else (
        fX5_takeNumber_134 x3 μ)))

def fX5_takeNumber_80 (k24 : Int32 → Int32 → Int32 → Mem → Option (Int32 × Mem)) (x1 : Int32) (x2 : Int32) (y0 : Int32) (μ : Mem) : Option (Int32 × Mem) :=
  (some (sF μ 9 2 ((gF μ 9 2) + 1))).bind fun μ88 =>
  k24 x1 x2 y0 μ88

def fX5_takeNumber_24 : Nat → Int32 → Int32 → Int32 → Mem → Option (Int32 × Mem)
  | 0 => fun _ _ _ _ => none
  | n + 1 => fun x1 x2 x3 μ =>
    if (gF μ 9 1) ≤ (gF μ 9 2) then (
      fX5_takeNumber_94 x1 x2 x3 μ) else (
      (fX5_isBetween 48 57 μ).bind fun r40 =>
      if r40 = 0 then (
        fX5_takeNumber_94 x1 x2 x3 μ) else (
        if (2 : Int32) ≤ (gF μ 9 2) - (gF μ 9 3) then (
          fX5_takeNumber_80 (fX5_takeNumber_24 n) x1 x2 x3 μ) else (
          (rd μ 10 (gF μ 9 2)).bind fun r71 =>
          fX5_takeNumber_80 (fX5_takeNumber_24 n) x1 x2 (((10 * x3) + r71) - 48) μ)))

def fX5_takeNumber (a1 : Int32) (a2 : Int32) (μ : Mem) : Option (Int32 × Mem) :=
  if (gF μ 9 4) = (-1) then (
    (fX5_skipBlanks μ).bind fun μ11 =>
    (some (sF μ11 9 3 (gF μ11 9 2))).bind fun μ19 =>
    fX5_takeNumber_24 av_big a1 a2 0 μ19) else (
    some (0, μ))

def fX8_addLedge_21 (μ : Mem) : Option (Int32 × Mem) :=
  some ((-4), μ)

def fX8_addLedge (q : Nat) (a1 : Int32) (a2 : Int32) (a3 : Int32) (μ : Mem) : Option (Int32 × Mem) :=
  (some (gF μ (av_rf q 0) 1)).bind fun x4_7 =>
  if x4_7 < 0 then (
    fX8_addLedge_21 μ) else (
    if x4_7 < 8 then (
      (wr μ (av_rf (av_rf q 0) 2) x4_7 a1).bind fun μ34 =>
      (wr μ34 (av_rf (av_rf q 0) 3) x4_7 a3).bind fun μ45 =>
      (wr μ45 (av_rf (av_rf q 1) 1) x4_7 a2).bind fun μ56 =>
      (wr μ56 (av_rf (av_rf q 1) 2) x4_7 0).bind fun μ67 =>
      (some (sF μ67 (av_rf q 0) 1 (x4_7 + 1))).bind fun μ76 =>
      (some (sF μ76 q 3 0)).bind fun μ81 =>
      some (x4_7, μ81)) else (
      fX8_addLedge_21 μ))

def fX5_readLedge_60 (x1 : Nat) (x3 : Int32) (x4 : Int32) (y0 : Int32) (μ : Mem) : Option (Mem) :=
  if (gF μ 9 4) = (-1) then (
    av_b2 (fX8_addLedge x1 x3 x4 y0 μ) fun r76 μ76 =>
    some μ76) else (
    some μ)

def fX5_readLedge (a1 : Nat) (a2 : Int32) (μ : Mem) : Option (Mem) :=
  if (gF μ (av_rf a1 0) 1) < 8 then (
    av_b2 (fX5_takeNumber 1 60 μ) fun r25 μ25 =>
    av_b2 (fX5_takeNumber 0 30 μ25) fun r33 μ33 =>
    if a2 = 0 then (
      fX5_readLedge_60 a1 r25 r33 (-1) μ33) else (
      av_b2 (fX5_takeNumber 0 ((gF μ33 (av_rf a1 0) 1) - 1) μ33) fun r53 μ53 =>
      fX5_readLedge_60 a1 r25 r33 r53 μ53)) else (
    (some (sF μ 9 4 (gF μ 9 3))).bind fun μ17 =>
    some μ17)

def fX8_addVoter_21 (μ : Mem) : Option (Int32 × Mem) :=
  some ((-4), μ)

def fX8_addVoter (q : Nat) (a1 : Int32) (a2 : Int32) (a3 : Int32) (μ : Mem) : Option (Int32 × Mem) :=
  (some (gF μ (av_rf q 0) 4)).bind fun x4_7 =>
  if x4_7 < 0 then (
    fX8_addVoter_21 μ) else (
    if x4_7 < 6 then (
      (wr μ (av_rf (av_rf q 0) 5) x4_7 a1).bind fun μ34 =>
      (wr μ34 (av_rf (av_rf q 0) 6) x4_7 a2).bind fun μ45 =>
      (wr μ45 (av_rf (av_rf q 0) 7) x4_7 a3).bind fun μ56 =>
      (some (sF μ56 (av_rf q 0) 4 (x4_7 + 1))).bind fun μ65 =>
      (some (sF μ65 q 3 0)).bind fun μ70 =>
      some (x4_7, μ70)) else (
      fX8_addVoter_21 μ))

def fX5_readVoter (a1 : Nat) (μ : Mem) : Option (Mem) :=
  if (gF μ (av_rf a1 0) 4) < 6 then (
    av_b2 (fX5_takeNumber 0 5 μ) fun r24 μ24 =>
    av_b2 (fX5_takeNumber 0 ((gF μ24 (av_rf a1 0) 1) - 1) μ24) fun r39 μ39 =>
    av_b2 (fX5_takeNumber 1 9 μ39) fun r47 μ47 =>
    if (gF μ47 9 4) = (-1) then (
      av_b2 (fX8_addVoter a1 r24 r39 r47 μ47) fun r65 μ65 =>
      some μ65) else (
      some μ47)) else (
    (some (sF μ 9 4 (gF μ 9 3))).bind fun μ17 =>
    some μ17)

def fX5_takeEnd_48 (μ : Mem) : Option (Mem) :=
  (some (sF μ 9 4 (gF μ 9 2))).bind fun μ53 =>
  some μ53

def fX5_takeEnd (μ : Mem) : Option (Mem) :=
  if (gF μ 9 4) = (-1) then (
    (fX5_skipBlanks μ).bind fun μ10 =>
    if (gF μ10 9 1) ≤ (gF μ10 9 2) then (
      fX5_takeEnd_48 μ10) else (
      (fX5_isBetween 59 59 μ10).bind fun r29 =>
      if r29 = 0 then (
        fX5_takeEnd_48 μ10) else (
        (some (sF μ10 9 2 ((gF μ10 9 2) + 1))).bind fun μ42 =>
        some μ42))) else (
    some μ)

def fX5_readItem_90 (μ : Mem) : Option (Mem) :=
  (fX5_takeEnd μ).bind fun μ91 =>
  some μ91

def fX5_readItem (a1 : Nat) (a2 : Int32) (μ : Mem) : Option (Mem) :=
  (fX5_takeWord μ).bind fun μ1 =>
  (fX5_wordIs 0 μ1).bind fun r7 =>
  if r7 = a2 then (
    (fX5_wordIs 1 μ1).bind fun r28 =>
    if r28 = 0 then (
      (fX5_wordIs 2 μ1).bind fun r46 =>
      if r46 = 0 then (
        (fX5_wordIs 3 μ1).bind fun r64 =>
        if r64 = 0 then (
          if a2 = 0 then (
            (some (sF μ1 9 4 (gF μ1 9 3))).bind fun μ87 =>
            fX5_readItem_90 μ87) else (
            fX5_readItem_90 μ1)) else (
          (fX5_readVoter a1 μ1).bind fun μ72 =>
          fX5_readItem_90 μ72)) else (
        (fX5_readLedge a1 1 μ1).bind fun μ55 =>
        fX5_readItem_90 μ55)) else (
      (fX5_readLedge a1 0 μ1).bind fun μ37 =>
      fX5_readItem_90 μ37)) else (
    (some (sF μ1 9 4 (gF μ1 9 3))).bind fun μ19 =>
    fX5_readItem_90 μ19)

def fX5_readInto_76 (x2 : Int32) (μ : Mem) : Option (Int32 × Mem) :=
  some (x2, μ)

def fX5_readInto_60 (k18 : Nat → Int32 → Int32 → Mem → Option (Int32 × Mem)) (x1 : Nat) (x2 : Int32) (x3 : Int32) (y1 : Nat) (y2 : Int32) (μ : Mem) : Option (Int32 × Mem) :=
  (fX5_readItem y1 y2 μ).bind fun μ60 =>
  (some (x2 + 1)).bind fun x2_63 =>
  (fX5_skipBlanks μ60).bind fun μ67 =>
  (some (x3 + 1)).bind fun x3_70 =>
  k18 x1 x2_63 x3_70 μ67

def fX5_readInto_49 (k18 : Nat → Int32 → Int32 → Mem → Option (Int32 × Mem)) (x1 : Nat) (x2 : Int32) (x3 : Int32) (μ : Mem) : Option (Int32 × Mem) :=
  if x3 = 0 then (
    fX5_readInto_60 k18 x1 x2 x3 x1 1 μ) else (
    fX5_readInto_60 k18 x1 x2 x3 x1 0 μ)

def fX5_readInto_18 : Nat → Nat → Int32 → Int32 → Mem → Option (Int32 × Mem)
  | 0 => fun _ _ _ _ => none
  | n + 1 => fun x1 x2 x3 μ =>
    if (gF μ 9 1) < x3 then (
      fX5_readInto_76 x2 μ) else (
      if (gF μ 9 4) = (-1) then (
        if x3 = 0 then (
          fX5_readInto_49 (fX5_readInto_18 n) x1 x2 x3 μ) else (
          if (gF μ 9 1) ≤ (gF μ 9 2) then (
            fX5_readInto_76 x2 μ) else (
            fX5_readInto_49 (fX5_readInto_18 n) x1 x2 x3 μ))) else (
        fX5_readInto_76 x2 μ))

def fX5_readInto (a1 : Nat) (μ : Mem) : Option (Int32 × Mem) :=
  (fX8_startAnew a1 μ).bind fun μ1 =>
  (some (sF μ1 9 2 0)).bind fun μ6 =>
  (some (sF μ6 9 4 (-1))).bind fun μ11 =>
  fX5_readInto_18 av_big a1 0 0 μ11

def fX7_saveTo (q : Nat) (a1 : Nat) (a2 : Int32) (μ : Mem) : Option (Mem) :=
  if a2 < 0 then (
    some μ) else (
    if (a2 + 19) ≤ (nI (av_ln a1)) then (
      (cpy μ (av_rf q 1) 0 a1 a2 8).bind fun μ23 =>
      (cpy μ23 (av_rf q 2) 0 a1 (a2 + 8) 8).bind fun μ38 =>
      (wr μ38 a1 (a2 + 16) (gF μ38 q 3)).bind fun μ50 =>
      (wr μ50 a1 ((a2 + 16) + 1) (gF μ50 q 4)).bind fun μ62 =>
      (wr μ62 a1 ((a2 + 16) + 2) (gF μ62 q 5)).bind fun μ74 =>
      some μ74) else (
      some μ))

def fX7_loadFrom (q : Nat) (a1 : Nat) (a2 : Int32) (μ : Mem) : Option (Mem) :=
  if a2 < 0 then (
    some μ) else (
    if (a2 + 19) ≤ (nI (av_ln a1)) then (
      (cpy μ a1 a2 (av_rf q 1) 0 8).bind fun μ23 =>
      (cpy μ23 a1 (a2 + 8) (av_rf q 2) 0 8).bind fun μ38 =>
      (rd μ38 a1 (a2 + 16)).bind fun r47 =>
      (some (sF μ38 q 3 r47)).bind fun μ48 =>
      (rd μ48 a1 ((a2 + 16) + 1)).bind fun r59 =>
      (some (sF μ48 q 4 r59)).bind fun μ60 =>
      (rd μ60 a1 ((a2 + 16) + 2)).bind fun r71 =>
      (some (sF μ60 q 5 r71)).bind fun μ72 =>
      some μ72) else (
      some μ))

def fX9_copyFrom (q : Nat) (a1 : Nat) (μ : Mem) : Option (Mem) :=
  (some (sF μ q 1 (gF μ a1 1))).bind fun μ5 =>
  (cpy μ5 (av_rf a1 2) 0 (av_rf q 2) 0 8).bind fun μ20 =>
  (cpy μ20 (av_rf a1 3) 0 (av_rf q 3) 0 8).bind fun μ35 =>
  (some (sF μ35 q 4 (gF μ35 a1 4))).bind fun μ43 =>
  (cpy μ43 (av_rf a1 5) 0 (av_rf q 5) 0 6).bind fun μ58 =>
  (cpy μ58 (av_rf a1 6) 0 (av_rf q 6) 0 6).bind fun μ73 =>
  (cpy μ73 (av_rf a1 7) 0 (av_rf q 7) 0 6).bind fun μ88 =>
  some μ88

def fX8_copyFrom (q : Nat) (a1 : Nat) (μ : Mem) : Option (Mem) :=
  (fX9_copyFrom (av_rf q 0) (av_rf a1 0) μ).bind fun μ8 =>
  (fX7_copyFrom (av_rf q 1) (av_rf a1 1) μ8).bind fun μ19 =>
  (cpy μ19 (av_rf a1 2) 0 (av_rf q 2) 0 152).bind fun μ35 =>
  (some (sF μ35 q 3 (gF μ35 a1 3))).bind fun μ43 =>
  (cpy μ43 (av_rf a1 4) 0 (av_rf q 4) 0 6).bind fun μ58 =>
  (cpy μ58 (av_rf a1 5) 0 (av_rf q 5) 0 6).bind fun μ73 =>
  (some (sF μ73 q 6 (gF μ73 a1 6))).bind fun μ81 =>
  some μ81

def fX8_addSeen_16 (μ : Mem) : Option (Int32 × Mem) :=
  some ((-4), μ)

def fX8_addSeen (q : Nat) (a1 : Int32) (a2 : Int32) (μ : Mem) : Option (Int32 × Mem) :=
  if (gF μ q 6) < 0 then (
    fX8_addSeen_16 μ) else (
    if (gF μ q 6) < 6 then (
      (wr μ (av_rf q 4) (gF μ q 6) a1).bind fun μ28 =>
      (wr μ28 (av_rf q 5) (gF μ28 q 6) a2).bind fun μ38 =>
      (some (sF μ38 q 6 ((gF μ38 q 6) + 1))).bind fun μ46 =>
      some (gF μ46 q 6, μ46)) else (
      fX8_addSeen_16 μ))

def fX8_keepPast_32 (q : Nat) (μ : Mem) : Option (Mem) :=
  (fX7_saveTo (av_rf q 1) (av_rf q 2) ((gF μ q 3) * 19) μ).bind fun μ47 =>
  (some (sF μ47 q 3 ((gF μ47 q 3) + 1))).bind fun μ57 =>
  some μ57

def fX8_keepPast (q : Nat) (μ : Mem) : Option (Mem) :=
  if (gF μ q 3) < 8 then (
    fX8_keepPast_32 q μ) else (
    (cpy μ (av_rf q 2) 19 (av_rf q 2) 0 133).bind fun μ23 =>
    (some (sF μ23 q 3 7)).bind fun μ29 =>
    fX8_keepPast_32 q μ29)

def fX8_goBack (q : Nat) (μ : Mem) : Option (Mem) :=
  if (gF μ q 3) ≤ 0 then (
    some μ) else (
    (some (sF μ q 3 ((gF μ q 3) - 1))).bind fun μ14 =>
    (fX7_loadFrom (av_rf q 1) (av_rf q 2) ((gF μ14 q 3) * 19) μ14).bind fun μ32 =>
    some μ32)

def fX8_leastHold_33 (k4 : Nat → Int32 → Int32 → Mem → Option (Int32)) (q : Nat) (x1 : Int32) (x2 : Int32) (μ : Mem) : Option (Int32) :=
  (some (x2 + 1)).bind fun x2_33 =>
  k4 q x1 x2_33 μ

def fX8_leastHold_4 : Nat → Nat → Int32 → Int32 → Mem → Option (Int32)
  | 0 => fun _ _ _ _ => none
  | n + 1 => fun q x1 x2 μ =>
    if (gF μ q 6) ≤ x2 then (
      some x1) else (
      (rd μ (av_rf q 5) x2).bind fun r17 =>
      if r17 = 1 then (
        (rd μ (av_rf q 4) x2).bind fun r28 =>
        (some (av_max x1 r28)).bind fun x1_32 =>
        fX8_leastHold_33 (fX8_leastHold_4 n) q x1_32 x2 μ) else (
        fX8_leastHold_33 (fX8_leastHold_4 n) q x1 x2 μ))

def fX8_leastHold (q : Nat) (μ : Mem) : Option (Int32) :=
  fX8_leastHold_4 av_big q 1 0 μ

def fX8_greatestHold_35 (k5 : Nat → Int32 → Int32 → Mem → Option (Int32)) (q : Nat) (x1 : Int32) (x2 : Int32) (μ : Mem) : Option (Int32) :=
  (some (x2 + 1)).bind fun x2_35 =>
  k5 q x1 x2_35 μ

def fX8_greatestHold_5 : Nat → Nat → Int32 → Int32 → Mem → Option (Int32)
  | 0 => fun _ _ _ _ => none
  | n + 1 => fun q x1 x2 μ =>
    if (gF μ q 6) ≤ x2 then (
      some x1) else (
      (rd μ (av_rf q 5) x2).bind fun r18 =>
      if r18 = 0 then (
        (rd μ (av_rf q 4) x2).bind fun r28 =>
        (some (av_min x1 (r28 - 1))).bind fun x1_34 =>
        fX8_greatestHold_35 (fX8_greatestHold_5 n) q x1_34 x2 μ) else (
        fX8_greatestHold_35 (fX8_greatestHold_5 n) q x1 x2 μ))

def fX8_greatestHold (q : Nat) (μ : Mem) : Option (Int32) :=
  fX8_greatestHold_5 av_big q 60 0 μ

def fX8_digestFrom_201 : Nat → Nat → Int64 → Int32 → Mem → Option (Int64)
  | 0 => fun _ _ _ _ => none
  | n + 1 => fun q x3 x5 μ =>
    if (gF μ q 6) ≤ x5 then (
      some x3) else (
      (rd μ (av_rf q 4) x5).bind fun r221 =>
      (some ((31 * x3) + (Int32.toInt64 r221))).bind fun x3_224 =>
      (rd μ (av_rf q 5) x5).bind fun r236 =>
      (some ((31 * x3_224) + (Int32.toInt64 r236))).bind fun x3_239 =>
      (some (x5 + 1)).bind fun x5_240 =>
      fX8_digestFrom_201 n q x3_239 x5_240 μ)

def fX8_digestFrom_126 : Nat → Nat → Int64 → Int32 → Mem → Option (Int64)
  | 0 => fun _ _ _ _ => none
  | n + 1 => fun q x3 x5 μ =>
    if (gF μ (av_rf q 0) 4) ≤ x5 then (
      fX8_digestFrom_201 av_big q x3 0 μ) else (
      (rd μ (av_rf (av_rf q 0) 5) x5).bind fun r152 =>
      (some ((31 * x3) + (Int32.toInt64 r152))).bind fun x3_155 =>
      (rd μ (av_rf (av_rf q 0) 6) x5).bind fun r170 =>
      (some ((31 * x3_155) + (Int32.toInt64 r170))).bind fun x3_173 =>
      (rd μ (av_rf (av_rf q 0) 7) x5).bind fun r188 =>
      (some ((31 * x3_173) + (Int32.toInt64 r188))).bind fun x3_191 =>
      (some (x5 + 1)).bind fun x5_192 =>
      fX8_digestFrom_126 n q x3_191 x5_192 μ)

def fX8_digestFrom_33 : Nat → Nat → Int64 → Int32 → Mem → Option (Int64)
  | 0 => fun _ _ _ _ => none
  | n + 1 => fun q x3 x5 μ =>
    if (gF μ (av_rf q 0) 1) ≤ x5 then (
      fX8_digestFrom_126 av_big q x3 0 μ) else (
      (rd μ (av_rf (av_rf q 0) 2) x5).bind fun r59 =>
      (some ((31 * x3) + (Int32.toInt64 r59))).bind fun x3_62 =>
      (rd μ (av_rf (av_rf q 1) 1) x5).bind fun r77 =>
      (some ((31 * x3_62) + (Int32.toInt64 r77))).bind fun x3_80 =>
      (rd μ (av_rf (av_rf q 1) 2) x5).bind fun r95 =>
      (some ((31 * x3_80) + (Int32.toInt64 r95))).bind fun x3_98 =>
      (rd μ (av_rf (av_rf q 0) 3) x5).bind fun r113 =>
      (some ((31 * x3_98) + (Int32.toInt64 r113))).bind fun x3_116 =>
      (some (x5 + 1)).bind fun x5_117 =>
      fX8_digestFrom_33 n q x3_116 x5_117 μ)

def fX8_digestFrom (q : Nat) (a1 : Int64) (μ : Mem) : Option (Int64) :=
  (some ((31 * a1) + (Int32.toInt64 (gF μ (av_rf q 1) 4)))).bind fun x3_14 =>
  (some ((31 * x3_14) + (Int32.toInt64 (gF μ (av_rf q 1) 5)))).bind fun x3_29 =>
  fX8_digestFrom_33 av_big q x3_29 0 μ

def fX11_mountain (μ : Mem) : Option (Int32 × Mem) :=
  (some (gF μ 15 1)).bind fun x1_10 =>
  (fX8_startAnew 14 μ).bind fun μ15 =>
  some (x1_10, μ15)

def fX11_bad (a1 : Int32) (μ : Mem) : Option (Int32 × Mem) :=
  (some (sF μ 0 8 ((gF μ 0 8) + 1))).bind fun μ7 =>
  some (a1, μ7)

def fX11_full (μ : Mem) : Option (Int32 × Mem) :=
  (some (sF μ 0 10 ((gF μ 0 10) + 1))).bind fun μ7 =>
  some ((-4), μ7)

def fX11_ledge_40 (μ : Mem) : Option (Int32 × Mem) :=
  av_b2 (fX11_bad (-2) μ) fun r43 μ43 =>
  some (r43, μ43)

def fX11_ledge (a1 : Int32) (a2 : Int32) (a3 : Int32) (μ : Mem) : Option (Int32 × Mem) :=
  (fX11_within a1 1 60 μ).bind fun r4 =>
  if r4 = 0 then (
    fX11_ledge_40 μ) else (
    (fX11_within a2 0 30 μ).bind fun r14 =>
    if r14 = 0 then (
      fX11_ledge_40 μ) else (
      (fX11_within a3 (-1) ((gF μ 15 1) - 1) μ).bind fun r34 =>
      if r34 = 0 then (
        fX11_ledge_40 μ) else (
        if (gF μ 15 1) < 8 then (
          av_b2 (fX8_addLedge 14 a1 a2 a3 μ) fun r74 μ74 =>
          some (r74, μ74)) else (
          av_b2 (fX11_full μ) fun r63 μ63 =>
          some (r63, μ63)))))

def fX11_isLedge (a1 : Int32) (μ : Mem) : Option (Int32) :=
  (fX11_within a1 0 ((gF μ 15 1) - 1) μ).bind fun r14 =>
  (av_z r14).bind fun z17 =>
  some z17

def fX11_voter_27 (μ : Mem) : Option (Int32 × Mem) :=
  av_b2 (fX11_bad (-2) μ) fun r30 μ30 =>
  some (r30, μ30)

def fX11_voter (a1 : Int32) (a2 : Int32) (a3 : Int32) (μ : Mem) : Option (Int32 × Mem) :=
  (fX11_within a1 0 5 μ).bind fun r3 =>
  if r3 = 0 then (
    fX11_voter_27 μ) else (
    (fX11_isLedge a2 μ).bind fun r11 =>
    if r11 = 0 then (
      fX11_voter_27 μ) else (
      (fX11_within a3 1 9 μ).bind fun r21 =>
      if r21 = 0 then (
        fX11_voter_27 μ) else (
        if (gF μ 15 4) < 6 then (
          av_b2 (fX8_addVoter 14 a1 a2 a3 μ) fun r61 μ61 =>
          some (r61, μ61)) else (
          av_b2 (fX11_full μ) fun r50 μ50 =>
          some (r50, μ50)))))

def fX11_type (a1 : Int32) (μ : Mem) : Option (Int32 × Mem) :=
  (fX11_within a1 0 127 μ).bind fun r4 =>
  if r4 = 0 then (
    av_b2 (fX11_bad (-2) μ) fun r13 μ13 =>
    some (r13, μ13)) else (
    if (gF μ 9 1) < 150 then (
      (fX5_append a1 μ).bind fun μ40 =>
      some (gF μ40 9 1, μ40)) else (
      av_b2 (fX11_full μ) fun r31 μ31 =>
      some (r31, μ31)))

def fX11_clear (μ : Mem) : Option (Int32 × Mem) :=
  (some (gF μ 9 1)).bind fun x1_7 =>
  (some (sF μ 9 1 0)).bind fun μ13 =>
  some (x1_7, μ13)

def fX11_read (μ : Mem) : Option (Int32 × Mem) :=
  av_b2 (fX5_readInto 28 μ) fun r8 μ8 =>
  if (gF μ8 9 4) = (-1) then (
    (fX8_copyFrom 14 28 μ8).bind fun μ42 =>
    some (r8, μ42)) else (
    some ((-10) - (gF μ8 9 4), μ8))

def fX11_isVoter (a1 : Int32) (μ : Mem) : Option (Int32) :=
  (fX11_within a1 0 ((gF μ 15 4) - 1) μ).bind fun r14 =>
  (av_z r14).bind fun z17 =>
  some z17

def fX11_vote (a1 : Int32) (μ : Mem) : Option (Int32 × Mem) :=
  (fX11_isVoter a1 μ).bind fun r2 =>
  if r2 = 0 then (
    av_b2 (fX11_bad (-2) μ) fun r11 μ11 =>
    some (r11, μ11)) else (
    (fX8_keepPast 14 μ).bind fun μ19 =>
    (fX7_cast 21 a1 μ19).bind fun μ30 =>
    some (gF μ30 21 6, μ30))

def fX11_night (a1 : Int32) (μ : Mem) : Option (Int32 × Mem) :=
  (fX11_within a1 1 9 μ).bind fun r4 =>
  if r4 = 0 then (
    av_b2 (fX11_bad (-2) μ) fun r13 μ13 =>
    some (r13, μ13)) else (
    (fX8_keepPast 14 μ).bind fun μ21 =>
    (fX7_snowOver 21 a1 μ21).bind fun μ32 =>
    some (gF μ32 21 6, μ32))

def fX11_no (μ : Mem) : Option (Int32 × Mem) :=
  (some (sF μ 0 9 ((gF μ 0 9) + 1))).bind fun μ7 =>
  some ((-3), μ7)

def fX11_undo (μ : Mem) : Option (Int32 × Mem) :=
  if 0 < (gF μ 14 3) then (
    (fX8_goBack 14 μ).bind fun μ19 =>
    some (gF μ19 21 3, μ19)) else (
    av_b2 (fX11_no μ) fun r11 μ11 =>
    some (r11, μ11))

def fX11_of (a1 : Int32) (a2 : Int32) (μ : Mem) : Option (Int32 × Mem) :=
  (fX11_isLedge a1 μ).bind fun r2 =>
  if r2 = 0 then (
    av_b2 (fX11_bad (-10) μ) fun r11 μ11 =>
    some (r11, μ11)) else (
    if a2 = 0 then (
      (rd μ 16 a1).bind fun r59 =>
      some (r59, μ)) else (
      if a2 = 1 then (
        (rd μ 22 a1).bind fun r72 =>
        some (r72, μ)) else (
        if a2 = 2 then (
          (rd μ 23 a1).bind fun r85 =>
          some (r85, μ)) else (
          if a2 = 3 then (
            (rd μ 17 a1).bind fun r98 =>
            some (r98, μ)) else (
            av_b2 (fX11_bad (-10) μ) fun r103 μ103 =>
            some (r103, μ103))))))

def dv_X11_285 (q : Nat) (a1 : Nat) (a2 : Int32) (a3 : Int32) (μ : Mem) : Option Int32 :=
  if av_cls q = 4 then fX4_place q a1 a2 a3 μ else (
  if av_cls q = 0 then fX0_place q a1 a2 a3 μ else (
  if av_cls q = 3 then fX4_place q a1 a2 a3 μ else (
  if av_cls q = 6 then fX0_place q a1 a2 a3 μ else (
  if av_cls q = 2 then fX2_place q a1 a2 a3 μ else (
  if av_cls q = 10 then fX10_place q a1 a2 a3 μ else (
  none))))))

def fX11_placeAs (a1 : Int32) (a2 : Int32) (μ : Mem) : Option (Int32) :=
  (fX9_kindOf 15 a1 μ).bind fun r8 =>
  (rd μ 19 a2).bind fun r29 =>
  (rd μ 20 a2).bind fun r41 =>
  (dv_X11_285 r8 21 r29 r41 μ).bind fun r42 =>
  some r42

def dv_X11_289 (q : Nat) (a1 : Int32) (μ : Mem) : Option Int32 :=
  if av_cls q = 4 then fX4_heft q a1 μ else (
  if av_cls q = 0 then fX4_heft q a1 μ else (
  if av_cls q = 3 then fX3_heft q a1 μ else (
  if av_cls q = 6 then fX6_heft q a1 μ else (
  if av_cls q = 2 then fX4_heft q a1 μ else (
  if av_cls q = 10 then fX3_heft q a1 μ else (
  none))))))

def fX11_heftAs (a1 : Int32) (a2 : Int32) (μ : Mem) : Option (Int32) :=
  (fX9_kindOf 15 a1 μ).bind fun r8 =>
  (rd μ 20 a2).bind fun r22 =>
  (dv_X11_289 r8 r22 μ).bind fun r23 =>
  some r23

def fX11_about (a1 : Int32) (a2 : Int32) (μ : Mem) : Option (Int32 × Mem) :=
  (fX11_isVoter a1 μ).bind fun r2 =>
  if r2 = 0 then (
    av_b2 (fX11_bad (-2) μ) fun r11 μ11 =>
    some (r11, μ11)) else (
    if a2 = 0 then (
      (rd μ 18 a1).bind fun r63 =>
      some (r63, μ)) else (
      if a2 = 1 then (
        (rd μ 19 a1).bind fun r76 =>
        some (r76, μ)) else (
        if a2 = 2 then (
          (rd μ 20 a1).bind fun r89 =>
          some (r89, μ)) else (
          if a2 = 3 then (
            (rd μ 18 a1).bind fun r103 =>
            (fX11_placeAs r103 a1 μ).bind fun r105 =>
            some (r105, μ)) else (
            if a2 = 4 then (
              (rd μ 18 a1).bind fun r121 =>
              (fX11_heftAs r121 a1 μ).bind fun r123 =>
              some (r123, μ)) else (
              av_b2 (fX11_bad (-2) μ) fun r130 μ130 =>
              some (r130, μ130)))))))

def fX11_winner (μ : Mem) : Option (Int32) :=
  some (gF μ 21 4)

def fX11_coalition (μ : Mem) : Option (Int32) :=
  some (gF μ 21 5)

def fX11_february (a1 : Int32) (μ : Mem) : Option (Int32 × Mem) :=
  (fX11_within a1 0 1 μ).bind fun r3 =>
  if r3 = 0 then (
    av_b2 (fX11_bad (-2) μ) fun r12 μ12 =>
    some (r12, μ12)) else (
    av_b2 (fX1_afterFebruary μ) fun r20 μ20 =>
    if a1 = 0 then (
      some (gF μ20 r20 4, μ20)) else (
      some (gF μ20 r20 5, μ20)))

def fX11_orders_93 (μ : Mem) : Option (Int32 × Mem) :=
  some ((-5), μ)

def fX11_orders_13 (μ : Mem) : Option (Int32 × Mem) :=
  av_b2 (fX11_bad (-10) μ) fun r16 μ16 =>
  some (r16, μ16)

def fX11_orders (a1 : Int32) (a2 : Int32) (μ : Mem) : Option (Int32 × Mem) :=
  (fX11_isLedge a1 μ).bind fun r2 =>
  if r2 = 0 then (
    fX11_orders_13 μ) else (
    if (-1 : Int32) ≤ a2 then (
      if (gF μ 21 4) = (-1) then (
        av_b2 (fX1_ordersWon a1 μ) fun r44 μ44 =>
        if a2 = (-1) then (
          some (r44, μ44)) else (
          if r44 = 0 then (
            some ((-1), μ44)) else (
            if (gF μ44 15 4) ≤ a2 then (
              fX11_orders_93 μ44) else (
              if (6 : Int32) ≤ a2 then (
                fX11_orders_93 μ44) else (
                (rd μ44 13 a2).bind fun r89 =>
                some (r89, μ44)))))) else (
        av_b2 (fX11_no μ) fun r35 μ35 =>
        some (r35, μ35))) else (
      fX11_orders_13 μ))

def fX11_stones_17 (μ : Mem) : Option (Int32 × Mem) :=
  av_b2 (fX11_bad (-2) μ) fun r20 μ20 =>
  some (r20, μ20)

def fX11_stones (a1 : Int32) (a2 : Int32) (μ : Mem) : Option (Int32 × Mem) :=
  (fX11_isLedge a1 μ).bind fun r2 =>
  if r2 = 0 then (
    fX11_stones_17 μ) else (
    (fX11_within a2 0 1 μ).bind fun r11 =>
    if r11 = 0 then (
      fX11_stones_17 μ) else (
      av_b2 (fX1_fewestStones a1 μ) fun r29 μ29 =>
      if a2 = 0 then (
        some (r29, μ29)) else (
        some (gF μ29 11 5, μ29))))

def fX11_buried_18 (μ : Mem) : Option (Int32 × Mem) :=
  av_b2 (fX11_bad (-2) μ) fun r21 μ21 =>
  some (r21, μ21)

def fX11_buried (a1 : Int32) (a2 : Int32) (μ : Mem) : Option (Int32 × Mem) :=
  (fX11_isLedge a1 μ).bind fun r2 =>
  if r2 = 0 then (
    fX11_buried_18 μ) else (
    (fX11_within a2 1 20 μ).bind fun r12 =>
    if r12 = 0 then (
      fX11_buried_18 μ) else (
      av_b2 (fX1_buriedBy a1 a2 μ) fun r31 μ31 =>
      some (r31, μ31)))

def fX11_nights_18 (μ : Mem) : Option (Int32 × Mem) :=
  av_b2 (fX11_bad (-2) μ) fun r21 μ21 =>
  some (r21, μ21)

def fX11_nights (a1 : Int32) (a2 : Int32) (μ : Mem) : Option (Int32 × Mem) :=
  (fX11_isLedge a1 μ).bind fun r2 =>
  if r2 = 0 then (
    fX11_nights_18 μ) else (
    (fX11_within a2 1 9 μ).bind fun r12 =>
    if r12 = 0 then (
      fX11_nights_18 μ) else (
      av_b2 (fX1_nightsTill a1 a2 μ) fun r31 μ31 =>
      some (r31, μ31)))

def fX11_parties_40 (μ : Mem) : Option (Int32 × Mem) :=
  av_b2 (fX11_bad (-10) μ) fun r43 μ43 =>
  some (r43, μ43)

def fX11_parties (a1 : Int32) (a2 : Int32) (a3 : Int32) (a4 : Int32) (μ : Mem) : Option (Int32 × Mem) :=
  (fX11_isLedge a1 μ).bind fun r2 =>
  if r2 = 0 then (
    fX11_parties_40 μ) else (
    (fX11_isLedge a2 μ).bind fun r10 =>
    if r10 = 0 then (
      fX11_parties_40 μ) else (
      if a1 = a2 then (
        fX11_parties_40 μ) else (
        (fX11_within a3 1 4 μ).bind fun r24 =>
        if r24 = 0 then (
          fX11_parties_40 μ) else (
          (fX11_within a4 0 1 μ).bind fun r34 =>
          if r34 = 0 then (
            fX11_parties_40 μ) else (
            av_b2 (fX1_play a1 a2 a3 μ) fun r54 μ54 =>
            if a4 = 0 then (
              some (r54, μ54)) else (
              some (gF μ54 11 5, μ54)))))))

def fX11_seen_19 (μ : Mem) : Option (Int32 × Mem) :=
  av_b2 (fX11_bad (-2) μ) fun r22 μ22 =>
  some (r22, μ22)

def fX11_seen (a1 : Int32) (a2 : Int32) (μ : Mem) : Option (Int32 × Mem) :=
  (fX11_within a1 0 99 μ).bind fun r4 =>
  if r4 = 0 then (
    fX11_seen_19 μ) else (
    (fX11_within a2 0 1 μ).bind fun r13 =>
    if r13 = 0 then (
      fX11_seen_19 μ) else (
      if (gF μ 14 6) < 6 then (
        av_b2 (fX8_addSeen 14 a1 a2 μ) fun r49 μ49 =>
        some (r49, μ49)) else (
        av_b2 (fX11_full μ) fun r39 μ39 =>
        some (r39, μ39))))

def fX11_forget (μ : Mem) : Option (Int32 × Mem) :=
  (some (gF μ 14 6)).bind fun x1_7 =>
  (some (sF μ 14 6 0)).bind fun μ13 =>
  some (x1_7, μ13)

def fX11_spread (a0 : Int32) (a1 : Int32) (μ : Mem) : Option (Int32) :=
  some (av_max 0 ((a1 - a0) + 1))

def fX11_hold (a1 : Int32) (μ : Mem) : Option (Int32 × Mem) :=
  (fX11_within a1 0 1 μ).bind fun r3 =>
  if r3 = 0 then (
    av_b2 (fX11_bad (-10) μ) fun r12 μ12 =>
    some (r12, μ12)) else (
    (fX8_leastHold 14 μ).bind fun r20 =>
    (fX8_greatestHold 14 μ).bind fun r29 =>
    (fX11_spread r20 r29 μ).bind fun r32 =>
    if a1 = 0 then (
      some (r32, μ)) else (
      if r32 ≤ 0 then (
        some ((-1), μ)) else (
        some (r20, μ))))

def fX11_stick_82 (k37 : Int32 → Int32 → Int32 → Int32 → Int32 → Int32 → Mem → Option (Int32)) (x1 : Int32) (x2 : Int32) (x3 : Int32) (x4 : Int32) (x5 : Int32) (x6 : Int32) (μ : Mem) : Option (Int32) :=
  (some (x6 + 1)).bind fun x6_82 =>
  k37 x1 x2 x3 x4 x5 x6_82 μ

def fX11_stick_37 : Nat → Int32 → Int32 → Int32 → Int32 → Int32 → Int32 → Mem → Option (Int32)
  | 0 => fun _ _ _ _ _ _ _ => none
  | n + 1 => fun x1 x2 x3 x4 x5 x6 μ =>
    if (60 : Int32) < x6 then (
      some x4) else (
      (fX11_spread (av_max x1 x6) x2 μ).bind fun r51 =>
      (some (av_max r51 (x3 - r51))).bind fun x8_65 =>
      if x5 ≤ x8_65 then (
        fX11_stick_82 (fX11_stick_37 n) x1 x2 x3 x4 x5 x6 μ) else (
        fX11_stick_82 (fX11_stick_37 n) x1 x2 x3 x6 x8_65 x6 μ))

def fX11_stick (μ : Mem) : Option (Int32) :=
  (fX8_leastHold 14 μ).bind fun r4 =>
  (fX8_greatestHold 14 μ).bind fun r12 =>
  (fX11_spread r4 r12 μ).bind fun r18 =>
  if r18 = 0 then (
    some (-1)) else (
    fX11_stick_37 av_big r4 r12 r18 0 r18 0 μ)

def fX11_is_76 (k39 : Int32 → Int32 → Int32 → Int32 → Int32 → Mem → Option (Int32 × Mem)) (x1 : Int32) (x2 : Int32) (x3 : Int32) (x4 : Int32) (x5 : Int32) (μ : Mem) : Option (Int32 × Mem) :=
  (some (x5 + 1)).bind fun x5_76 =>
  k39 x1 x2 x3 x4 x5_76 μ

def fX11_is_39 : Nat → Int32 → Int32 → Int32 → Int32 → Int32 → Mem → Option (Int32 × Mem)
  | 0 => fun _ _ _ _ _ _ => none
  | n + 1 => fun x1 x2 x3 x4 x5 μ =>
    if (5 : Int32) < x5 then (
      some (x4, μ)) else (
      (fX11_placeAs x5 x1 μ).bind fun r49 =>
      if r49 = x2 then (
        (fX11_heftAs x5 x1 μ).bind fun r60 =>
        if r60 = x3 then (
          (some (x4 ||| (1 <<< (x5 &&& 31)))).bind fun x4_74 =>
          fX11_is_76 (fX11_is_39 n) x1 x2 x3 x4_74 x5 μ) else (
          fX11_is_76 (fX11_is_39 n) x1 x2 x3 x4 x5 μ)) else (
        fX11_is_76 (fX11_is_39 n) x1 x2 x3 x4 x5 μ))

def fX11_is_26 (μ : Mem) : Option (Int32 × Mem) :=
  av_b2 (fX11_bad (-2) μ) fun r29 μ29 =>
  some (r29, μ29)

def fX11_is (a1 : Int32) (a2 : Int32) (a3 : Int32) (μ : Mem) : Option (Int32 × Mem) :=
  (fX11_isVoter a1 μ).bind fun r2 =>
  if r2 = 0 then (
    fX11_is_26 μ) else (
    (fX11_isLedge a2 μ).bind fun r10 =>
    if r10 = 0 then (
      fX11_is_26 μ) else (
      (fX11_within a3 1 20 μ).bind fun r20 =>
      if r20 = 0 then (
        fX11_is_26 μ) else (
        fX11_is_39 av_big a1 a2 a3 0 0 μ)))

def fX11_commonDivisor_44 (x4 : Int64) (μ : Mem) : Option (Int64) :=
  some x4

def fX11_commonDivisor_9 : Nat → Int64 → Int64 → Int32 → Mem → Option (Int64)
  | 0 => fun _ _ _ _ => none
  | n + 1 => fun x4 x6 x8 μ =>
    if (100 : Int32) ≤ x8 then (
      fX11_commonDivisor_44 x4 μ) else (
      if (lg_cmp x6 0) = 0 then (
        fX11_commonDivisor_44 x4 μ) else (
        if x6 = 0 then none else (
        (some (x4 - x4 / x6 * x6)).bind fun x9_28 =>
        (some (x8 + 1)).bind fun x8_38 =>
        fX11_commonDivisor_9 n x6 x9_28 x8_38 μ)))

def fX11_commonDivisor (a0 : Int64) (a2 : Int64) (μ : Mem) : Option (Int64) :=
  fX11_commonDivisor_9 av_big a0 a2 0 μ

def fX11_sneeze_82 (μ : Mem) : Option (Int32 × Mem) :=
  some (1, μ)

def fX11_sneeze_18 (μ : Mem) : Option (Int32 × Mem) :=
  av_b2 (fX11_bad (-2) μ) fun r21 μ21 =>
  some (r21, μ21)

def fX11_sneeze (a1 : Int32) (a2 : Int32) (μ : Mem) : Option (Int32 × Mem) :=
  (fX11_isLedge a1 μ).bind fun r2 =>
  if r2 = 0 then (
    fX11_sneeze_18 μ) else (
    (fX11_within a2 0 10 μ).bind fun r12 =>
    if r12 = 0 then (
      fX11_sneeze_18 μ) else (
      av_b2 (fX1_partsWon a1 a2 μ) fun r31 μ31 =>
      (fX11_tenTo (gF μ31 15 4) μ31).bind fun r45 =>
      (fX11_commonDivisor r31 r45 μ31).bind fun r53 =>
      if (lg_cmp r53 0) ≤ 0 then (
        fX11_sneeze_82 μ31) else (
        if r53 = 0 then none else (
        (some (sL μ31 0 6 (r31 / r53))).bind fun μ70 =>
        if r53 = 0 then none else (
        (some (sL μ70 0 7 (r45 / r53))).bind fun μ79 =>
        fX11_sneeze_82 μ79)))))

def fX11_februaries_53 (μ : Mem) : Option (Int32 × Mem) :=
  av_b2 (fX11_no μ) fun r54 μ54 =>
  some (r54, μ54)

def fX11_februaries_20 (μ : Mem) : Option (Int32 × Mem) :=
  av_b2 (fX11_bad (-2) μ) fun r23 μ23 =>
  some (r23, μ23)

def fX11_februaries (a1 : Int32) (a2 : Int32) (μ : Mem) : Option (Int32 × Mem) :=
  (fX11_within a1 0 999999 μ).bind fun r4 =>
  if r4 = 0 then (
    fX11_februaries_20 μ) else (
    (fX11_within a2 0 60 μ).bind fun r14 =>
    if r14 = 0 then (
      fX11_februaries_20 μ) else (
      if (gF μ 15 4) ≤ 0 then (
        fX11_februaries_53 μ) else (
        if 0 < (gF μ 15 1) then (
          av_b2 (fX1_loadAfter a1 a2 μ) fun r64 μ64 =>
          some (r64, μ64)) else (
          fX11_februaries_53 μ))))

def fX11_part (a1 : Int32) (μ : Mem) : Option (Int64 × Mem) :=
  (fX11_within a1 0 1 μ).bind fun r3 =>
  if r3 = 0 then (
    av_b2 (fX11_bad (-2) μ) fun r12 μ12 =>
    some (Int32.toInt64 r12, μ12)) else (
    if a1 = 0 then (
      some (gL μ 0 6, μ)) else (
      some (gL μ 0 7, μ)))

def fX11_image (a1 : Int32) (μ : Mem) : Option (Int32 × Mem) :=
  (fX11_within a1 0 1 μ).bind fun r3 =>
  if r3 = 0 then (
    av_b2 (fX11_bad (-2) μ) fun r12 μ12 =>
    some (r12, μ12)) else (
    (rdr 8 a1).bind fun r21 =>
    (fX8_copyFrom r21 14 μ).bind fun μ26 =>
    (some (sF μ26 0 3 ((gF μ26 0 3) ||| (1 <<< (a1 &&& 31))))).bind fun μ38 =>
    some (1, μ38))

def fX11_from (a1 : Int32) (μ : Mem) : Option (Int32 × Mem) :=
  (fX11_within a1 0 1 μ).bind fun r3 =>
  if r3 = 0 then (
    av_b2 (fX11_bad (-2) μ) fun r12 μ12 =>
    some (r12, μ12)) else (
    (fX11_hasBit (gF μ 0 3) a1 μ).bind fun r21 =>
    if r21 = 0 then (
      av_b2 (fX11_no μ) fun r28 μ28 =>
      some (r28, μ28)) else (
      (rdr 8 a1).bind fun r41 =>
      (fX8_copyFrom 14 r41 μ).bind fun μ42 =>
      some (1, μ42)))

def fX11_status (a1 : Int32) (μ : Mem) : Option (Int32 × Mem) :=
  if a1 = 0 then (
    some (gF μ 0 8, μ)) else (
    if a1 = 1 then (
      some (gF μ 0 9, μ)) else (
      if a1 = 2 then (
        some (gF μ 0 10, μ)) else (
        av_b2 (fX11_bad (-1) μ) fun r45 μ45 =>
        some (r45, μ45))))

def fX11_howMany (a1 : Int32) (μ : Mem) : Option (Int32) :=
  if a1 = 0 then (
    some (gF μ 15 1)) else (
    if a1 = 1 then (
      some (gF μ 15 4)) else (
      if a1 = 2 then (
        some (gF μ 21 3)) else (
        if a1 = 3 then (
          (fX7_loadOfAll 21 μ).bind fun r80 =>
          some r80) else (
          if a1 = 4 then (
            some (gF μ 14 6)) else (
            if a1 = 5 then (
              some (gF μ 14 3)) else (
              some (gF μ 9 1)))))))

def fX11_count (a1 : Int32) (μ : Mem) : Option (Int32 × Mem) :=
  (fX11_within a1 0 6 μ).bind fun r4 =>
  if r4 = 0 then (
    av_b2 (fX11_bad (-2) μ) fun r21 μ21 =>
    some (r21, μ21)) else (
    (fX11_howMany a1 μ).bind fun r12 =>
    some (r12, μ))

def fX11_digest_6 : Nat → Int64 → Int32 → Mem → Option (Int64)
  | 0 => fun _ _ _ => none
  | n + 1 => fun x1 x3 μ =>
    if (6 : Int32) < x3 then (
      (fX8_digestFrom 14 x1 μ).bind fun r36 =>
      (some ((31 * r36) + (gL μ 0 6))).bind fun x1_50 =>
      some ((31 * x1_50) + (gL μ 0 7))) else (
      (fX11_howMany x3 μ).bind fun r19 =>
      (some ((31 * x1) + (Int32.toInt64 r19))).bind fun x1_24 =>
      (some (x3 + 1)).bind fun x3_25 =>
      fX11_digest_6 n x1_24 x3_25 μ)

def fX11_digest (μ : Mem) : Option (Int64) :=
  fX11_digest_6 av_big 1151 0 μ

def fX12_in_17 (μ : Mem) : Option (Int32) :=
  some 0

def fX12_in (a0 : Int64) (a2 : Int64) (a4 : Int64) (μ : Mem) : Option (Int32) :=
  if (lg_cmp a0 a2) < 0 then (
    fX12_in_17 μ) else (
    if 0 < (lg_cmp a0 a4) then (
      fX12_in_17 μ) else (
      some 1))

def fX12_bad (a1 : Int32) (μ : Mem) : Option (Int32 × Mem) :=
  (rd μ 102 0).bind fun r6 =>
  (wr μ 102 0 (r6 + 1)).bind fun μ9 =>
  some (a1, μ9)

def fX12_no (μ : Mem) : Option (Int32 × Mem) :=
  (rd μ 102 1).bind fun r6 =>
  (wr μ 102 1 (r6 + 1)).bind fun μ9 =>
  some ((-3), μ9)

def fX12_full (μ : Mem) : Option (Int32 × Mem) :=
  (rd μ 102 2).bind fun r6 =>
  (wr μ 102 2 (r6 + 1)).bind fun μ9 =>
  some ((-4), μ9)

def fX12_begin_2 : Nat → Nat → Int32 → Mem → Option (Mem)
  | 0 => fun _ _ _ => none
  | n + 1 => fun x0 x1 μ =>
    if (69 : Int32) ≤ x1 then (
      (wr μ x0 5 (-1)).bind fun μ21 =>
      some μ21) else (
      (wr μ x0 x1 0).bind fun μ11 =>
      (some (x1 + 1)).bind fun x1_12 =>
      fX12_begin_2 n x0 x1_12 μ11)

def fX12_begin (a0 : Nat) (μ : Mem) : Option (Mem) :=
  fX12_begin_2 av_big a0 0 μ

def fX12_ledges (μ : Mem) : Option (Int32) :=
  (rd μ 99 0).bind fun r5 =>
  some r5

def fX12_voters (μ : Mem) : Option (Int32) :=
  (rd μ 99 1).bind fun r5 =>
  some r5

def fX12_isLedge (a1 : Int32) (μ : Mem) : Option (Int32) :=
  (fX12_ledges μ).bind fun r4 =>
  (fX12_in (Int32.toInt64 a1) 0 (Int32.toInt64 (r4 - 1)) μ).bind fun r10 =>
  (av_z r10).bind fun z13 =>
  some z13

def fX12_isVoter (a1 : Int32) (μ : Mem) : Option (Int32) :=
  (fX12_voters μ).bind fun r4 =>
  (fX12_in (Int32.toInt64 a1) 0 (Int32.toInt64 (r4 - 1)) μ).bind fun r10 =>
  (av_z r10).bind fun z13 =>
  some z13

def fX12_get (a1 : Int32) (a2 : Int32) (μ : Mem) : Option (Int32) :=
  (rd μ 99 ((7 + (4 * a1)) + a2)).bind fun r12 =>
  some r12

def fX12_tells (a1 : Int32) (a2 : Int32) (μ : Mem) : Option (Int32) :=
  (rd μ 99 ((39 + (3 * a1)) + a2)).bind fun r12 =>
  some r12

def fX12_mountain (μ : Mem) : Option (Int32 × Mem) :=
  (fX12_ledges μ).bind fun r1 =>
  (fX12_begin 99 μ).bind fun μ9 =>
  some (r1, μ9)

def fX12_layLedge (a0 : Nat) (a1 : Int32) (a2 : Int32) (a3 : Int32) (μ : Mem) : Option (Mem) :=
  (rd μ a0 0).bind fun r5 =>
  (some (7 + (4 * r5))).bind fun x4_8 =>
  (wr μ a0 (x4_8 + 0) a1).bind fun μ16 =>
  (wr μ16 a0 (x4_8 + 1) a2).bind fun μ23 =>
  (wr μ23 a0 (x4_8 + 2) 0).bind fun μ30 =>
  (wr μ30 a0 (x4_8 + 3) a3).bind fun μ37 =>
  (rd μ37 a0 0).bind fun r41 =>
  (wr μ37 a0 0 (r41 + 1)).bind fun μ44 =>
  some μ44

def fX12_ledge_42 (μ : Mem) : Option (Int32 × Mem) :=
  av_b2 (fX12_bad (-2) μ) fun r45 μ45 =>
  some (r45, μ45)

def fX12_ledge (a1 : Int32) (a2 : Int32) (a3 : Int32) (μ : Mem) : Option (Int32 × Mem) :=
  (fX12_in (Int32.toInt64 a1) 1 60 μ).bind fun r6 =>
  if r6 = 0 then (
    fX12_ledge_42 μ) else (
    (fX12_in (Int32.toInt64 a2) 0 30 μ).bind fun r18 =>
    if r18 = 0 then (
      fX12_ledge_42 μ) else (
      (fX12_ledges μ).bind fun r30 =>
      (fX12_in (Int32.toInt64 a3) (-1) (Int32.toInt64 (r30 - 1)) μ).bind fun r36 =>
      if r36 = 0 then (
        fX12_ledge_42 μ) else (
        (fX12_ledges μ).bind fun r50 =>
        if r50 = 8 then (
          av_b2 (fX12_full μ) fun r59 μ59 =>
          some (r59, μ59)) else (
          (fX12_layLedge 99 a1 a2 a3 μ).bind fun μ70 =>
          (wr μ70 99 4 0).bind fun μ79 =>
          (fX12_ledges μ79).bind fun r81 =>
          some (r81 - 1, μ79)))))

def fX12_layVoter (a0 : Nat) (a1 : Int32) (a2 : Int32) (a3 : Int32) (μ : Mem) : Option (Mem) :=
  (rd μ a0 1).bind fun r5 =>
  (some (39 + (3 * r5))).bind fun x4_8 =>
  (wr μ a0 (x4_8 + 0) a1).bind fun μ16 =>
  (wr μ16 a0 (x4_8 + 1) a2).bind fun μ23 =>
  (wr μ23 a0 (x4_8 + 2) a3).bind fun μ30 =>
  (rd μ30 a0 1).bind fun r34 =>
  (wr μ30 a0 1 (r34 + 1)).bind fun μ37 =>
  some μ37

def fX12_voter_32 (μ : Mem) : Option (Int32 × Mem) :=
  av_b2 (fX12_bad (-2) μ) fun r35 μ35 =>
  some (r35, μ35)

def fX12_voter (a1 : Int32) (a2 : Int32) (a3 : Int32) (μ : Mem) : Option (Int32 × Mem) :=
  (fX12_in (Int32.toInt64 a1) 0 5 μ).bind fun r6 =>
  if r6 = 0 then (
    fX12_voter_32 μ) else (
    (fX12_isLedge a2 μ).bind fun r14 =>
    if r14 = 0 then (
      fX12_voter_32 μ) else (
      (fX12_in (Int32.toInt64 a3) 1 9 μ).bind fun r26 =>
      if r26 = 0 then (
        fX12_voter_32 μ) else (
        (fX12_voters μ).bind fun r40 =>
        if r40 = 6 then (
          av_b2 (fX12_full μ) fun r49 μ49 =>
          some (r49, μ49)) else (
          (fX12_layVoter 99 a1 a2 a3 μ).bind fun μ60 =>
          (wr μ60 99 4 0).bind fun μ69 =>
          (fX12_voters μ69).bind fun r71 =>
          some (r71 - 1, μ69)))))

def fX12_layHand_2 : Nat → Int32 → Mem → Option (Mem)
  | 0 => fun _ _ => none
  | n + 1 => fun x1 μ =>
    (fX12_ledges μ).bind fun r4 =>
    if r4 ≤ x1 then (
      (rd μ 99 2).bind fun r46 =>
      (some (sF μ 98 8 r46)).bind fun μ47 =>
      (rd μ47 99 5).bind fun r56 =>
      (some (sF μ47 98 9 r56)).bind fun μ57 =>
      (rd μ57 99 6).bind fun r67 =>
      (some (sF μ57 98 10 r67)).bind fun μ68 =>
      some μ68) else (
      (fX12_get x1 1 μ).bind fun r18 =>
      (wr μ 103 x1 r18).bind fun μ21 =>
      (fX12_get x1 2 μ21).bind fun r30 =>
      (wr μ21 104 x1 r30).bind fun μ33 =>
      (some (x1 + 1)).bind fun x1_34 =>
      fX12_layHand_2 n x1_34 μ33)

def fX12_layHand (μ : Mem) : Option (Mem) :=
  fX12_layHand_2 av_big 0 μ

def fX12_load (a1 : Int32) (μ : Mem) : Option (Int32) :=
  (rd μ 103 a1).bind fun r5 =>
  (rd μ 104 a1).bind fun r11 =>
  some (r5 + r11)

def fX12_firstOver_2 : Nat → Int32 → Mem → Option (Int32)
  | 0 => fun _ _ => none
  | n + 1 => fun x1 μ =>
    (fX12_ledges μ).bind fun r4 =>
    if r4 ≤ x1 then (
      some (-1)) else (
      (fX12_load x1 μ).bind fun r12 =>
      (fX12_get x1 0 μ).bind fun r18 =>
      if r12 ≤ r18 then (
        (some (x1 + 1)).bind fun x1_26 =>
        fX12_firstOver_2 n x1_26 μ) else (
        some x1))

def fX12_firstOver (μ : Mem) : Option (Int32) :=
  fX12_firstOver_2 av_big 0 μ

def fX12_comesDown_133 (x1 : Int32) (μ : Mem) : Option (Int32 × Mem) :=
  some (x1, μ)

def fX12_comesDown_91 (k17 : Int32 → Int32 → Mem → Option (Int32 × Mem)) (x1 : Int32) (x2 : Int32) (y1 : Int32) (μ : Mem) : Option (Int32 × Mem) :=
  (some (sF μ 98 11 y1)).bind fun μ91 =>
  (some (x1 ||| (1 <<< (x2 &&& 31)))).bind fun x1_99 =>
  (fX12_firstOver μ91).bind fun r101 =>
  k17 x1_99 r101 μ91

def fX12_comesDown_60 (k17 : Int32 → Int32 → Mem → Option (Int32 × Mem)) (x1 : Int32) (x2 : Int32) (μ : Mem) : Option (Int32 × Mem) :=
  (wr μ 103 x2 0).bind fun μ66 =>
  (wr μ66 104 x2 0).bind fun μ73 =>
  if (gF μ73 98 11) = (-1) then (
    fX12_comesDown_91 k17 x1 x2 x2 μ73) else (
    fX12_comesDown_91 k17 x1 x2 (gF μ73 98 11) μ73)

def fX12_comesDown_17 : Nat → Int32 → Int32 → Mem → Option (Int32 × Mem)
  | 0 => fun _ _ _ => none
  | n + 1 => fun x1 x2 μ =>
    if x2 = (-1) then (
      if (gF μ 98 9) = (-1) then (
        if x1 = 0 then (
          fX12_comesDown_133 x1 μ) else (
          (some (sF μ 98 9 (gF μ 98 11))).bind fun μ125 =>
          (some (sF μ125 98 10 x1)).bind fun μ130 =>
          fX12_comesDown_133 x1 μ130)) else (
        fX12_comesDown_133 x1 μ)) else (
      (fX12_get x2 3 μ).bind fun r25 =>
      if r25 = (-1) then (
        fX12_comesDown_60 (fX12_comesDown_17 n) x1 x2 μ) else (
        (rd μ 103 r25).bind fun r40 =>
        (fX12_load x2 μ).bind fun r43 =>
        (wr μ 103 r25 (r40 + r43)).bind fun μ47 =>
        (some (sF μ47 98 12 ((gF μ47 98 12) ||| (1 <<< (r25 &&& 31))))).bind fun μ57 =>
        fX12_comesDown_60 (fX12_comesDown_17 n) x1 x2 μ57))

def fX12_comesDown (μ : Mem) : Option (Int32 × Mem) :=
  (some (sF μ 98 11 (-1))).bind fun μ4 =>
  (some (sF μ4 98 12 0)).bind fun μ9 =>
  (fX12_firstOver μ9).bind fun r13 =>
  fX12_comesDown_17 av_big 0 r13 μ9

def fX12_heavy_10 (x2 : Int32) (μ : Mem) : Option (Int32) :=
  some (2 * x2)

def fX12_heavy (a1 : Int32) (a2 : Int32) (μ : Mem) : Option (Int32) :=
  if a1 = 2 then (
    fX12_heavy_10 a2 μ) else (
    if a1 = 5 then (
      fX12_heavy_10 a2 μ) else (
      if a1 = 3 then (
        some ((a2 + 1) / 2)) else (
        some a2)))

def fX12_byLoad_67 (k4 : Int32 → Int32 → Int32 → Mem → Option (Int32)) (x1 : Int32) (x3 : Int32) (y0 : Int32) (μ : Mem) : Option (Int32) :=
  (some (x3 + 1)).bind fun x3_68 =>
  k4 x1 y0 x3_68 μ

def fX12_byLoad_55 (k4 : Int32 → Int32 → Int32 → Mem → Option (Int32)) (x1 : Int32) (x2 : Int32) (x3 : Int32) (y0 : Int32) (μ : Mem) : Option (Int32) :=
  if y0 = 0 then (
    fX12_byLoad_67 k4 x1 x3 x2 μ) else (
    fX12_byLoad_67 k4 x1 x3 x3 μ)

def fX12_byLoad_4 : Nat → Int32 → Int32 → Int32 → Mem → Option (Int32)
  | 0 => fun _ _ _ _ => none
  | n + 1 => fun x1 x2 x3 μ =>
    (fX12_ledges μ).bind fun r6 =>
    if r6 ≤ x3 then (
      some x2) else (
      if x1 = 0 then (
        (fX12_load x3 μ).bind fun r39 =>
        (fX12_load x2 μ).bind fun r44 =>
        if r39 ≤ r44 then (
          fX12_byLoad_55 (fX12_byLoad_4 n) x1 x2 x3 0 μ) else (
          fX12_byLoad_55 (fX12_byLoad_4 n) x1 x2 x3 1 μ)) else (
        (fX12_load x3 μ).bind fun r18 =>
        (fX12_load x2 μ).bind fun r23 =>
        if r23 ≤ r18 then (
          fX12_byLoad_55 (fX12_byLoad_4 n) x1 x2 x3 0 μ) else (
          fX12_byLoad_55 (fX12_byLoad_4 n) x1 x2 x3 1 μ)))

def fX12_byLoad (a1 : Int32) (μ : Mem) : Option (Int32) :=
  fX12_byLoad_4 av_big a1 0 1 μ

def fX12_where (a1 : Int32) (a2 : Int32) (a3 : Int32) (μ : Mem) : Option (Int32) :=
  if a1 = 1 then (
    (fX12_load a2 μ).bind fun r38 =>
    (fX12_heavy a1 a3 μ).bind fun r44 =>
    (fX12_get a2 0 μ).bind fun r51 =>
    if (r38 + r44) ≤ r51 then (
      some a2) else (
      (fX12_byLoad 1 μ).bind fun r59 =>
      some r59)) else (
    if a1 = 2 then (
      some a2) else (
      if a1 = 3 then (
        (fX12_load a2 μ).bind fun r38 =>
        (fX12_heavy a1 a3 μ).bind fun r44 =>
        (fX12_get a2 0 μ).bind fun r51 =>
        if (r38 + r44) ≤ r51 then (
          some a2) else (
          (fX12_byLoad 1 μ).bind fun r59 =>
          some r59)) else (
        if a1 = 4 then (
          (fX12_get a2 3 μ).bind fun r70 =>
          if r70 = (-1) then (
            some a2) else (
            (fX12_get a2 3 μ).bind fun r84 =>
            some r84)) else (
          if a1 = 5 then (
            if ((gF μ 98 8) - (gF μ 98 8) / 2 * 2) = 1 then (
              (fX12_byLoad 0 μ).bind fun r100 =>
              some r100) else (
              some a2)) else (
            some a2)))))

def fX12_whereBy (a1 : Int32) (μ : Mem) : Option (Int32) :=
  (fX12_tells a1 0 μ).bind fun r4 =>
  (fX12_tells a1 1 μ).bind fun r10 =>
  (fX12_tells a1 2 μ).bind fun r16 =>
  (fX12_where r4 r10 r16 μ).bind fun r19 =>
  some r19

def fX12_heavyBy (a1 : Int32) (μ : Mem) : Option (Int32) :=
  (fX12_tells a1 0 μ).bind fun r4 =>
  (fX12_tells a1 2 μ).bind fun r10 =>
  (fX12_heavy r4 r10 μ).bind fun r13 =>
  some r13

def fX12_goStone (a1 : Int32) (a2 : Int32) (μ : Mem) : Option (Int32 × Mem) :=
  (rd μ 104 a1).bind fun r6 =>
  (wr μ 104 a1 (r6 + a2)).bind fun μ9 =>
  av_b2 (fX12_comesDown μ9) fun r11 μ11 =>
  some (r11, μ11)

def fX12_goVote (a1 : Int32) (μ : Mem) : Option (Int32 × Mem) :=
  (fX12_whereBy a1 μ).bind fun r3 =>
  (fX12_heavyBy a1 μ).bind fun r8 =>
  av_b2 (fX12_goStone r3 r8 μ) fun r11 μ11 =>
  (some (sF μ11 98 8 ((gF μ11 98 8) + 1))).bind fun μ22 =>
  some (r11, μ22)

def fX12_goNight_2 : Nat → Int32 → Int32 → Mem → Option (Int32 × Mem)
  | 0 => fun _ _ _ => none
  | n + 1 => fun x1 x2 μ =>
    (fX12_ledges μ).bind fun r4 =>
    if r4 ≤ x2 then (
      av_b2 (fX12_comesDown μ) fun r27 μ27 =>
      some (r27, μ27)) else (
      (rd μ 103 x2).bind fun r16 =>
      (wr μ 103 x2 (r16 + x1)).bind fun μ19 =>
      (some (x2 + 1)).bind fun x2_20 =>
      fX12_goNight_2 n x1 x2_20 μ19)

def fX12_goNight (a1 : Int32) (μ : Mem) : Option (Int32 × Mem) :=
  fX12_goNight_2 av_big a1 0 μ

def fX12_keep_67 : Nat → Int32 → Int32 → Mem → Option (Mem)
  | 0 => fun _ _ _ => none
  | n + 1 => fun x1 x2 μ =>
    if (8 : Int32) ≤ x2 then (
      (rd μ 99 2).bind fun r123 =>
      (wr μ 99 (x1 + 16) r123).bind fun μ124 =>
      (rd μ124 99 5).bind fun r138 =>
      (wr μ124 99 (x1 + 17) r138).bind fun μ139 =>
      (rd μ139 99 6).bind fun r154 =>
      (wr μ139 99 (x1 + 18) r154).bind fun μ155 =>
      (rd μ155 99 4).bind fun r162 =>
      (wr μ155 99 4 (r162 + 1)).bind fun μ165 =>
      some μ165) else (
      (fX12_get x2 1 μ).bind fun r83 =>
      (wr μ 99 (x1 + x2) r83).bind fun μ86 =>
      (fX12_get x2 2 μ86).bind fun r100 =>
      (wr μ86 99 ((x1 + 8) + x2) r100).bind fun μ103 =>
      (some (x2 + 1)).bind fun x2_104 =>
      fX12_keep_67 n x1 x2_104 μ103)

def fX12_keep_52 (μ : Mem) : Option (Mem) :=
  (rd μ 99 4).bind fun r61 =>
  (some (69 + (19 * r61))).bind fun x1_64 =>
  fX12_keep_67 av_big x1_64 0 μ

def fX12_keep_13 : Nat → Int32 → Mem → Option (Mem)
  | 0 => fun _ _ => none
  | n + 1 => fun x1 μ =>
    if (133 : Int32) ≤ x1 then (
      (wr μ 99 4 7).bind fun μ51 =>
      fX12_keep_52 μ51) else (
      (rd μ 99 (88 + x1)).bind fun r36 =>
      (wr μ 99 (69 + x1) r36).bind fun μ37 =>
      (some (x1 + 1)).bind fun x1_38 =>
      fX12_keep_13 n x1_38 μ37)

def fX12_keep (μ : Mem) : Option (Mem) :=
  (rd μ 99 4).bind fun r5 =>
  if r5 = 8 then (
    fX12_keep_13 av_big 0 μ) else (
    fX12_keep_52 μ)

def fX12_layNow_2 : Nat → Int32 → Mem → Option (Mem)
  | 0 => fun _ _ => none
  | n + 1 => fun x1 μ =>
    (fX12_ledges μ).bind fun r4 =>
    if r4 ≤ x1 then (
      (wr μ 99 2 (gF μ 98 8)).bind fun μ63 =>
      (wr μ63 99 5 (gF μ63 98 9)).bind fun μ73 =>
      (wr μ73 99 6 (gF μ73 98 10)).bind fun μ84 =>
      some μ84) else (
      (rd μ 103 x1).bind fun r27 =>
      (wr μ 99 ((7 + (4 * x1)) + 1) r27).bind fun μ28 =>
      (rd μ28 104 x1).bind fun r46 =>
      (wr μ28 99 ((7 + (4 * x1)) + 2) r46).bind fun μ47 =>
      (some (x1 + 1)).bind fun x1_48 =>
      fX12_layNow_2 n x1_48 μ47)

def fX12_layNow (μ : Mem) : Option (Mem) :=
  fX12_layNow_2 av_big 0 μ

def fX12_vote (a1 : Int32) (μ : Mem) : Option (Int32 × Mem) :=
  (fX12_isVoter a1 μ).bind fun r2 =>
  if r2 = 0 then (
    av_b2 (fX12_bad (-2) μ) fun r11 μ11 =>
    some (r11, μ11)) else (
    (fX12_keep μ).bind fun μ16 =>
    (fX12_layHand μ16).bind fun μ20 =>
    av_b2 (fX12_goVote a1 μ20) fun r25 μ25 =>
    (fX12_layNow μ25).bind fun μ30 =>
    some (r25, μ30))

def fX12_night (a1 : Int32) (μ : Mem) : Option (Int32 × Mem) :=
  (fX12_in (Int32.toInt64 a1) 1 9 μ).bind fun r6 =>
  if r6 = 0 then (
    av_b2 (fX12_bad (-2) μ) fun r15 μ15 =>
    some (r15, μ15)) else (
    (fX12_keep μ).bind fun μ20 =>
    (fX12_layHand μ20).bind fun μ24 =>
    av_b2 (fX12_goNight a1 μ24) fun r29 μ29 =>
    (fX12_layNow μ29).bind fun μ34 =>
    some (r29, μ34))

def fX12_undo_39 : Nat → Int32 → Int32 → Mem → Option (Int32 × Mem)
  | 0 => fun _ _ _ => none
  | n + 1 => fun x1 x2 μ =>
    if (8 : Int32) ≤ x2 then (
      (rd μ 99 (x1 + 16)).bind fun r109 =>
      (wr μ 99 2 r109).bind fun μ110 =>
      (rd μ110 99 (x1 + 17)).bind fun r124 =>
      (wr μ110 99 5 r124).bind fun μ125 =>
      (rd μ125 99 (x1 + 18)).bind fun r140 =>
      (wr μ125 99 6 r140).bind fun μ141 =>
      (rd μ141 99 2).bind fun r147 =>
      some (r147, μ141)) else (
      (rd μ 99 (x1 + x2)).bind fun r64 =>
      (wr μ 99 ((7 + (4 * x2)) + 1) r64).bind fun μ65 =>
      (rd μ65 99 ((x1 + 8) + x2)).bind fun r88 =>
      (wr μ65 99 ((7 + (4 * x2)) + 2) r88).bind fun μ89 =>
      (some (x2 + 1)).bind fun x2_90 =>
      fX12_undo_39 n x1 x2_90 μ89)

def fX12_undo (μ : Mem) : Option (Int32 × Mem) :=
  (rd μ 99 4).bind fun r5 =>
  if r5 = 0 then (
    av_b2 (fX12_no μ) fun r10 μ10 =>
    some (r10, μ10)) else (
    (rd μ 99 4).bind fun r20 =>
    (wr μ 99 4 (r20 - 1)).bind fun μ23 =>
    (rd μ23 99 4).bind fun r33 =>
    (some (69 + (19 * r33))).bind fun x1_36 =>
    fX12_undo_39 av_big x1_36 0 μ23)

def fX12_of_29 (μ : Mem) : Option (Int32 × Mem) :=
  av_b2 (fX12_bad (-10) μ) fun r32 μ32 =>
  some (r32, μ32)

def fX12_of (a1 : Int32) (a2 : Int32) (μ : Mem) : Option (Int32 × Mem) :=
  (fX12_isLedge a1 μ).bind fun r2 =>
  if r2 = 0 then (
    fX12_of_29 μ) else (
    (fX12_in (Int32.toInt64 a2) 0 3 μ).bind fun r14 =>
    if r14 = 0 then (
      fX12_of_29 μ) else (
      (fX12_get a1 a2 μ).bind fun r23 =>
      some (r23, μ)))

def fX12_about_20 (μ : Mem) : Option (Int32 × Mem) :=
  av_b2 (fX12_bad (-2) μ) fun r23 μ23 =>
  some (r23, μ23)

def fX12_about (a1 : Int32) (a2 : Int32) (μ : Mem) : Option (Int32 × Mem) :=
  (fX12_isVoter a1 μ).bind fun r2 =>
  if r2 = 0 then (
    fX12_about_20 μ) else (
    (fX12_in (Int32.toInt64 a2) 0 4 μ).bind fun r14 =>
    if r14 = 0 then (
      fX12_about_20 μ) else (
      (fX12_layHand μ).bind fun μ28 =>
      if (3 : Int32) ≤ a2 then (
        if a2 = 3 then (
          (fX12_whereBy a1 μ28).bind fun r52 =>
          some (r52, μ28)) else (
          (fX12_heavyBy a1 μ28).bind fun r60 =>
          some (r60, μ28))) else (
        (fX12_tells a1 a2 μ28).bind fun r39 =>
        some (r39, μ28))))

def fX12_winner (μ : Mem) : Option (Int32) :=
  (rd μ 99 5).bind fun r5 =>
  some r5

def fX12_coalition (μ : Mem) : Option (Int32) :=
  (rd μ 99 6).bind fun r6 =>
  some r6

def fX12_february_23 : Nat → Int32 → Int32 → Mem → Option (Int32 × Mem)
  | 0 => fun _ _ _ => none
  | n + 1 => fun x1 x2 μ =>
    (fX12_voters μ).bind fun r25 =>
    if r25 ≤ x2 then (
      if x1 = 0 then (
        some (gF μ 98 9, μ)) else (
        some (gF μ 98 10, μ))) else (
      av_b2 (fX12_goVote x2 μ) fun r33 μ33 =>
      (some (x2 + 1)).bind fun x2_37 =>
      fX12_february_23 n x1 x2_37 μ33)

def fX12_february (a1 : Int32) (μ : Mem) : Option (Int32 × Mem) :=
  (fX12_in (Int32.toInt64 a1) 0 1 μ).bind fun r4 =>
  if r4 = 0 then (
    av_b2 (fX12_bad (-2) μ) fun r13 μ13 =>
    some (r13, μ13)) else (
    (fX12_layHand μ).bind fun μ18 =>
    fX12_february_23 av_big a1 0 μ18)

def fX12_areUnlike_4 : Nat → Int32 → Int32 → Mem → Option (Int32)
  | 0 => fun _ _ _ => none
  | n + 1 => fun x1 x2 μ =>
    (fX12_voters μ).bind fun r6 =>
    if r6 ≤ x2 then (
      (fX12_voters μ).bind fun r32 =>
      if x1 = ((1 <<< (r32 &&& 31)) - 1) then (
        some 1) else (
        some 0)) else (
      (rd μ 105 x2).bind fun r19 =>
      (some (x1 ||| (1 <<< (r19 &&& 31)))).bind fun x1_22 =>
      (some (x2 + 1)).bind fun x2_23 =>
      fX12_areUnlike_4 n x1_22 x2_23 μ)

def fX12_areUnlike (μ : Mem) : Option (Int32) :=
  fX12_areUnlike_4 av_big 0 0 μ

def fX12_layRow_8 : Nat → Int32 → Int32 → Int32 → Mem → Option (Mem)
  | 0 => fun _ _ _ _ => none
  | n + 1 => fun x3 x4 x5 μ =>
    if x5 < 0 then (
      some μ) else (
      if x3 = 0 then none else (
      (wr μ 105 x5 (x4 - x4 / x3 * x3)).bind fun μ23 =>
      if x3 = 0 then none else (
      (some (x4 / x3)).bind fun x4_28 =>
      (some (x5 + (-1))).bind fun x5_30 =>
      fX12_layRow_8 n x3 x4_28 x5_30 μ23)))

def fX12_layRow (a1 : Int32) (a2 : Int32) (a3 : Int32) (μ : Mem) : Option (Mem) :=
  (some (a2 - 1)).bind fun x5_6 =>
  fX12_layRow_8 av_big a3 a1 x5_6 μ

def fX12_power_4 : Nat → Int32 → Int32 → Int32 → Int32 → Mem → Option (Int32)
  | 0 => fun _ _ _ _ _ => none
  | n + 1 => fun x0 x1 x2 x3 μ =>
    if x1 ≤ x3 then (
      some x2) else (
      (some (x2 * x0)).bind fun x2_12 =>
      (some (x3 + 1)).bind fun x3_13 =>
      fX12_power_4 n x0 x1 x2_12 x3_13 μ)

def fX12_power (a0 : Int32) (a1 : Int32) (μ : Mem) : Option (Int32) :=
  fX12_power_4 av_big a0 a1 1 0 μ

def fX12_orders_163 (k46 : Int32 → Int32 → Int32 → Int32 → Int32 → Mem → Option (Int32 × Mem)) (x1 : Int32) (x2 : Int32) (x3 : Int32) (x4 : Int32) (x5 : Int32) (μ : Mem) : Option (Int32 × Mem) :=
  (some (x5 + 1)).bind fun x5_163 =>
  k46 x1 x2 x3 x4 x5_163 μ

def fX12_orders_160 (k46 : Int32 → Int32 → Int32 → Int32 → Int32 → Mem → Option (Int32 × Mem)) (x1 : Int32) (x2 : Int32) (x3 : Int32) (x5 : Int32) (y0 : Int32) (y1 : Int32) (μ : Mem) : Option (Int32 × Mem) :=
  (some (y0 + y1)).bind fun x4_161 =>
  fX12_orders_163 k46 x1 x2 x3 x4_161 x5 μ

def fX12_orders_145 (k46 : Int32 → Int32 → Int32 → Int32 → Int32 → Mem → Option (Int32 × Mem)) (x1 : Int32) (x2 : Int32) (x3 : Int32) (x4 : Int32) (x5 : Int32) (μ : Mem) : Option (Int32 × Mem) :=
  if (gF μ 98 9) = x1 then (
    fX12_orders_160 k46 x1 x2 x3 x5 x4 1 μ) else (
    fX12_orders_160 k46 x1 x2 x3 x5 x4 0 μ)

def fX12_orders_106 (k46 : Int32 → Int32 → Int32 → Int32 → Int32 → Mem → Option (Int32 × Mem)) : Nat → Int32 → Int32 → Int32 → Int32 → Int32 → Int32 → Mem → Option (Int32 × Mem)
  | 0 => fun _ _ _ _ _ _ _ => none
  | n + 1 => fun x1 x2 x3 x4 x5 x6 μ =>
    if x3 ≤ x6 then (
      fX12_orders_145 k46 x1 x2 x3 x4 x5 μ) else (
      if (gF μ 98 9) = x1 then (
        if x4 = 0 then (
          (rd μ 105 x6).bind fun r137 =>
          (wr μ 106 x6 r137).bind fun μ138 =>
          (some (x6 + 1)).bind fun x6_139 =>
          fX12_orders_106 k46 n x1 x2 x3 x4 x5 x6_139 μ138) else (
          fX12_orders_145 k46 x1 x2 x3 x4 x5 μ)) else (
        fX12_orders_145 k46 x1 x2 x3 x4 x5 μ))

def fX12_orders_78 (k46 : Int32 → Int32 → Int32 → Int32 → Int32 → Mem → Option (Int32 × Mem)) : Nat → Int32 → Int32 → Int32 → Int32 → Int32 → Int32 → Mem → Option (Int32 × Mem)
  | 0 => fun _ _ _ _ _ _ _ => none
  | n + 1 => fun x1 x2 x3 x4 x5 x6 μ =>
    if x3 ≤ x6 then (
      fX12_orders_106 k46 av_big x1 x2 x3 x4 x5 0 μ) else (
      (rd μ 105 x6).bind fun r91 =>
      av_b2 (fX12_goVote r91 μ) fun r92 μ92 =>
      (some (x6 + 1)).bind fun x6_97 =>
      fX12_orders_78 k46 n x1 x2 x3 x4 x5 x6_97 μ92)

def fX12_orders_46 : Nat → Int32 → Int32 → Int32 → Int32 → Int32 → Mem → Option (Int32 × Mem)
  | 0 => fun _ _ _ _ _ _ => none
  | n + 1 => fun x1 x2 x3 x4 x5 μ =>
    (fX12_power x3 x3 μ).bind fun r50 =>
    if r50 ≤ x5 then (
      if x2 = (-1) then (
        some (x4, μ)) else (
        if x4 = 0 then (
          some ((-1), μ)) else (
          if x3 ≤ x2 then (
            some ((-5), μ)) else (
            (rd μ 106 x2).bind fun r198 =>
            some (r198, μ))))) else (
      (fX12_layRow x5 x3 x3 μ).bind fun μ61 =>
      (fX12_areUnlike μ61).bind fun r65 =>
      if r65 = 0 then (
        fX12_orders_163 (fX12_orders_46 n) x1 x2 x3 x4 x5 μ61) else (
        (fX12_layHand μ61).bind fun μ72 =>
        fX12_orders_78 (fX12_orders_46 n) av_big x1 x2 x3 x4 x5 0 μ72))

def fX12_orders_13 (μ : Mem) : Option (Int32 × Mem) :=
  av_b2 (fX12_bad (-10) μ) fun r16 μ16 =>
  some (r16, μ16)

def fX12_orders (a1 : Int32) (a2 : Int32) (μ : Mem) : Option (Int32 × Mem) :=
  (fX12_isLedge a1 μ).bind fun r2 =>
  if r2 = 0 then (
    fX12_orders_13 μ) else (
    if (-1 : Int32) ≤ a2 then (
      (rd μ 99 5).bind fun r25 =>
      if r25 = (-1) then (
        (fX12_voters μ).bind fun r36 =>
        fX12_orders_46 av_big a1 a2 r36 0 0 μ) else (
        av_b2 (fX12_no μ) fun r31 μ31 =>
        some (r31, μ31))) else (
      fX12_orders_13 μ))

def fX12_stones_70 (k27 : Int32 → Int32 → Int32 → Mem → Option (Int32 × Mem)) (k36 : Int32 → Int32 → Int32 → Int32 → Mem → Option (Int32 × Mem)) : Nat → Int32 → Int32 → Int32 → Int32 → Int32 → Int32 → Mem → Option (Int32 × Mem)
  | 0 => fun _ _ _ _ _ _ _ => none
  | n + 1 => fun x1 x2 x3 x4 x5 x6 μ =>
    if x3 ≤ x6 then (
      if ((x5 >>> (x1 &&& 31)) &&& 1) = 1 then (
        if x2 = 0 then (
          some (x3, μ)) else (
          (rd μ 105 0).bind fun r119 =>
          some (r119, μ))) else (
        (some (x4 + 1)).bind fun x4_121 =>
        k36 x1 x2 x3 x4_121 μ)) else (
      (rd μ 105 x6).bind fun r83 =>
      av_b2 (fX12_goStone r83 1 μ) fun r85 μ85 =>
      (some (x6 + 1)).bind fun x6_90 =>
      fX12_stones_70 k27 k36 n x1 x2 x3 x4 r85 x6_90 μ85)

def fX12_stones_36 (k27 : Int32 → Int32 → Int32 → Mem → Option (Int32 × Mem)) : Nat → Int32 → Int32 → Int32 → Int32 → Mem → Option (Int32 × Mem)
  | 0 => fun _ _ _ _ _ => none
  | n + 1 => fun x1 x2 x3 x4 μ =>
    (fX12_ledges μ).bind fun r39 =>
    (fX12_power r39 x3 μ).bind fun r43 =>
    if r43 ≤ x4 then (
      (some (x3 + 1)).bind fun x3_127 =>
      k27 x1 x2 x3_127 μ) else (
      (fX12_ledges μ).bind fun r54 =>
      (fX12_layRow x4 x3 r54 μ).bind fun μ57 =>
      (fX12_layHand μ57).bind fun μ61 =>
      fX12_stones_70 k27 (fX12_stones_36 k27 n) av_big x1 x2 x3 x4 0 0 μ61)

def fX12_stones_27 : Nat → Int32 → Int32 → Int32 → Mem → Option (Int32 × Mem)
  | 0 => fun _ _ _ _ => none
  | n + 1 => fun x1 x2 x3 μ =>
    if (6 : Int32) ≤ x3 then (
      some ((-1), μ)) else (
      fX12_stones_36 (fX12_stones_27 n) av_big x1 x2 x3 0 μ)

def fX12_stones_18 (μ : Mem) : Option (Int32 × Mem) :=
  av_b2 (fX12_bad (-2) μ) fun r21 μ21 =>
  some (r21, μ21)

def fX12_stones (a1 : Int32) (a2 : Int32) (μ : Mem) : Option (Int32 × Mem) :=
  (fX12_isLedge a1 μ).bind fun r2 =>
  if r2 = 0 then (
    fX12_stones_18 μ) else (
    (fX12_in (Int32.toInt64 a2) 0 1 μ).bind fun r12 =>
    if r12 = 0 then (
      fX12_stones_18 μ) else (
      fX12_stones_27 av_big a1 a2 1 μ))

def fX12_buried_20 (μ : Mem) : Option (Int32 × Mem) :=
  av_b2 (fX12_bad (-2) μ) fun r23 μ23 =>
  some (r23, μ23)

def fX12_buried (a1 : Int32) (a2 : Int32) (μ : Mem) : Option (Int32 × Mem) :=
  (fX12_isLedge a1 μ).bind fun r2 =>
  if r2 = 0 then (
    fX12_buried_20 μ) else (
    (fX12_in (Int32.toInt64 a2) 1 20 μ).bind fun r14 =>
    if r14 = 0 then (
      fX12_buried_20 μ) else (
      (fX12_layHand μ).bind fun μ28 =>
      av_b2 (fX12_goStone a1 a2 μ28) fun r34 μ34 =>
      some (gF μ34 98 12, μ34)))

def fX12_nights_33 : Nat → Int32 → Int32 → Int32 → Mem → Option (Int32 × Mem)
  | 0 => fun _ _ _ _ => none
  | n + 1 => fun x1 x2 x3 μ =>
    if (60 : Int32) < x3 then (
      some ((-1), μ)) else (
      av_b2 (fX12_goNight x2 μ) fun r41 μ41 =>
      if ((r41 >>> (x1 &&& 31)) &&& 1) = 1 then (
        some (x3, μ41)) else (
        (some (x3 + 1)).bind fun x3_54 =>
        fX12_nights_33 n x1 x2 x3_54 μ41))

def fX12_nights_20 (μ : Mem) : Option (Int32 × Mem) :=
  av_b2 (fX12_bad (-2) μ) fun r23 μ23 =>
  some (r23, μ23)

def fX12_nights (a1 : Int32) (a2 : Int32) (μ : Mem) : Option (Int32 × Mem) :=
  (fX12_isLedge a1 μ).bind fun r2 =>
  if r2 = 0 then (
    fX12_nights_20 μ) else (
    (fX12_in (Int32.toInt64 a2) 1 9 μ).bind fun r14 =>
    if r14 = 0 then (
      fX12_nights_20 μ) else (
      (fX12_layHand μ).bind fun μ28 =>
      fX12_nights_33 av_big a1 a2 1 μ28))

def fX12_layTurn_16 : Nat → Int32 → Int32 → Mem → Option (Mem)
  | 0 => fun _ _ _ => none
  | n + 1 => fun x1 x2 μ =>
    if (8 : Int32) ≤ x2 then (
      some μ) else (
      (rd μ 103 x2).bind fun r37 =>
      (wr μ 109 ((8 * x1) + x2) r37).bind fun μ38 =>
      (rd μ38 104 x2).bind fun r54 =>
      (wr μ38 110 ((8 * x1) + x2) r54).bind fun μ55 =>
      (some (x2 + 1)).bind fun x2_56 =>
      fX12_layTurn_16 n x1 x2_56 μ55)

def fX12_layTurn (a1 : Int32) (μ : Mem) : Option (Mem) :=
  (wr μ 107 a1 0).bind fun μ6 =>
  (wr μ6 108 a1 (-1)).bind fun μ13 =>
  fX12_layTurn_16 av_big a1 0 μ13

def fX12_backTo_2 : Nat → Int32 → Int32 → Mem → Option (Mem)
  | 0 => fun _ _ _ => none
  | n + 1 => fun x1 x2 μ =>
    if (8 : Int32) ≤ x2 then (
      some μ) else (
      (rd μ 109 ((8 * x1) + x2)).bind fun r23 =>
      (wr μ 103 x2 r23).bind fun μ24 =>
      (rd μ24 110 ((8 * x1) + x2)).bind fun r40 =>
      (wr μ24 104 x2 r40).bind fun μ41 =>
      (some (x2 + 1)).bind fun x2_42 =>
      fX12_backTo_2 n x1 x2_42 μ41)

def fX12_backTo (a1 : Int32) (μ : Mem) : Option (Mem) :=
  fX12_backTo_2 av_big a1 0 μ

def fX12_judge_87 (x1 : Int32) (y1 : Int32) (μ : Mem) : Option (Mem) :=
  (some (sF μ 98 19 y1)).bind fun μ87 =>
  (rd μ87 107 x1).bind fun r96 =>
  (wr μ87 107 x1 (r96 + 1)).bind fun μ99 =>
  some μ99

def fX12_judge_83 (x1 : Int32) (μ : Mem) : Option (Mem) :=
  fX12_judge_87 x1 (gF μ 98 19) μ

def fX12_judge_64 (x1 : Int32) (x3 : Int32) (y0 : Nat) (y1 : Int32) (y2 : Int32) (μ : Mem) : Option (Mem) :=
  (wr μ y0 y1 y2).bind fun μ64 =>
  if x3 = 0 then (
    fX12_judge_83 x1 μ64) else (
    if x1 = 0 then (
      (rd μ64 107 0).bind fun r79 =>
      fX12_judge_87 x1 r79 μ64) else (
      fX12_judge_83 x1 μ64))

def fX12_judge_44 (x1 : Int32) (x2 : Int32) (y0 : Int32) (μ : Mem) : Option (Mem) :=
  if y0 = 0 then (
    (rd μ 108 x1).bind fun r63 =>
    fX12_judge_64 x1 y0 108 x1 r63 μ) else (
    fX12_judge_64 x1 y0 108 x1 x2 μ)

def fX12_judge_43 (x1 : Int32) (x2 : Int32) (μ : Mem) : Option (Mem) :=
  fX12_judge_44 x1 x2 0 μ

def fX12_judge_39 (x1 : Int32) (x2 : Int32) (μ : Mem) : Option (Mem) :=
  fX12_judge_44 x1 x2 1 μ

def fX12_judge (a1 : Int32) (a2 : Int32) (μ : Mem) : Option (Mem) :=
  (rd μ 108 a1).bind fun r5 =>
  if r5 = (-1) then (
    fX12_judge_39 a1 a2 μ) else (
    if (a1 - a1 / 2 * 2) = 0 then (
      (rd μ 108 a1).bind fun r22 =>
      if a2 ≤ r22 then (
        fX12_judge_43 a1 a2 μ) else (
        fX12_judge_39 a1 a2 μ)) else (
      (rd μ 108 a1).bind fun r35 =>
      if r35 ≤ a2 then (
        fX12_judge_43 a1 a2 μ) else (
        fX12_judge_39 a1 a2 μ)))

def fX12_has (a0 : Int32) (a1 : Int32) (μ : Mem) : Option (Int32) :=
  if ((a0 >>> (a1 &&& 31)) &&& 1) = 1 then (
    some 1) else (
    some 0)

def fX12_goParty_101 (k21 : Int32 → Int32 → Int32 → Mem → Option (Mem)) (x2 : Int32) (x3 : Int32) (y1 : Int32) (μ : Mem) : Option (Mem) :=
  (some (sF μ 98 20 y1)).bind fun μ101 =>
  (fX12_firstOver μ101).bind fun r105 =>
  k21 x2 x3 r105 μ101

def fX12_goParty_95 (k21 : Int32 → Int32 → Int32 → Mem → Option (Mem)) (x2 : Int32) (x3 : Int32) (x4 : Int32) (μ : Mem) : Option (Mem) :=
  fX12_goParty_101 k21 x2 x3 x4 μ

def fX12_goParty_66 (k21 : Int32 → Int32 → Int32 → Mem → Option (Mem)) (x2 : Int32) (x3 : Int32) (x4 : Int32) (μ : Mem) : Option (Mem) :=
  (wr μ 103 x4 0).bind fun μ73 =>
  (wr μ73 104 x4 0).bind fun μ81 =>
  if x4 = x2 then (
    fX12_goParty_95 k21 x2 x3 x4 μ81) else (
    if x4 = x3 then (
      fX12_goParty_95 k21 x2 x3 x4 μ81) else (
      fX12_goParty_101 k21 x2 x3 (-1) μ81))

def fX12_goParty_21 : Nat → Int32 → Int32 → Int32 → Mem → Option (Mem)
  | 0 => fun _ _ _ _ => none
  | n + 1 => fun x2 x3 x4 μ =>
    if x4 = (-1) then (
      some μ) else (
      if (gF μ 98 20) = (-1) then (
        (fX12_get x4 3 μ).bind fun r39 =>
        if r39 = (-1) then (
          fX12_goParty_66 (fX12_goParty_21 n) x2 x3 x4 μ) else (
          (rd μ 103 r39).bind fun r57 =>
          (fX12_load x4 μ).bind fun r61 =>
          (wr μ 103 r39 (r57 + r61)).bind fun μ65 =>
          fX12_goParty_66 (fX12_goParty_21 n) x2 x3 x4 μ65)) else (
        some μ))

def fX12_goParty (a1 : Int32) (a2 : Int32) (a3 : Int32) (μ : Mem) : Option (Mem) :=
  (rd μ 104 a1).bind fun r6 =>
  (wr μ 104 a1 (r6 + 1)).bind fun μ9 =>
  (some (sF μ9 98 20 (-1))).bind fun μ12 =>
  (fX12_firstOver μ12).bind fun r16 =>
  fX12_goParty_21 av_big a2 a3 r16 μ12

def fX12_layParties_132 (k12 : Int32 → Int32 → Int32 → Int32 → Mem → Option (Int32 × Mem)) (x1 : Int32) (x2 : Int32) (x3 : Int32) (x4 : Int32) (y1 : Int32) (y2 : Int32) (μ : Mem) : Option (Int32 × Mem) :=
  (fX12_judge y1 y2 μ).bind fun μ132 =>
  k12 x1 x2 x3 x4 μ132

def fX12_layParties_67 (k12 : Int32 → Int32 → Int32 → Int32 → Mem → Option (Int32 × Mem)) (x1 : Int32) (x2 : Int32) (x3 : Int32) (x4 : Int32) (y0 : Int32) (μ : Mem) : Option (Int32 × Mem) :=
  (some (x4 + (-1))).bind fun x4_69 =>
  (fX12_backTo x4_69 μ).bind fun μ75 =>
  (fX12_judge x4_69 y0 μ75).bind fun μ83 =>
  k12 x1 x2 x3 x4_69 μ83

def fX12_layParties_50 (k12 : Int32 → Int32 → Int32 → Int32 → Mem → Option (Int32 × Mem)) (x1 : Int32) (x2 : Int32) (x3 : Int32) (x4 : Int32) (μ : Mem) : Option (Int32 × Mem) :=
  if x4 = x3 then (
    fX12_layParties_67 k12 x1 x2 x3 x4 1 μ) else (
    (rd μ 108 x4).bind fun r66 =>
    fX12_layParties_67 k12 x1 x2 x3 x4 r66 μ)

def fX12_layParties_30 (k12 : Int32 → Int32 → Int32 → Int32 → Mem → Option (Int32 × Mem)) (x1 : Int32) (x2 : Int32) (x3 : Int32) (x4 : Int32) (μ : Mem) : Option (Int32 × Mem) :=
  if x4 = x3 then (
    fX12_layParties_50 k12 x1 x2 x3 x4 μ) else (
    (rd μ 107 x4).bind fun r42 =>
    (fX12_ledges μ).bind fun r44 =>
    if r42 = r44 then (
      fX12_layParties_50 k12 x1 x2 x3 x4 μ) else (
      (rd μ 107 x4).bind fun r96 =>
      (fX12_goParty r96 x1 x2 μ).bind fun μ99 =>
      if (gF μ99 98 20) = (-1) then (
        (some (x4 + 1)).bind fun x4_138 =>
        (fX12_layTurn x4_138 μ99).bind fun μ144 =>
        k12 x1 x2 x3 x4_138 μ144) else (
        (fX12_backTo x4 μ99).bind fun μ113 =>
        if (gF μ113 98 20) = x1 then (
          fX12_layParties_132 k12 x1 x2 x3 x4 x4 2 μ113) else (
          fX12_layParties_132 k12 x1 x2 x3 x4 x4 0 μ113))))

def fX12_layParties_12 : Nat → Int32 → Int32 → Int32 → Int32 → Mem → Option (Int32 × Mem)
  | 0 => fun _ _ _ _ _ => none
  | n + 1 => fun x1 x2 x3 x4 μ =>
    if 0 < x4 then (
      fX12_layParties_30 (fX12_layParties_12 n) x1 x2 x3 x4 μ) else (
      (rd μ 107 0).bind fun r22 =>
      (fX12_ledges μ).bind fun r24 =>
      if r24 ≤ r22 then (
        (rd μ 108 0).bind fun r155 =>
        some (r155, μ)) else (
        fX12_layParties_30 (fX12_layParties_12 n) x1 x2 x3 x4 μ))

def fX12_layParties (a1 : Int32) (a2 : Int32) (a3 : Int32) (μ : Mem) : Option (Int32 × Mem) :=
  (fX12_layHand μ).bind fun μ4 =>
  (fX12_layTurn 0 μ4).bind fun μ9 =>
  fX12_layParties_12 av_big a1 a2 a3 0 μ9

def fX12_parties_44 (μ : Mem) : Option (Int32 × Mem) :=
  av_b2 (fX12_bad (-10) μ) fun r47 μ47 =>
  some (r47, μ47)

def fX12_parties (a1 : Int32) (a2 : Int32) (a3 : Int32) (a4 : Int32) (μ : Mem) : Option (Int32 × Mem) :=
  (fX12_isLedge a1 μ).bind fun r2 =>
  if r2 = 0 then (
    fX12_parties_44 μ) else (
    (fX12_isLedge a2 μ).bind fun r10 =>
    if r10 = 0 then (
      fX12_parties_44 μ) else (
      if a1 = a2 then (
        fX12_parties_44 μ) else (
        (fX12_in (Int32.toInt64 a3) 1 4 μ).bind fun r27 =>
        if r27 = 0 then (
          fX12_parties_44 μ) else (
          (fX12_in (Int32.toInt64 a4) 0 1 μ).bind fun r38 =>
          if r38 = 0 then (
            fX12_parties_44 μ) else (
            av_b2 (fX12_layParties a1 a2 a3 μ) fun r55 μ55 =>
            if a4 = 0 then (
              some (r55, μ55)) else (
              some (gF μ55 98 19, μ55)))))))

def fX12_seen_22 (μ : Mem) : Option (Int32 × Mem) :=
  av_b2 (fX12_bad (-2) μ) fun r25 μ25 =>
  some (r25, μ25)

def fX12_seen (a1 : Int32) (a2 : Int32) (μ : Mem) : Option (Int32 × Mem) :=
  (fX12_in (Int32.toInt64 a1) 0 99 μ).bind fun r6 =>
  if r6 = 0 then (
    fX12_seen_22 μ) else (
    (fX12_in (Int32.toInt64 a2) 0 1 μ).bind fun r16 =>
    if r16 = 0 then (
      fX12_seen_22 μ) else (
      (rd μ 99 3).bind fun r34 =>
      if r34 = 6 then (
        av_b2 (fX12_full μ) fun r41 μ41 =>
        some (r41, μ41)) else (
        (rd μ 99 3).bind fun r57 =>
        (wr μ 99 (57 + (2 * r57)) a1).bind fun μ61 =>
        (rd μ61 99 3).bind fun r74 =>
        (wr μ61 99 ((57 + (2 * r74)) + 1) a2).bind fun μ80 =>
        (rd μ80 99 3).bind fun r87 =>
        (wr μ80 99 3 (r87 + 1)).bind fun μ90 =>
        (rd μ90 99 3).bind fun r96 =>
        some (r96, μ90))))

def fX12_forget (μ : Mem) : Option (Int32 × Mem) :=
  (rd μ 99 3).bind fun r5 =>
  (wr μ 99 3 0).bind fun μ13 =>
  some (r5, μ13)

def fX12_canHold_72 (k4 : Int32 → Int32 → Int32 → Mem → Option (Int32)) (x1 : Int32) (x3 : Int32) (y0 : Int32) (μ : Mem) : Option (Int32) :=
  (some (x3 + 1)).bind fun x3_73 =>
  k4 x1 y0 x3_73 μ

def fX12_canHold_71 (k4 : Int32 → Int32 → Int32 → Mem → Option (Int32)) (x1 : Int32) (x3 : Int32) (μ : Mem) : Option (Int32) :=
  fX12_canHold_72 k4 x1 x3 0 μ

def fX12_canHold_64 (k4 : Int32 → Int32 → Int32 → Mem → Option (Int32)) (x1 : Int32) (x3 : Int32) (y0 : Int32) (y1 : Int32) (μ : Mem) : Option (Int32) :=
  if y0 = y1 then (
    fX12_canHold_72 k4 x1 x3 1 μ) else (
    fX12_canHold_71 k4 x1 x3 μ)

def fX12_canHold_34 (k4 : Int32 → Int32 → Int32 → Mem → Option (Int32)) (x1 : Int32) (x2 : Int32) (x3 : Int32) (y0 : Int32) (μ : Mem) : Option (Int32) :=
  if x2 = 0 then (
    fX12_canHold_71 k4 x1 x3 μ) else (
    (rd μ 99 ((57 + (2 * x3)) + 1)).bind fun r54 =>
    if r54 = 1 then (
      fX12_canHold_64 k4 x1 x3 y0 1 μ) else (
      fX12_canHold_64 k4 x1 x3 y0 0 μ))

def fX12_canHold_4 : Nat → Int32 → Int32 → Int32 → Mem → Option (Int32)
  | 0 => fun _ _ _ _ => none
  | n + 1 => fun x1 x2 x3 μ =>
    (rd μ 99 3).bind fun r10 =>
    if r10 ≤ x3 then (
      (av_z x2).bind fun z80 =>
      some z80) else (
      (rd μ 99 (57 + (2 * x3))).bind fun r25 =>
      if x1 < r25 then (
        fX12_canHold_34 (fX12_canHold_4 n) x1 x2 x3 0 μ) else (
        fX12_canHold_34 (fX12_canHold_4 n) x1 x2 x3 1 μ))

def fX12_canHold (a1 : Int32) (μ : Mem) : Option (Int32) :=
  fX12_canHold_4 av_big a1 1 0 μ

def fX12_manyFrom_29 (k4 : Int32 → Int32 → Int32 → Mem → Option (Int32)) (x1 : Int32) (x3 : Int32) (y0 : Int32) (y1 : Int32) (μ : Mem) : Option (Int32) :=
  (some (y0 + y1)).bind fun x2_30 =>
  (some (x3 + 1)).bind fun x3_31 =>
  k4 x1 x2_30 x3_31 μ

def fX12_manyFrom_28 (k4 : Int32 → Int32 → Int32 → Mem → Option (Int32)) (x1 : Int32) (x3 : Int32) (y0 : Int32) (μ : Mem) : Option (Int32) :=
  fX12_manyFrom_29 k4 x1 x3 y0 0 μ

def fX12_manyFrom_4 : Nat → Int32 → Int32 → Int32 → Mem → Option (Int32)
  | 0 => fun _ _ _ _ => none
  | n + 1 => fun x1 x2 x3 μ =>
    if (60 : Int32) < x3 then (
      some x2) else (
      if x3 < x1 then (
        fX12_manyFrom_28 (fX12_manyFrom_4 n) x1 x3 x2 μ) else (
        (fX12_canHold x3 μ).bind fun r18 =>
        if r18 = 0 then (
          fX12_manyFrom_28 (fX12_manyFrom_4 n) x1 x3 x2 μ) else (
          fX12_manyFrom_29 (fX12_manyFrom_4 n) x1 x3 x2 1 μ)))

def fX12_manyFrom (a1 : Int32) (μ : Mem) : Option (Int32) :=
  fX12_manyFrom_4 av_big a1 0 1 μ

def fX12_leastHold_2 : Nat → Int32 → Mem → Option (Int32)
  | 0 => fun _ _ => none
  | n + 1 => fun x1 μ =>
    if (60 : Int32) < x1 then (
      some (-1)) else (
      (fX12_canHold x1 μ).bind fun r10 =>
      if r10 = 0 then (
        (some (x1 + 1)).bind fun x1_18 =>
        fX12_leastHold_2 n x1_18 μ) else (
        some x1))

def fX12_leastHold (μ : Mem) : Option (Int32) :=
  fX12_leastHold_2 av_big 1 μ

def fX12_hold (a1 : Int32) (μ : Mem) : Option (Int32 × Mem) :=
  (fX12_in (Int32.toInt64 a1) 0 1 μ).bind fun r4 =>
  if r4 = 0 then (
    av_b2 (fX12_bad (-10) μ) fun r13 μ13 =>
    some (r13, μ13)) else (
    if a1 = 0 then (
      (fX12_manyFrom 0 μ).bind fun r25 =>
      some (r25, μ)) else (
      (fX12_leastHold μ).bind fun r32 =>
      some (r32, μ)))

def fX12_stick_85 (x2 : Int32) (μ : Mem) : Option (Int32) :=
  some x2

def fX12_stick_78 (k14 : Int32 → Int32 → Int32 → Int32 → Mem → Option (Int32)) (x1 : Int32) (x2 : Int32) (x4 : Int32) (y0 : Int32) (μ : Mem) : Option (Int32) :=
  (some (x4 + 1)).bind fun x4_79 =>
  k14 x1 x2 y0 x4_79 μ

def fX12_stick_65 (k14 : Int32 → Int32 → Int32 → Int32 → Mem → Option (Int32)) (x1 : Int32) (x3 : Int32) (x4 : Int32) (x6 : Int32) (y0 : Int32) (μ : Mem) : Option (Int32) :=
  if x3 ≤ x6 then (
    fX12_stick_78 k14 x1 y0 x4 x3 μ) else (
    fX12_stick_78 k14 x1 y0 x4 x6 μ)

def fX12_stick_51 (k14 : Int32 → Int32 → Int32 → Int32 → Mem → Option (Int32)) (x1 : Int32) (x2 : Int32) (x3 : Int32) (x4 : Int32) (y0 : Int32) (μ : Mem) : Option (Int32) :=
  if x3 ≤ y0 then (
    fX12_stick_65 k14 x1 x3 x4 y0 x2 μ) else (
    fX12_stick_65 k14 x1 x3 x4 y0 x4 μ)

def fX12_stick_14 : Nat → Int32 → Int32 → Int32 → Int32 → Mem → Option (Int32)
  | 0 => fun _ _ _ _ _ => none
  | n + 1 => fun x1 x2 x3 x4 μ =>
    if (60 : Int32) < x4 then (
      fX12_stick_85 x2 μ) else (
      if x1 ≤ 0 then (
        fX12_stick_85 x2 μ) else (
        (fX12_manyFrom x4 μ).bind fun r28 =>
        if r28 ≤ (x1 - r28) then (
          fX12_stick_51 (fX12_stick_14 n) x1 x2 x3 x4 (x1 - r28) μ) else (
          fX12_stick_51 (fX12_stick_14 n) x1 x2 x3 x4 r28 μ)))

def fX12_stick (μ : Mem) : Option (Int32) :=
  (fX12_manyFrom 0 μ).bind fun r2 =>
  fX12_stick_14 av_big r2 (-1) 1000000 0 μ

def fX12_is_112 (k45 : Int32 → Int32 → Int32 → Int32 → Int32 → Mem → Option (Int32 × Mem)) (x1 : Int32) (x2 : Int32) (x3 : Int32) (x5 : Int32) (y0 : Int32) (y1 : Int32) (μ : Mem) : Option (Int32 × Mem) :=
  (some (y0 ||| y1)).bind fun x4_113 =>
  (some (x5 + 1)).bind fun x5_115 =>
  k45 x1 x2 x3 x4_113 x5_115 μ

def fX12_is_95 (k45 : Int32 → Int32 → Int32 → Int32 → Int32 → Mem → Option (Int32 × Mem)) (x1 : Int32) (x2 : Int32) (x3 : Int32) (x4 : Int32) (x5 : Int32) (y0 : Int32) (μ : Mem) : Option (Int32 × Mem) :=
  if y0 = 0 then (
    fX12_is_112 k45 x1 x2 x3 x5 x4 0 μ) else (
    fX12_is_112 k45 x1 x2 x3 x5 x4 (1 <<< (x5 &&& 31)) μ)

def fX12_is_94 (k45 : Int32 → Int32 → Int32 → Int32 → Int32 → Mem → Option (Int32 × Mem)) (x1 : Int32) (x2 : Int32) (x3 : Int32) (x4 : Int32) (x5 : Int32) (μ : Mem) : Option (Int32 × Mem) :=
  fX12_is_95 k45 x1 x2 x3 x4 x5 0 μ

def fX12_is_45 : Nat → Int32 → Int32 → Int32 → Int32 → Int32 → Mem → Option (Int32 × Mem)
  | 0 => fun _ _ _ _ _ _ => none
  | n + 1 => fun x1 x2 x3 x4 x5 μ =>
    if (6 : Int32) ≤ x5 then (
      some (x4, μ)) else (
      (fX12_tells x1 1 μ).bind fun r58 =>
      (fX12_tells x1 2 μ).bind fun r64 =>
      (fX12_where x5 r58 r64 μ).bind fun r67 =>
      if r67 = x2 then (
        (fX12_tells x1 2 μ).bind fun r80 =>
        (fX12_heavy x5 r80 μ).bind fun r83 =>
        if r83 = x3 then (
          fX12_is_95 (fX12_is_45 n) x1 x2 x3 x4 x5 1 μ) else (
          fX12_is_94 (fX12_is_45 n) x1 x2 x3 x4 x5 μ)) else (
        fX12_is_94 (fX12_is_45 n) x1 x2 x3 x4 x5 μ))

def fX12_is_28 (μ : Mem) : Option (Int32 × Mem) :=
  av_b2 (fX12_bad (-2) μ) fun r31 μ31 =>
  some (r31, μ31)

def fX12_is (a1 : Int32) (a2 : Int32) (a3 : Int32) (μ : Mem) : Option (Int32 × Mem) :=
  (fX12_isVoter a1 μ).bind fun r2 =>
  if r2 = 0 then (
    fX12_is_28 μ) else (
    (fX12_isLedge a2 μ).bind fun r10 =>
    if r10 = 0 then (
      fX12_is_28 μ) else (
      (fX12_in (Int32.toInt64 a3) 1 20 μ).bind fun r22 =>
      if r22 = 0 then (
        fX12_is_28 μ) else (
        (fX12_layHand μ).bind fun μ39 =>
        fX12_is_45 av_big a1 a2 a3 0 0 μ39)))

def fX12_fraction_6 : Nat → Int64 → Int64 → Int64 → Int64 → Mem → Option (Mem)
  | 0 => fun _ _ _ _ _ => none
  | n + 1 => fun x1 x3 x5 x7 μ =>
    if (lg_cmp x7 0) = 0 then (
      if x5 = 0 then none else (
      (some (sL μ 98 4 (x1 / x5))).bind fun μ36 =>
      if x5 = 0 then none else (
      (some (sL μ36 98 5 (x3 / x5))).bind fun μ44 =>
      some μ44))) else (
      if x7 = 0 then none else (
      (some (x5 - x5 / x7 * x7)).bind fun x9_18 =>
      fX12_fraction_6 n x1 x3 x7 x9_18 μ))

def fX12_fraction (a1 : Int64) (a3 : Int64) (μ : Mem) : Option (Mem) :=
  fX12_fraction_6 av_big a1 a3 a1 a3 μ

def fX12_sneeze_155 (k61 : Int32 → Int32 → Int64 → Int64 → Int32 → Mem → Option (Int32 × Mem)) (x1 : Int32) (x2 : Int32) (x5 : Int64) (x7 : Int32) (y0 : Int64) (y1 : Int64) (μ : Mem) : Option (Int32 × Mem) :=
  (some (y0 + y1)).bind fun x3_156 =>
  (some (x7 + 1)).bind fun x7_157 =>
  k61 x1 x2 x3_156 x5 x7_157 μ

def fX12_sneeze_134 (k61 : Int32 → Int32 → Int64 → Int64 → Int32 → Mem → Option (Int32 × Mem)) (k82 : Int32 → Int32 → Int64 → Int64 → Int32 → Int64 → Int32 → Mem → Option (Int32 × Mem)) (x1 : Int32) (x2 : Int32) (x3 : Int64) (x5 : Int64) (x7 : Int32) (x8 : Int64) (x10 : Int32) (μ : Mem) : Option (Int32 × Mem) :=
  (some (x10 + 1)).bind fun x10_134 =>
  k82 x1 x2 x3 x5 x7 x8 x10_134 μ

def fX12_sneeze_113 (k61 : Int32 → Int32 → Int64 → Int64 → Int32 → Mem → Option (Int32 × Mem)) (k82 : Int32 → Int32 → Int64 → Int64 → Int32 → Int64 → Int32 → Mem → Option (Int32 × Mem)) (x1 : Int32) (x2 : Int32) (x3 : Int64) (x5 : Int64) (x7 : Int32) (x10 : Int32) (y0 : Int64) (y1 : Int64) (μ : Mem) : Option (Int32 × Mem) :=
  (some (y0 * y1)).bind fun x8_114 =>
  (fX12_has x7 x10 μ).bind fun r120 =>
  if r120 = 0 then (
    fX12_sneeze_134 k61 k82 x1 x2 x3 x5 x7 x8_114 x10 μ) else (
    av_b2 (fX12_goVote x10 μ) fun r129 μ129 =>
    fX12_sneeze_134 k61 k82 x1 x2 x3 x5 x7 x8_114 x10 μ129)

def fX12_sneeze_82 (k61 : Int32 → Int32 → Int64 → Int64 → Int32 → Mem → Option (Int32 × Mem)) : Nat → Int32 → Int32 → Int64 → Int64 → Int32 → Int64 → Int32 → Mem → Option (Int32 × Mem)
  | 0 => fun _ _ _ _ _ _ _ _ => none
  | n + 1 => fun x1 x2 x3 x5 x7 x8 x10 μ =>
    (fX12_voters μ).bind fun r85 =>
    if r85 ≤ x10 then (
      if (gF μ 98 9) = x1 then (
        fX12_sneeze_155 k61 x1 x2 x5 x7 x3 x8 μ) else (
        fX12_sneeze_155 k61 x1 x2 x5 x7 x3 0 μ)) else (
      (fX12_has x7 x10 μ).bind fun r97 =>
      if r97 = 0 then (
        fX12_sneeze_113 k61 (fX12_sneeze_82 k61 n) x1 x2 x3 x5 x7 x10 x8 (Int32.toInt64 x2) μ) else (
        fX12_sneeze_113 k61 (fX12_sneeze_82 k61 n) x1 x2 x3 x5 x7 x10 x8 (Int32.toInt64 (10 - x2)) μ))

def fX12_sneeze_61 : Nat → Int32 → Int32 → Int64 → Int64 → Int32 → Mem → Option (Int32 × Mem)
  | 0 => fun _ _ _ _ _ _ => none
  | n + 1 => fun x1 x2 x3 x5 x7 μ =>
    (fX12_voters μ).bind fun r65 =>
    if (1 <<< (r65 &&& 31)) ≤ x7 then (
      (fX12_fraction x3 x5 μ).bind fun μ167 =>
      some (1, μ167)) else (
      (fX12_layHand μ).bind fun μ76 =>
      fX12_sneeze_82 (fX12_sneeze_61 n) av_big x1 x2 x3 x5 x7 1 0 μ76)

def fX12_sneeze_35 : Nat → Int32 → Int32 → Int64 → Int64 → Int32 → Mem → Option (Int32 × Mem)
  | 0 => fun _ _ _ _ _ _ => none
  | n + 1 => fun x1 x2 x3 x5 x7 μ =>
    (fX12_voters μ).bind fun r38 =>
    if r38 ≤ x7 then (
      fX12_sneeze_61 av_big x1 x2 x3 x5 0 μ) else (
      (some (x5 * 10)).bind fun x5_50 =>
      (some (x7 + 1)).bind fun x7_52 =>
      fX12_sneeze_35 n x1 x2 x3 x5_50 x7_52 μ)

def fX12_sneeze_20 (μ : Mem) : Option (Int32 × Mem) :=
  av_b2 (fX12_bad (-2) μ) fun r23 μ23 =>
  some (r23, μ23)

def fX12_sneeze (a1 : Int32) (a2 : Int32) (μ : Mem) : Option (Int32 × Mem) :=
  (fX12_isLedge a1 μ).bind fun r2 =>
  if r2 = 0 then (
    fX12_sneeze_20 μ) else (
    (fX12_in (Int32.toInt64 a2) 0 10 μ).bind fun r14 =>
    if r14 = 0 then (
      fX12_sneeze_20 μ) else (
      fX12_sneeze_35 av_big a1 a2 0 1 0 μ))

def fX12_februaries_110 : Nat → Int32 → Int32 → Mem → Option (Int32 × Mem)
  | 0 => fun _ _ _ => none
  | n + 1 => fun x5 x6 μ =>
    (fX12_ledges μ).bind fun r113 =>
    if r113 ≤ x6 then (
      some (x5, μ)) else (
      (fX12_load x6 μ).bind fun r124 =>
      (some (x5 + r124)).bind fun x5_128 =>
      (some (x6 + 1)).bind fun x6_130 =>
      fX12_februaries_110 n x5_128 x6_130 μ)

def fX12_februaries_60 : Nat → Int32 → Int64 → Int32 → Mem → Option (Int32 × Mem)
  | 0 => fun _ _ _ _ => none
  | n + 1 => fun x2 x3 x5 μ =>
    if x2 ≤ x5 then (
      fX12_februaries_110 av_big 0 0 μ) else (
      (some (((x3 * 1103515245) + 12345) - ((x3 * 1103515245) + 12345) / 2147483648 * 2147483648)).bind fun x3_79 =>
      (fX12_voters μ).bind fun r87 =>
      if (Int32.toInt64 r87) = 0 then none else (
      av_b2 (fX12_goVote (Int64.toInt32 ((x3_79 / 65536) - (x3_79 / 65536) / (Int32.toInt64 r87) * (Int32.toInt64 r87))) μ) fun r93 μ93 =>
      (some (x5 + 1)).bind fun x5_98 =>
      fX12_februaries_60 n x2 x3_79 x5_98 μ93))

def fX12_februaries_45 (μ : Mem) : Option (Int32 × Mem) :=
  av_b2 (fX12_no μ) fun r46 μ46 =>
  some (r46, μ46)

def fX12_februaries_24 (μ : Mem) : Option (Int32 × Mem) :=
  av_b2 (fX12_bad (-2) μ) fun r27 μ27 =>
  some (r27, μ27)

def fX12_februaries (a1 : Int32) (a2 : Int32) (μ : Mem) : Option (Int32 × Mem) :=
  (fX12_in (Int32.toInt64 a1) 0 999999 μ).bind fun r6 =>
  if r6 = 0 then (
    fX12_februaries_24 μ) else (
    (fX12_in (Int32.toInt64 a2) 0 60 μ).bind fun r18 =>
    if r18 = 0 then (
      fX12_februaries_24 μ) else (
      (fX12_voters μ).bind fun r32 =>
      if r32 = 0 then (
        fX12_februaries_45 μ) else (
        (fX12_ledges μ).bind fun r39 =>
        if r39 = 0 then (
          fX12_februaries_45 μ) else (
          (some (Int32.toInt64 a1)).bind fun x3_52 =>
          (fX12_layHand μ).bind fun μ54 =>
          fX12_februaries_60 av_big a2 x3_52 0 μ54))))

def fX12_type (a1 : Int32) (μ : Mem) : Option (Int32 × Mem) :=
  (fX12_in (Int32.toInt64 a1) 0 127 μ).bind fun r6 =>
  if r6 = 0 then (
    av_b2 (fX12_bad (-2) μ) fun r15 μ15 =>
    some (r15, μ15)) else (
    if (gF μ 98 22) = 150 then (
      av_b2 (fX12_full μ) fun r30 μ30 =>
      some (r30, μ30)) else (
      (wr μ 111 (gF μ 98 22) a1).bind fun μ43 =>
      (some (sF μ43 98 22 ((gF μ43 98 22) + 1))).bind fun μ51 =>
      some (gF μ51 98 22, μ51)))

def fX12_clear (μ : Mem) : Option (Int32 × Mem) :=
  (some (gF μ 98 22)).bind fun x1_4 =>
  (some (sF μ 98 22 0)).bind fun μ7 =>
  some (x1_4, μ7)

def fX12_isSmall (a0 : Int32) (μ : Mem) : Option (Int32) :=
  (fX12_in (Int32.toInt64 a0) 97 122 μ).bind fun r8 =>
  (av_z r8).bind fun z11 =>
  some z11

def fX12_isFigure (a0 : Int32) (μ : Mem) : Option (Int32) :=
  (fX12_in (Int32.toInt64 a0) 48 57 μ).bind fun r8 =>
  (av_z r8).bind fun z11 =>
  some z11

def fX12_lookAt_299 (y1 : Int32) (μ : Mem) : Option (Mem) :=
  (some (sF μ 98 25 y1)).bind fun μ299 =>
  some μ299

def fX12_lookAt_295 (μ : Mem) : Option (Mem) :=
  fX12_lookAt_299 (gF μ 98 25) μ

def fX12_lookAt_274 (μ : Mem) : Option (Mem) :=
  if (gF μ 98 25) = 2 then (
    if (gF μ 98 24) ≤ 2 then (
      fX12_lookAt_295 μ) else (
      fX12_lookAt_299 4 μ)) else (
    fX12_lookAt_295 μ)

def fX12_lookAt_218 : Nat → Int32 → Mem → Option (Mem)
  | 0 => fun _ _ => none
  | n + 1 => fun x4 μ =>
    if (gF μ 98 24) ≤ x4 then (
      fX12_lookAt_274 μ) else (
      if (2 : Int32) ≤ x4 then (
        fX12_lookAt_274 μ) else (
        if (gF μ 98 25) = 2 then (
          (rd μ 111 ((gF μ 98 23) + x4)).bind fun r260 =>
          (some (sF μ 98 26 (((10 * (gF μ 98 26)) + r260) - 48))).bind fun μ265 =>
          (some (x4 + 1)).bind fun x4_268 =>
          fX12_lookAt_218 n x4_268 μ265) else (
          fX12_lookAt_274 μ)))

def fX12_lookAt_215 (μ : Mem) : Option (Mem) :=
  fX12_lookAt_218 av_big 0 μ

def fX12_lookAt_208 (k136 : Int32 → Mem → Option (Mem)) (x3 : Int32) (y1 : Int32) (y2 : Int32) (μ : Mem) : Option (Mem) :=
  (some (sF μ 98 24 (y1 + y2))).bind fun μ209 =>
  k136 x3 μ209

def fX12_lookAt_193 (k136 : Int32 → Mem → Option (Mem)) (y0 : Int32) (μ : Mem) : Option (Mem) :=
  if y0 = 0 then (
    fX12_lookAt_208 k136 y0 (gF μ 98 24) 0 μ) else (
    fX12_lookAt_208 k136 y0 (gF μ 98 24) 1 μ)

def fX12_lookAt_136 : Nat → Int32 → Mem → Option (Mem)
  | 0 => fun _ _ => none
  | n + 1 => fun x3 μ =>
    if x3 = 0 then (
      fX12_lookAt_215 μ) else (
      if (gF μ 98 22) ≤ (gF μ 98 23) + (gF μ 98 24) then (
        fX12_lookAt_215 μ) else (
        (rd μ 111 ((gF μ 98 23) + (gF μ 98 24))).bind fun r169 =>
        if (gF μ 98 25) = 1 then (
          (fX12_isSmall r169 μ).bind fun r182 =>
          fX12_lookAt_193 (fX12_lookAt_136 n) r182 μ) else (
          (fX12_isFigure r169 μ).bind fun r190 =>
          fX12_lookAt_193 (fX12_lookAt_136 n) r190 μ)))

def fX12_lookAt_135 (y0 : Int32) (μ : Mem) : Option (Mem) :=
  fX12_lookAt_136 av_big y0 μ

def fX12_lookAt_114 (y1 : Int32) (μ : Mem) : Option (Mem) :=
  (some (sF μ 98 25 y1)).bind fun μ114 =>
  (some (sF μ114 98 24 1)).bind fun μ119 =>
  if (3 : Int32) ≤ (gF μ119 98 25) then (
    fX12_lookAt_135 0 μ119) else (
    fX12_lookAt_135 1 μ119)

def fX12_lookAt_43 (μ : Mem) : Option (Mem) :=
  (some (sF μ 98 24 0)).bind fun μ45 =>
  (some (sF μ45 98 25 0)).bind fun μ50 =>
  (some (sF μ50 98 26 0)).bind fun μ55 =>
  if (gF μ55 98 23) = (gF μ55 98 22) then (
    some μ55) else (
    (rd μ55 111 (gF μ55 98 23)).bind fun r78 =>
    (fX12_isSmall r78 μ55).bind fun r82 =>
    if r82 = 0 then (
      (fX12_isFigure r78 μ55).bind fun r93 =>
      if r93 = 0 then (
        if r78 = 59 then (
          fX12_lookAt_114 3 μ55) else (
          fX12_lookAt_114 4 μ55)) else (
        fX12_lookAt_114 2 μ55)) else (
      fX12_lookAt_114 1 μ55))

def fX12_lookAt_5 : Nat → Mem → Option (Mem)
  | 0 => fun _ => none
  | n + 1 => fun μ =>
    if (gF μ 98 22) ≤ (gF μ 98 23) then (
      fX12_lookAt_43 μ) else (
      (rd μ 111 (gF μ 98 23)).bind fun r24 =>
      if r24 = 32 then (
        (some (sF μ 98 23 ((gF μ 98 23) + 1))).bind fun μ37 =>
        fX12_lookAt_5 n  μ37) else (
        fX12_lookAt_43 μ))

def fX12_lookAt (a1 : Int32) (μ : Mem) : Option (Mem) :=
  (some (sF μ 98 23 a1)).bind fun μ2 =>
  fX12_lookAt_5 av_big μ2

def fX12_goBehind (μ : Mem) : Option (Mem) :=
  (fX12_lookAt ((gF μ 98 23) + (gF μ 98 24)) μ).bind fun μ10 =>
  some μ10

def fX12_isWord_154 (x9 : Int32) (μ : Mem) : Option (Int32) :=
  (av_z x9).bind fun z156 =>
  some z156

def fX12_isWord_146 (k26 : Int32 → Int32 → Int32 → Int32 → Int32 → Int32 → Int32 → Int32 → Int32 → Int32 → Mem → Option (Int32)) (x1 : Int32) (x2 : Int32) (x3 : Int32) (x4 : Int32) (x5 : Int32) (x6 : Int32) (x7 : Int32) (x8 : Int32) (x10 : Int32) (y0 : Int32) (μ : Mem) : Option (Int32) :=
  (some (x10 + 1)).bind fun x10_148 =>
  k26 x1 x2 x3 x4 x5 x6 x7 x8 y0 x10_148 μ

def fX12_isWord_122 (k26 : Int32 → Int32 → Int32 → Int32 → Int32 → Int32 → Int32 → Int32 → Int32 → Int32 → Mem → Option (Int32)) (x1 : Int32) (x2 : Int32) (x3 : Int32) (x4 : Int32) (x5 : Int32) (x6 : Int32) (x7 : Int32) (x8 : Int32) (x10 : Int32) (y0 : Int32) (μ : Mem) : Option (Int32) :=
  (rd μ 111 ((gF μ 98 23) + x10)).bind fun r135 =>
  if r135 = y0 then (
    fX12_isWord_146 k26 x1 x2 x3 x4 x5 x6 x7 x8 x10 1 μ) else (
    fX12_isWord_146 k26 x1 x2 x3 x4 x5 x6 x7 x8 x10 0 μ)

def fX12_isWord_26 : Nat → Int32 → Int32 → Int32 → Int32 → Int32 → Int32 → Int32 → Int32 → Int32 → Int32 → Mem → Option (Int32)
  | 0 => fun _ _ _ _ _ _ _ _ _ _ _ => none
  | n + 1 => fun x1 x2 x3 x4 x5 x6 x7 x8 x9 x10 μ =>
    if x1 ≤ x10 then (
      fX12_isWord_154 x9 μ) else (
      if x9 = 0 then (
        fX12_isWord_154 x9 μ) else (
        if x10 = 0 then (
          fX12_isWord_122 (fX12_isWord_26 n) x1 x2 x3 x4 x5 x6 x7 x8 x10 x2 μ) else (
          if x10 = 1 then (
            fX12_isWord_122 (fX12_isWord_26 n) x1 x2 x3 x4 x5 x6 x7 x8 x10 x3 μ) else (
            if x10 = 2 then (
              fX12_isWord_122 (fX12_isWord_26 n) x1 x2 x3 x4 x5 x6 x7 x8 x10 x4 μ) else (
              if x10 = 3 then (
                fX12_isWord_122 (fX12_isWord_26 n) x1 x2 x3 x4 x5 x6 x7 x8 x10 x5 μ) else (
                if x10 = 4 then (
                  fX12_isWord_122 (fX12_isWord_26 n) x1 x2 x3 x4 x5 x6 x7 x8 x10 x6 μ) else (
                  if x10 = 5 then (
                    fX12_isWord_122 (fX12_isWord_26 n) x1 x2 x3 x4 x5 x6 x7 x8 x10 x7 μ) else (
                    if x10 = 6 then (
                      fX12_isWord_122 (fX12_isWord_26 n) x1 x2 x3 x4 x5 x6 x7 x8 x10 (x8 / 128) μ) else (
                      fX12_isWord_122 (fX12_isWord_26 n) x1 x2 x3 x4 x5 x6 x7 x8 x10 (x8 - x8 / 128 * 128) μ)))))))))

def fX12_isWord_21 (x1 : Int32) (x2 : Int32) (x3 : Int32) (x4 : Int32) (x5 : Int32) (x6 : Int32) (x7 : Int32) (x8 : Int32) (y0 : Int32) (μ : Mem) : Option (Int32) :=
  fX12_isWord_26 av_big x1 x2 x3 x4 x5 x6 x7 x8 y0 0 μ

def fX12_isWord_20 (x1 : Int32) (x2 : Int32) (x3 : Int32) (x4 : Int32) (x5 : Int32) (x6 : Int32) (x7 : Int32) (x8 : Int32) (μ : Mem) : Option (Int32) :=
  fX12_isWord_21 x1 x2 x3 x4 x5 x6 x7 x8 0 μ

def fX12_isWord (a1 : Int32) (a2 : Int32) (a3 : Int32) (a4 : Int32) (a5 : Int32) (a6 : Int32) (a7 : Int32) (a8 : Int32) (μ : Mem) : Option (Int32) :=
  if (gF μ 98 25) = 1 then (
    if (gF μ 98 24) = a1 then (
      fX12_isWord_21 a1 a2 a3 a4 a5 a6 a7 a8 1 μ) else (
      fX12_isWord_20 a1 a2 a3 a4 a5 a6 a7 a8 μ)) else (
    fX12_isWord_20 a1 a2 a3 a4 a5 a6 a7 a8 μ)

def fX12_takes_23 (μ : Mem) : Option (Int32 × Mem) :=
  some (0, μ)

def fX12_takes (a1 : Int32) (a2 : Int32) (a3 : Int32) (μ : Mem) : Option (Int32 × Mem) :=
  if (gF μ 98 25) = 2 then (
    (fX12_in (Int32.toInt64 (gF μ 98 26)) (Int32.toInt64 a2) (Int32.toInt64 a3) μ).bind fun r17 =>
    if r17 = 0 then (
      fX12_takes_23 μ) else (
      (wr μ 113 a1 (gF μ 98 26)).bind fun μ34 =>
      (fX12_goBehind μ34).bind fun μ36 =>
      some (1, μ36))) else (
    fX12_takes_23 μ)

def fX12_takesLedge_92 (y0 : Nat) (y1 : Int32) (y2 : Int32) (y3 : Int32) (μ : Mem) : Option (Int32 × Mem) :=
  (fX12_layLedge y0 y1 y2 y3 μ).bind fun μ92 =>
  some (1, μ92)

def fX12_takesLedge_62 (x1 : Int32) (μ : Mem) : Option (Int32 × Mem) :=
  (rd μ 113 0).bind fun r71 =>
  (rd μ 113 1).bind fun r77 =>
  if x1 = 0 then (
    fX12_takesLedge_92 112 r71 r77 (-1) μ) else (
    (rd μ 113 2).bind fun r87 =>
    fX12_takesLedge_92 112 r71 r77 r87 μ)

def fX12_takesLedge_60 (μ : Mem) : Option (Int32 × Mem) :=
  some (0, μ)

def fX12_takesLedge (a1 : Int32) (μ : Mem) : Option (Int32 × Mem) :=
  (rd μ 112 0).bind fun r5 =>
  if r5 = 8 then (
    some (0, μ)) else (
    (fX12_goBehind μ).bind fun μ14 =>
    av_b2 (fX12_takes 0 1 60 μ14) fun r22 μ22 =>
    if r22 = 0 then (
      fX12_takesLedge_60 μ22) else (
      av_b2 (fX12_takes 1 0 30 μ22) fun r33 μ33 =>
      if r33 = 0 then (
        fX12_takesLedge_60 μ33) else (
        if a1 = 0 then (
          fX12_takesLedge_62 a1 μ33) else (
          (rd μ33 112 0).bind fun r51 =>
          av_b2 (fX12_takes 2 0 (r51 - 1) μ33) fun r54 μ54 =>
          if r54 = 0 then (
            fX12_takesLedge_60 μ54) else (
            fX12_takesLedge_62 a1 μ54)))))

def fX12_takesVoter_55 (μ : Mem) : Option (Int32 × Mem) :=
  some (0, μ)

def fX12_takesVoter (μ : Mem) : Option (Int32 × Mem) :=
  (rd μ 112 1).bind fun r5 =>
  if r5 = 6 then (
    some (0, μ)) else (
    (fX12_goBehind μ).bind fun μ14 =>
    av_b2 (fX12_takes 0 0 5 μ14) fun r21 μ21 =>
    if r21 = 0 then (
      fX12_takesVoter_55 μ21) else (
      (rd μ21 112 0).bind fun r35 =>
      av_b2 (fX12_takes 1 0 (r35 - 1) μ21) fun r38 μ38 =>
      if r38 = 0 then (
        fX12_takesVoter_55 μ38) else (
        av_b2 (fX12_takes 2 1 9 μ38) fun r49 μ49 =>
        if r49 = 0 then (
          fX12_takesVoter_55 μ49) else (
          (rd μ49 113 0).bind fun r66 =>
          (rd μ49 113 1).bind fun r72 =>
          (rd μ49 113 2).bind fun r78 =>
          (fX12_layVoter 112 r66 r72 r78 μ49).bind fun μ79 =>
          some (1, μ79)))))

def fX12_takesItem_83 (μ : Mem) : Option (Int32 × Mem) :=
  some (0, μ)

def fX12_takesItem (μ : Mem) : Option (Int32 × Mem) :=
  (fX12_isWord 5 108 101 100 103 101 0 0 μ).bind fun r14 =>
  if r14 = 0 then (
    (fX12_isWord 5 98 101 108 111 119 0 0 μ).bind fun r40 =>
    if r40 = 0 then (
      (fX12_isWord 5 118 111 116 101 114 0 0 μ).bind fun r66 =>
      if r66 = 0 then (
        fX12_takesItem_83 μ) else (
        av_b2 (fX12_takesVoter μ) fun r73 μ73 =>
        if r73 = 0 then (
          fX12_takesItem_83 μ73) else (
          some (1, μ73)))) else (
      av_b2 (fX12_takesLedge 1 μ) fun r48 μ48 =>
      (av_z r48).bind fun z51 =>
      some (z51, μ48))) else (
    av_b2 (fX12_takesLedge 0 μ) fun r22 μ22 =>
    (av_z r22).bind fun z25 =>
    some (z25, μ22))

def fX12_read_112 : Nat → Int32 → Int32 → Mem → Option (Int32 × Mem)
  | 0 => fun _ _ _ => none
  | n + 1 => fun x1 x2 μ =>
    if (69 : Int32) ≤ x2 then (
      some (x1, μ)) else (
      (rd μ 112 x2).bind fun r128 =>
      (wr μ 99 x2 r128).bind fun μ129 =>
      (some (x2 + 1)).bind fun x2_130 =>
      fX12_read_112 n x1 x2_130 μ129)

def fX12_read_92 (μ : Mem) : Option (Int32 × Mem) :=
  some ((-10) - (gF μ 98 23), μ)

def fX12_read_70 : Nat → Int32 → Mem → Option (Int32 × Mem)
  | 0 => fun _ _ => none
  | n + 1 => fun x1 μ =>
    if (gF μ 98 25) = 0 then (
      fX12_read_112 av_big x1 0 μ) else (
      av_b2 (fX12_takesItem μ) fun r78 μ78 =>
      if r78 = 0 then (
        fX12_read_92 μ78) else (
        if (gF μ78 98 25) = 3 then (
          (fX12_goBehind μ78).bind fun μ101 =>
          (some (x1 + 1)).bind fun x1_104 =>
          fX12_read_70 n x1_104 μ101) else (
          fX12_read_92 μ78)))

def fX12_read (μ : Mem) : Option (Int32 × Mem) :=
  (fX12_lookAt 0 μ).bind fun μ2 =>
  (fX12_isWord 8 109 111 117 110 116 97 13550 μ2).bind fun r23 =>
  if r23 = 0 then (
    some ((-10) - (gF μ2 98 23), μ2)) else (
    (fX12_goBehind μ2).bind fun μ38 =>
    if (gF μ38 98 25) = 3 then (
      (fX12_goBehind μ38).bind fun μ58 =>
      (fX12_begin 112 μ58).bind fun μ65 =>
      fX12_read_70 av_big 1 μ65) else (
      some ((-10) - (gF μ38 98 23), μ38)))

def fX12_part (a1 : Int32) (μ : Mem) : Option (Int64 × Mem) :=
  if a1 = 0 then (
    some (gL μ 98 4, μ)) else (
    if a1 = 1 then (
      some (gL μ 98 5, μ)) else (
      av_b2 (fX12_bad (-2) μ) fun r26 μ26 =>
      some (Int32.toInt64 r26, μ26)))

def fX12_image_19 : Nat → Int32 → Int32 → Mem → Option (Int32 × Mem)
  | 0 => fun _ _ _ => none
  | n + 1 => fun x1 x2 μ =>
    if (221 : Int32) ≤ x2 then (
      (wrz μ 101 x1 1).bind fun μ56 =>
      some (1, μ56)) else (
      (rd μ 99 x2).bind fun r42 =>
      (wr μ 100 ((221 * x1) + x2) r42).bind fun μ43 =>
      (some (x2 + 1)).bind fun x2_44 =>
      fX12_image_19 n x1 x2_44 μ43)

def fX12_image (a1 : Int32) (μ : Mem) : Option (Int32 × Mem) :=
  (fX12_in (Int32.toInt64 a1) 0 1 μ).bind fun r4 =>
  if r4 = 0 then (
    av_b2 (fX12_bad (-2) μ) fun r13 μ13 =>
    some (r13, μ13)) else (
    fX12_image_19 av_big a1 0 μ)

def fX12_from_33 : Nat → Int32 → Int32 → Mem → Option (Int32 × Mem)
  | 0 => fun _ _ _ => none
  | n + 1 => fun x1 x2 μ =>
    if (221 : Int32) ≤ x2 then (
      some (1, μ)) else (
      (rd μ 100 ((221 * x1) + x2)).bind fun r56 =>
      (wr μ 99 x2 r56).bind fun μ57 =>
      (some (x2 + 1)).bind fun x2_58 =>
      fX12_from_33 n x1 x2_58 μ57)

def fX12_from (a1 : Int32) (μ : Mem) : Option (Int32 × Mem) :=
  (fX12_in (Int32.toInt64 a1) 0 1 μ).bind fun r4 =>
  if r4 = 0 then (
    av_b2 (fX12_bad (-2) μ) fun r13 μ13 =>
    some (r13, μ13)) else (
    (rd μ 101 a1).bind fun r22 =>
    if r22 = 0 then (
      av_b2 (fX12_no μ) fun r27 μ27 =>
      some (r27, μ27)) else (
      fX12_from_33 av_big a1 0 μ))

def fX12_status (a1 : Int32) (μ : Mem) : Option (Int32 × Mem) :=
  (fX12_in (Int32.toInt64 a1) 0 2 μ).bind fun r6 =>
  if r6 = 0 then (
    av_b2 (fX12_bad (-1) μ) fun r23 μ23 =>
    some (r23, μ23)) else (
    (rd μ 102 a1).bind fun r17 =>
    some (r17, μ))

def fX12_allLoads_4 : Nat → Int32 → Int32 → Mem → Option (Int32)
  | 0 => fun _ _ _ => none
  | n + 1 => fun x1 x2 μ =>
    (fX12_ledges μ).bind fun r6 =>
    if r6 ≤ x2 then (
      some x1) else (
      (fX12_get x2 1 μ).bind fun r16 =>
      (fX12_get x2 2 μ).bind fun r22 =>
      (some (x1 + (r16 + r22))).bind fun x1_27 =>
      (some (x2 + 1)).bind fun x2_28 =>
      fX12_allLoads_4 n x1_27 x2_28 μ)

def fX12_allLoads (μ : Mem) : Option (Int32) :=
  fX12_allLoads_4 av_big 0 0 μ

def fX12_counted (a1 : Int32) (μ : Mem) : Option (Int32) :=
  if a1 = 0 then (
    (fX12_ledges μ).bind fun r41 =>
    some r41) else (
    if a1 = 1 then (
      (fX12_voters μ).bind fun r46 =>
      some r46) else (
      if a1 = 2 then (
        (rd μ 99 2).bind fun r55 =>
        some r55) else (
        if a1 = 3 then (
          (fX12_allLoads μ).bind fun r58 =>
          some r58) else (
          if a1 = 4 then (
            (rd μ 99 3).bind fun r67 =>
            some r67) else (
            if a1 = 5 then (
              (rd μ 99 4).bind fun r74 =>
              some r74) else (
              some (gF μ 98 22)))))))

def fX12_count (a1 : Int32) (μ : Mem) : Option (Int32 × Mem) :=
  (fX12_in (Int32.toInt64 a1) 0 6 μ).bind fun r6 =>
  if r6 = 0 then (
    av_b2 (fX12_bad (-2) μ) fun r23 μ23 =>
    some (r23, μ23)) else (
    (fX12_counted a1 μ).bind fun r14 =>
    some (r14, μ))

def fX12_sums_6 : Nat → Int32 → Int32 → Int64 → Int32 → Mem → Option (Int64)
  | 0 => fun _ _ _ _ _ => none
  | n + 1 => fun x3 x4 x5 x7 μ =>
    if x4 ≤ x7 then (
      some x5) else (
      (rd μ 99 (x3 + x7)).bind fun r27 =>
      (some ((31 * x5) + (Int32.toInt64 r27))).bind fun x5_30 =>
      (some (x7 + 1)).bind fun x7_32 =>
      fX12_sums_6 n x3 x4 x5_30 x7_32 μ)

def fX12_sums (a1 : Int64) (a3 : Int32) (a4 : Int32) (μ : Mem) : Option (Int64) :=
  fX12_sums_6 av_big a3 a4 a1 0 μ

def fX12_digest_6 : Nat → Int64 → Int32 → Mem → Option (Int64)
  | 0 => fun _ _ _ => none
  | n + 1 => fun x1 x3 μ =>
    if (7 : Int32) ≤ x3 then (
      (fX12_sums x1 5 2 μ).bind fun r35 =>
      (fX12_ledges μ).bind fun r45 =>
      (fX12_sums r35 7 (4 * r45) μ).bind fun r49 =>
      (fX12_voters μ).bind fun r59 =>
      (fX12_sums r49 39 (3 * r59) μ).bind fun r63 =>
      (rd μ 99 3).bind fun r77 =>
      (fX12_sums r63 57 (2 * r77) μ).bind fun r79 =>
      some ((31 * ((31 * r79) + (gL μ 98 4))) + (gL μ 98 5))) else (
      (fX12_counted x3 μ).bind fun r19 =>
      (some ((31 * x1) + (Int32.toInt64 r19))).bind fun x1_24 =>
      (some (x3 + 1)).bind fun x3_25 =>
      fX12_digest_6 n x1_24 x3_25 μ)

def fX12_digest (μ : Mem) : Option (Int64) :=
  fX12_digest_6 av_big 1151 0 μ
