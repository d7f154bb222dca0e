def f_J6_bitCount_0f7a4 (a0 : Int32) : Option Int32 :=
  bnd ((a0 - ((ushr a0 1) &&& 1431655765)) : Int32) (fun v0_1 =>
  bnd (((v0_1 &&& 858993459) + ((ushr v0_1 2) &&& 858993459)) : Int32) (fun v0_2 =>
  bnd (((v0_2 + (ushr v0_2 4)) &&& 252645135) : Int32) (fun v0_3 =>
  bnd ((v0_3 + (ushr v0_3 8)) : Int32) (fun v0_4 =>
  bnd ((v0_4 + (ushr v0_4 16)) : Int32) (fun v0_5 =>
  some (v0_5 &&& 63))))))
def f_J9_floorMod_7cf53 (a0 : Int32) (a1 : Int32) : Option Int32 :=
  chk (decide ((a1 : Int32) ≠ 0)) (
  bnd ((irem a0 a1) : Int32) (fun v2_1 =>
  if 0 ≤ (a0 ^^^ a1) then
  some v2_1
  else
  if v2_1 = 0 then
  some v2_1
  else
  some (v2_1 + a1)))
def f_X6_identity_4 (v0_1 : Int32) : Nat → Int64 → Int32 → Option Int64
  | 0, _, _ => none
  | n + 1, v1_2, v3_3 =>
    if v0_1 ≤ v3_3 then
    some v1_2
    else
    bnd ((v1_2 ||| (lshl (Int32.toInt64 v3_3) (36 - (4 * v3_3)))) : Int64) (fun v1_4 =>
    bnd (v3_3 + 1 : Int32) (fun v3_5 =>
    f_X6_identity_4 v0_1 n v1_4 v3_5))
def f_X6_identity (a0 : Int32) : Option Int64 :=
  f_X6_identity_4 a0 FU 0 0
def f_X6_image (a0 : Int64) (a2 : Int32) : Option Int32 :=
  some ((Int64.toInt32 (lushr a0 (36 - (4 * a2)))) &&& 15)
def f_X6_compose_16 (v0_2 : Int64) (v2_3 : Int64) (v7_5 : Int32) : Nat → Int64 → Int32 → Option Int64
  | 0, _, _ => none
  | n + 1, v5_4, v8_6 =>
    if v8_6 ≤ v7_5 then
    some v5_4
    else
    bnd (((Int64.toInt32 (lushr v0_2 v8_6)) &&& 15) : Int32) (fun v9_7 =>
    bnd ((v5_4 ||| (lshl ((lushr v2_3 (36 - (4 * v9_7))) &&& 15) v8_6)) : Int64) (fun v5_8 =>
    bnd (v8_6 + (-4) : Int32) (fun v8_9 =>
    f_X6_compose_16 v0_2 v2_3 v7_5 n v5_8 v8_9)))
def f_X6_compose (a0 : Int64) (a2 : Int64) (a4 : Int32) : Option Int64 :=
  bnd ((36 - (4 * a4)) : Int32) (fun v7_1 =>
  f_X6_compose_16 a0 a2 v7_1 FU 0 36)
def f_X6_invert_5 (v0_1 : Int64) (v2_2 : Int32) : Nat → Int64 → Int32 → Option Int64
  | 0, _, _ => none
  | n + 1, v3_3, v5_4 =>
    if v2_2 ≤ v5_4 then
    some v3_3
    else
    bnd (((Int64.toInt32 (lushr v0_1 (36 - (4 * v5_4)))) &&& 15) : Int32) (fun v6_5 =>
    bnd ((v3_3 ||| (lshl (Int32.toInt64 v5_4) (36 - (4 * v6_5)))) : Int64) (fun v3_6 =>
    bnd (v5_4 + 1 : Int32) (fun v5_7 =>
    f_X6_invert_5 v0_1 v2_2 n v3_6 v5_7)))
def f_X6_invert (a0 : Int64) (a2 : Int32) : Option Int64 :=
  f_X6_invert_5 a0 a2 FU 0 0
def f_X6_commutatorOf (a0 : Int64) (a2 : Int64) (a4 : Int32) : Option Int64 :=
  Option.bind (f_X6_compose a2 a0 a4) (fun q_1 =>
  Option.bind (f_X6_invert q_1 a4) (fun q_2 =>
  Option.bind (f_X6_compose a0 a2 a4) (fun q_3 =>
  Option.bind (f_X6_compose q_2 q_3 a4) (fun q_4 =>
  some q_4))))
def f_X6_conjugate_6 (v0_1 : Int64) (v2_2 : Int64) (v4_3 : Int32) : Nat → Int64 → Int32 → Option Int64
  | 0, _, _ => none
  | n + 1, v5_4, v7_5 =>
    if v4_3 ≤ v7_5 then
    some v5_4
    else
    Option.bind (f_X6_image v0_1 v7_5) (fun q_6 =>
    Option.bind (f_X6_image v2_2 q_6) (fun q_7 =>
    Option.bind (f_X6_image v2_2 v7_5) (fun q_8 =>
    bnd ((v5_4 ||| (lshl (Int32.toInt64 q_7) (36 - (4 * q_8)))) : Int64) (fun v5_9 =>
    bnd (v7_5 + 1 : Int32) (fun v7_10 =>
    f_X6_conjugate_6 v0_1 v2_2 v4_3 n v5_9 v7_10)))))
def f_X6_conjugate (a0 : Int64) (a2 : Int64) (a4 : Int32) : Option Int64 :=
  f_X6_conjugate_6 a0 a2 a4 FU 0 0
def f_X6_shape_37 (v0_6 : Int64) (v2_7 : Int32) (v3_8 : Int64) (v6_10 : Int32) (k0 : Int32 → Int32 → Option Int64) : Nat → Int32 → Int32 → Int32 → Int32 → Option Int64
  | 0, _, _, _, _ => none
  | n + 1, v5_9, v7_11, v8_12, v9_13 =>
    if v2_7 ≤ v9_13 then
    (k0 v5_9 v7_11)
    else
    if ((shr v5_9 v8_12) &&& 1) = 0 then
    bnd ((v5_9 ||| (shl 1 v8_12)) : Int32) (fun v5_14 =>
    Option.bind (f_X6_image v0_6 v8_12) (fun q_15 =>
    bnd (v7_11 + 1 : Int32) (fun v7_16 =>
    bnd (v9_13 + 1 : Int32) (fun v9_17 =>
    f_X6_shape_37 v0_6 v2_7 v3_8 v6_10 k0 n v5_14 v7_16 q_15 v9_17))))
    else
    (k0 v5_9 v7_11)
def f_X6_shape_8 (v0_1 : Int64) (v2_2 : Int32) : Nat → Int64 → Int32 → Int32 → Option Int64
  | 0, _, _, _ => none
  | n + 1, v3_3, v5_4, v6_5 =>
    if v2_2 ≤ v6_5 then
    some v3_3
    else
    if ((shr v5_4 v6_5) &&& 1) = 0 then
    f_X6_shape_37 v0_1 v2_2 v3_3 v6_5 (fun (v5_18 : Int32) (v7_19 : Int32) =>
    bnd ((v3_3 + (lshl 1 ((4 * v7_19) - 4))) : Int64) (fun v3_20 =>
    bnd (v6_5 + 1 : Int32) (fun v6_21 =>
    f_X6_shape_8 v0_1 v2_2 n v3_20 v5_18 v6_21))) FU v5_4 0 v6_5 0
    else
    bnd (v6_5 + 1 : Int32) (fun v6_22 =>
    f_X6_shape_8 v0_1 v2_2 n v3_3 v5_4 v6_22)
def f_X6_shape (a0 : Int64) (a2 : Int32) : Option Int64 :=
  f_X6_shape_8 a0 a2 FU 0 0 0
def f_X6_commute_3 (v0_1 : Int64) (v2_2 : Int64) (v4_3 : Int32) : Nat → Int32 → Option Bool
  | 0, _ => none
  | n + 1, v5_4 =>
    if v4_3 ≤ v5_4 then
    some true
    else
    Option.bind (f_X6_image v0_1 v5_4) (fun q_5 =>
    Option.bind (f_X6_image v2_2 q_5) (fun q_6 =>
    Option.bind (f_X6_image v2_2 v5_4) (fun q_7 =>
    Option.bind (f_X6_image v0_1 q_7) (fun q_8 =>
    if q_6 = q_8 then
    bnd (v5_4 + 1 : Int32) (fun v5_9 =>
    f_X6_commute_3 v0_1 v2_2 v4_3 n v5_9)
    else
    some false))))
def f_X6_commute (a0 : Int64) (a2 : Int64) (a4 : Int32) : Option Bool :=
  f_X6_commute_3 a0 a2 a4 FU 0
def f_X6_cycles_4 (v0_1 : Int64) : Nat → Int32 → Int32 → Option Int32
  | 0, _, _ => none
  | n + 1, v2_2, v3_3 =>
    if 40 ≤ v3_3 then
    some v2_2
    else
    bnd ((v2_2 + ((Int64.toInt32 (lushr v0_1 v3_3)) &&& 15)) : Int32) (fun v2_4 =>
    bnd (v3_3 + 4 : Int32) (fun v3_5 =>
    f_X6_cycles_4 v0_1 n v2_4 v3_5))
def f_X6_cycles (a0 : Int64) : Option Int32 :=
  f_X6_cycles_4 a0 FU 0 0
def f_X6_isEven (a0 : Int64) (a2 : Int32) : Option Bool :=
  Option.bind (f_X6_shape a0 a2) (fun q_1 =>
  Option.bind (f_X6_cycles q_1) (fun q_2 =>
  if ((a2 - q_2) &&& 1) = 0 then
  some true
  else
  some false))
def f_X6_with (a0 : Int64) (a2 : Int32) (a3 : Int32) : Option Int64 :=
  bnd ((36 - (4 * a2)) : Int32) (fun v4_1 =>
  some ((a0 &&& ((lshl 15 v4_1) ^^^ (-1))) ||| (lshl (Int32.toInt64 a3) v4_1)))
def f_X6_imageOfPower_66 (v0_14 : Int64) (v6_16 : Int32) : Nat → Int32 → Int32 → Option Int32
  | 0, _, _ => none
  | n + 1, v5_15, v7_17 =>
    if v6_16 ≤ v7_17 then
    some v5_15
    else
    Option.bind (f_X6_image v0_14 v5_15) (fun q_18 =>
    bnd (v7_17 + 1 : Int32) (fun v7_19 =>
    f_X6_imageOfPower_66 v0_14 v6_16 n q_18 v7_19))
def f_X6_imageOfPower_13 (v0_2 : Int64) (v2_3 : Int32) (v3_4 : Int32) (k0 : Int32 → Option Int32) : Nat → Int32 → Int32 → Int32 → Option Int32
  | 0, _, _, _ => none
  | n + 1, v4_5, v5_6, v6_7 =>
    if 10 ≤ v6_7 then
    (k0 v4_5)
    else
    if v5_6 = v2_3 then
    (k0 v4_5)
    else
    Option.bind (f_X6_image v0_2 v5_6) (fun q_8 =>
    bnd (v4_5 + 1 : Int32) (fun v4_9 =>
    bnd (v6_7 + 1 : Int32) (fun v6_10 =>
    f_X6_imageOfPower_13 v0_2 v2_3 v3_4 k0 n v4_9 q_8 v6_10)))
def f_X6_imageOfPower (a0 : Int64) (a2 : Int32) (a3 : Int32) : Option Int32 :=
  Option.bind (f_X6_image a0 a2) (fun q_1 =>
  f_X6_imageOfPower_13 a0 a2 a3 (fun (v4_11 : Int32) =>
  bnd ((fun (s0_13 : Int32) =>
  f_X6_imageOfPower_66 a0 s0_13 FU a2 0) : Int32 → Option Int32) (fun j58_12 =>
  if v4_11 ≤ 0 then
  (j58_12 0)
  else
  Option.bind (f_J9_floorMod_7cf53 a3 v4_11) (fun q_12 =>
  (j58_12 q_12)))) FU 1 q_1 0)
def f_X6_staying (a0 : Int64) : Option Int32 :=
  some ((Int64.toInt32 a0) &&& 15)
def f_X6_commonDivisor_7 : Nat → Int32 → Int32 → Int32 → Option Int32
  | 0, _, _, _ => none
  | n + 1, v2_1, v3_2, v4_3 =>
    if 64 ≤ v4_3 then
    some v2_1
    else
    if v3_2 = 0 then
    some v2_1
    else
    chk (decide ((v3_2 : Int32) ≠ 0)) (
    bnd ((irem v2_1 v3_2) : Int32) (fun v5_4 =>
    bnd (v4_3 + 1 : Int32) (fun v4_5 =>
    f_X6_commonDivisor_7 n v3_2 v5_4 v4_5)))
def f_X6_commonDivisor (a0 : Int32) (a1 : Int32) : Option Int32 :=
  f_X6_commonDivisor_7 FU a0 a1 0
def f_X6_period_4 (v0_1 : Int64) : Nat → Int32 → Int32 → Option Int32
  | 0, _, _ => none
  | n + 1, v2_2, v3_3 =>
    if 10 < v3_3 then
    some v2_2
    else
    if (lg_cmp ((lushr v0_1 ((4 * v3_3) - 4)) &&& 15) 0) = 0 then
    bnd (v3_3 + 1 : Int32) (fun v3_4 =>
    f_X6_period_4 v0_1 n v2_2 v3_4)
    else
    Option.bind (f_X6_commonDivisor v2_2 v3_3) (fun q_5 =>
    if q_5 ≤ 0 then
    bnd ((v2_2 * v3_3) : Int32) (fun v2_6 =>
    bnd (v3_3 + 1 : Int32) (fun v3_7 =>
    f_X6_period_4 v0_1 n v2_6 v3_7))
    else
    chk (decide ((q_5 : Int32) ≠ 0)) (
    bnd ((v2_2 * (v3_3 / q_5)) : Int32) (fun v2_8 =>
    bnd (v3_3 + 1 : Int32) (fun v3_9 =>
    f_X6_period_4 v0_1 n v2_8 v3_9))))
def f_X6_period (a0 : Int64) : Option Int32 :=
  f_X6_period_4 a0 FU 1 2
def f_X6_raise_6 (v0_1 : Int64) (v2_2 : Int32) (v3_3 : Int32) : Nat → Int64 → Int32 → Option Int64
  | 0, _, _ => none
  | n + 1, v4_4, v6_5 =>
    if v3_3 ≤ v6_5 then
    some v4_4
    else
    Option.bind (f_X6_imageOfPower v0_1 v6_5 v2_2) (fun q_6 =>
    bnd ((v4_4 ||| (lshl (Int32.toInt64 q_6) (36 - (4 * v6_5)))) : Int64) (fun v4_7 =>
    bnd (v6_5 + 1 : Int32) (fun v6_8 =>
    f_X6_raise_6 v0_1 v2_2 v3_3 n v4_7 v6_8)))
def f_X6_raise (a0 : Int64) (a2 : Int32) (a3 : Int32) : Option Int64 :=
  f_X6_raise_6 a0 a2 a3 FU 0 0
def f_X6_moved_5 (v0_1 : Int64) (v2_2 : Int32) : Nat → Int32 → Int32 → Option Int32
  | 0, _, _ => none
  | n + 1, v3_3, v4_4 =>
    if v2_2 ≤ v4_4 then
    some v3_3
    else
    Option.bind (f_X6_image v0_1 v4_4) (fun q_5 =>
    if q_5 = v4_4 then
    bnd (v4_4 + 1 : Int32) (fun v4_6 =>
    f_X6_moved_5 v0_1 v2_2 n v3_3 v4_6)
    else
    bnd ((v3_3 ||| (shl 1 v4_4)) : Int32) (fun v3_7 =>
    bnd (v4_4 + 1 : Int32) (fun v4_8 =>
    f_X6_moved_5 v0_1 v2_2 n v3_7 v4_8)))
def f_X6_moved (a0 : Int64) (a2 : Int32) : Option Int32 :=
  f_X6_moved_5 a0 a2 FU 0 0
def f_X6_fromNumber_27 (v2_2 : Int32) (k0 : Int64 → Int64 → Option Int64) : Nat → Int64 → Int64 → Int32 → Int32 → Option Int64
  | 0, _, _, _, _ => none
  | n + 1, v3_3, v5_4, v7_5, v8_6 =>
    if v8_6 < 0 then
    (k0 v3_3 v5_4)
    else
    chk (decide ((10 : Int64) ≠ 0)) (
    bnd ((Int64.toInt32 (lrem v5_4 10)) : Int32) (fun v9_7 =>
    chk (decide ((10 : Int64) ≠ 0)) (
    bnd ((v5_4 / 10) : Int64) (fun v5_8 =>
    if v2_2 ≤ v9_7 then
    some (-1)
    else
    if ((shr v7_5 v9_7) &&& 1) = 0 then
    bnd ((v7_5 ||| (shl 1 v9_7)) : Int32) (fun v7_9 =>
    bnd ((v3_3 ||| (lshl (Int32.toInt64 v9_7) (36 - (4 * v8_6)))) : Int64) (fun v3_10 =>
    bnd (v8_6 + (-1) : Int32) (fun v8_11 =>
    f_X6_fromNumber_27 v2_2 k0 n v3_10 v5_8 v7_9 v8_11)))
    else
    some (-1)))))
def f_X6_fromNumber (a0 : Int64) (a2 : Int32) : Option Int64 :=
  if (lg_cmp a0 0) < 0 then
  some (-1)
  else
  if a2 = 0 then
  some (-1)
  else
  bnd ((a2 - 1) : Int32) (fun v8_1 =>
  f_X6_fromNumber_27 a2 (fun (v3_12 : Int64) (v5_13 : Int64) =>
  if (lg_cmp v5_13 0) = 0 then
  some v3_12
  else
  some (-1)) FU 0 a0 0 v8_1)
def f_X6_toNumber_5 (v0_1 : Int64) (v2_2 : Int32) : Nat → Int64 → Int32 → Option Int64
  | 0, _, _ => none
  | n + 1, v3_3, v5_4 =>
    if v2_2 ≤ v5_4 then
    some v3_3
    else
    Option.bind (f_X6_image v0_1 v5_4) (fun q_5 =>
    bnd (((v3_3 * 10) + (Int32.toInt64 q_5)) : Int64) (fun v3_6 =>
    bnd (v5_4 + 1 : Int32) (fun v5_7 =>
    f_X6_toNumber_5 v0_1 v2_2 n v3_6 v5_7)))
def f_X6_toNumber (a0 : Int64) (a2 : Int32) : Option Int64 :=
  f_X6_toNumber_5 a0 a2 FU 0 0
