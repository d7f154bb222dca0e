def f_X2_everyMove (I : MI) (L : ML) : Option Int32 :=
  some ((shl 1 (I 6 1)) - 1)
def f_X2_findOut_44 (L : ML) : Nat → Int32 → MI → Option Mm
  | 0, _, _ => none
  | n + 1, v1_7, I_8 =>
    if 64 ≤ v1_7 then
    some (I_8, L)
    else
    chk (inb v1_7 64) (bnd (up2 I_8 29 (ix v1_7) 0) (fun I_9 =>
    bnd (v1_7 + 1 : Int32) (fun v1_10 =>
    f_X2_findOut_44 L n v1_10 I_9)))
def f_X2_findOut (I : MI) (L : ML) : Option Mm :=
  Option.bind (f_X2_everyMove I L) (fun q_1 =>
  Option.bind (f_X0_gather 8 7 q_1 (I 6 0) I L) (fun q_2 =>
  bnd (up2 q_2.2.1 6 4 q_2.1) (fun I_3 =>
  bnd (up2 I_3 6 11 0) (fun I_4 =>
  Option.bind (f_X1_forget 30 I_4 q_2.2.2) (fun q_5 =>
  Option.bind (f_X1_forget 33 q_5.1 q_5.2) (fun q_6 =>
  f_X2_findOut_44 q_6.2 FU 0 q_6.1))))))
def f_X2_become_18 (a2 : Nat) (I : MI) (k0 : ML → Option Mm) : Nat → Int32 → ML → Option Mm
  | 0, _, _ => none
  | n + 1, v4_3, L_4 =>
    if (I 6 1) ≤ v4_3 then
    (k0 L_4)
    else
    if 6 ≤ v4_3 then
    (k0 L_4)
    else
    chk (inb v4_3 6) (
    chk (inb v4_3 6) (bnd (up2 L_4 7 (ix v4_3) (L_4 a2 (ix v4_3))) (fun L_5 =>
    bnd (v4_3 + 1 : Int32) (fun v4_6 =>
    f_X2_become_18 a2 I k0 n v4_6 L_5))))
def f_X2_become (a1 : Int32) (a2 : Nat) (a3 : Int32) (I : MI) (L : ML) : Option Mm :=
  bnd (up2 I 6 0 a1) (fun I_1 =>
  bnd (up2 I_1 6 1 (imin a3 6)) (fun I_2 =>
  f_X2_become_18 a2 I_2 (fun (L_7 : ML) =>
  Option.bind (f_X2_findOut I_2 L_7) (fun q_8 =>
  some (q_8.1, q_8.2))) FU 0 L))
def f_X2_take (a1 : Int64) (I : MI) (L : ML) : Option Mm :=
  if 6 ≤ (I 6 1) then
  some (I, L)
  else
  chk (inb (I 6 1) 6) (bnd (up2 L 7 (ix (I 6 1)) a1) (fun L_1 =>
  bnd (up2 I 6 1 ((I 6 1) + 1)) (fun I_2 =>
  Option.bind (f_X2_findOut I_2 L_1) (fun q_3 =>
  some (q_3.1, q_3.2)))))
def f_X2_lose_6 (I : MI) (k0 : ML → Option Mm) : Nat → Int32 → ML → Option Mm
  | 0, _, _ => none
  | n + 1, v2_2, L_3 =>
    if (I 6 1) ≤ (v2_2 + 1) then
    (k0 L_3)
    else
    chk (inb (v2_2 + 1) 6) (
    chk (inb v2_2 6) (bnd (up2 L_3 7 (ix v2_2) (L_3 7 (ix (v2_2 + 1)))) (fun L_4 =>
    bnd (v2_2 + 1 : Int32) (fun v2_5 =>
    f_X2_lose_6 I k0 n v2_5 L_4))))
def f_X2_lose (a1 : Int32) (I : MI) (L : ML) : Option Mm :=
  bnd ((imax a1 0) : Int32) (fun v2_1 =>
  f_X2_lose_6 I (fun (L_6 : ML) =>
  bnd (up2 I 6 1 (imax ((I 6 1) - 1) 0)) (fun I_7 =>
  Option.bind (f_X2_findOut I_7 L_6) (fun q_8 =>
  some (q_8.1, q_8.2)))) FU v2_1 L)
def f_X2_hasJust_12 (a1 : Nat) (I : MI) (L : ML) : Nat → Int32 → Option Bool
  | 0, _ => none
  | n + 1, v3_1 =>
    if (I 6 1) ≤ v3_1 then
    some true
    else
    if 6 ≤ v3_1 then
    some true
    else
    chk (inb v3_1 6) (
    chk (inb v3_1 6) (
    if (lg_cmp (L 7 (ix v3_1)) (L a1 (ix v3_1))) = 0 then
    bnd (v3_1 + 1 : Int32) (fun v3_2 =>
    f_X2_hasJust_12 a1 I L n v3_2)
    else
    some false))
def f_X2_hasJust (a1 : Nat) (a2 : Int32) (I : MI) (L : ML) : Option Bool :=
  if a2 = (I 6 1) then
  f_X2_hasJust_12 a1 I L FU 0
  else
  some false
def f_X2_hasPoint (a1 : Int32) (I : MI) (L : ML) : Option Bool :=
  if a1 < 0 then
  some false
  else
  if (I 6 0) ≤ a1 then
  some false
  else
  some true
def f_X2_hasStep (a1 : Int32) (I : MI) (L : ML) : Option Bool :=
  if a1 < 0 then
  some false
  else
  if (2 * (I 6 1)) ≤ a1 then
  some false
  else
  some true
def f_X2_hasMoves (a1 : Int32) (I : MI) (L : ML) : Option Bool :=
  Option.bind (f_X2_everyMove I L) (fun q_1 =>
  if (a1 &&& (q_1 ^^^ (-1))) = 0 then
  some true
  else
  some false)
def f_X2_hasSet (a1 : Int32) (I : MI) (L : ML) : Option Bool :=
  if a1 = 0 then
  some false
  else
  if (a1 &&& (((shl 1 (I 6 0)) - 1) ^^^ (-1))) = 0 then
  some true
  else
  some false
def f_X2_turnOf (a1 : Int32) (I : MI) (L : ML) : Option Int64 :=
  chk (inb (shr a1 1) 6) (
  bnd ((L 7 (ix (shr a1 1))) : Int64) (fun v2_1 =>
  if (a1 &&& 1) = 0 then
  some v2_1
  else
  Option.bind (f_X6_invert v2_1 (I 6 0)) (fun q_2 =>
  some q_2)))
def f_X2_size (I : MI) (L : ML) : Option Int32 :=
  Option.bind (f_X0_size 8 I L) (fun q_1 =>
  some q_1)
def f_X2_imagesOf_6 (v1_1 : Int32) (v2_2 : Int64) (I : MI) (L : ML) : Nat → Int32 → Int32 → Option Int32
  | 0, _, _ => none
  | n + 1, v4_3, v5_4 =>
    if (I 6 0) ≤ v5_4 then
    some v4_3
    else
    if ((shr v1_1 v5_4) &&& 1) = 0 then
    bnd (v5_4 + 1 : Int32) (fun v5_5 =>
    f_X2_imagesOf_6 v1_1 v2_2 I L n v4_3 v5_5)
    else
    Option.bind (f_X6_image v2_2 v5_4) (fun q_6 =>
    bnd ((v4_3 ||| (shl 1 q_6)) : Int32) (fun v4_7 =>
    bnd (v5_4 + 1 : Int32) (fun v5_8 =>
    f_X2_imagesOf_6 v1_1 v2_2 I L n v4_7 v5_8)))
def f_X2_imagesOf (a1 : Int32) (a2 : Int64) (I : MI) (L : ML) : Option Int32 :=
  f_X2_imagesOf_6 a1 a2 I L FU 0 0
def f_X2_reachedFrom_26 (v3_6 : Int32) (v4_7 : Int32) (I : MI) (L : ML) (k0 : Int32 → Option Int32) : Nat → Int32 → Int32 → Option Int32
  | 0, _, _ => none
  | n + 1, v2_5, v5_8 =>
    if (I 6 1) ≤ v5_8 then
    (k0 v2_5)
    else
    chk (inb v5_8 6) (
    Option.bind (f_X2_imagesOf v2_5 (L 7 (ix v5_8)) I L) (fun q_9 =>
    bnd ((v2_5 ||| q_9) : Int32) (fun v2_10 =>
    bnd (v5_8 + 1 : Int32) (fun v5_11 =>
    f_X2_reachedFrom_26 v3_6 v4_7 I L k0 n v2_10 v5_11))))
def f_X2_reachedFrom_9 (I : MI) (L : ML) : Nat → Int32 → Int32 → Int32 → Option Int32
  | 0, _, _, _ => none
  | n + 1, v2_2, v3_3, v4_4 =>
    if 10 ≤ v4_4 then
    some v2_2
    else
    if v2_2 = v3_3 then
    some v2_2
    else
    f_X2_reachedFrom_26 v2_2 v4_4 I L (fun (v2_12 : Int32) =>
    bnd (v4_4 + 1 : Int32) (fun v4_13 =>
    f_X2_reachedFrom_9 I L n v2_12 v2_2 v4_13)) FU v2_2 0
def f_X2_reachedFrom (a1 : Int32) (I : MI) (L : ML) : Option Int32 :=
  bnd ((shl 1 a1) : Int32) (fun v2_1 =>
  f_X2_reachedFrom_9 I L FU v2_1 0 0)
def f_X2_countOrbits_6 (I : MI) (L : ML) : Nat → Int32 → Int32 → Int32 → Option Int32
  | 0, _, _, _ => none
  | n + 1, v1_1, v2_2, v3_3 =>
    if (I 6 0) ≤ v3_3 then
    some v1_1
    else
    if ((shr v2_2 v3_3) &&& 1) = 0 then
    Option.bind (f_X2_reachedFrom v3_3 I L) (fun q_5 =>
    bnd ((v2_2 ||| q_5) : Int32) (fun v2_6 =>
    bnd (v1_1 + 1 : Int32) (fun v1_7 =>
    bnd (v3_3 + 1 : Int32) (fun v3_8 =>
    f_X2_countOrbits_6 I L n v1_7 v2_6 v3_8))))
    else
    bnd (v3_3 + 1 : Int32) (fun v3_4 =>
    f_X2_countOrbits_6 I L n v1_1 v2_2 v3_4)
def f_X2_countOrbits (I : MI) (L : ML) : Option Int32 :=
  f_X2_countOrbits_6 I L FU 0 0 0
def f_X2_measured (rm : Nat) (I : MI) (L : ML) : Option (Mm × Nat) :=
  Option.bind (f_X2_all rm I L) (fun q_1 => chk (decide (q_1.2 ≤ 5040)) (
  chk (decide (q_1.2 ≠ 0)) (Option.bind (f_X4_measure q_1.2 7 (q_1.1.1 6 1) q_1.1.1 q_1.1.2) (fun q_3 =>
  some ((q_3.1, q_3.2), q_1.2)))))
def f_X2_sorted (rm : Nat) (I : MI) (L : ML) : Option (Mm × Nat) :=
  Option.bind (f_X2_all rm I L) (fun q_1 => chk (decide (q_1.2 ≤ 5040)) (
  chk (decide (q_1.2 ≠ 0)) (Option.bind (f_X4_sort q_1.2 7 (q_1.1.1 6 4) q_1.1.1 q_1.1.2) (fun q_3 =>
  some ((q_3.1, q_3.2), q_1.2)))))
def f_X2_shaped (rm : Nat) (I : MI) (L : ML) : Option (Mm × Nat) :=
  Option.bind (f_X2_all rm I L) (fun q_1 => chk (decide (q_1.2 ≤ 5040)) (
  chk (decide (q_1.2 ≠ 0)) (Option.bind (f_X4_shapeAll q_1.2 q_1.1.1 q_1.1.2) (fun q_3 =>
  some ((q_3.1, q_3.2), q_1.2)))))
def f_X2_countCentral_24 (rm : Nat) (I : MI) (L : ML) : Nat → Int32 → Int32 → Int32 → Option ((Int32 × Mm) × Nat)
  | 0, _, _, _ => none
  | n + 1, v2_4, v3_5, v4_6 =>
    if 5040 ≤ v4_6 then
    some ((v2_4, I, L), rm)
    else
    if v3_5 < 0 then
    some ((v2_4, I, L), rm)
    else
    bnd (v2_4 + 1 : Int32) (fun v2_7 =>
    Option.bind (f_X4_nextCentral rm (v3_5 + 1) 7 (I 6 4) I L) (fun q_8 =>
    bnd (v4_6 + 1 : Int32) (fun v4_9 =>
    f_X2_countCentral_24 rm I L n v2_7 q_8 v4_9)))
def f_X2_countCentral (rm : Nat) (I : MI) (L : ML) : Option ((Int32 × Mm) × Nat) :=
  Option.bind (f_X2_all rm I L) (fun q_1 => chk (decide (q_1.2 ≤ 5040)) (
  chk (decide (q_1.2 ≠ 0)) (Option.bind (f_X4_nextCentral q_1.2 0 7 (q_1.1.1 6 4) q_1.1.1 q_1.1.2) (fun q_3 =>
  f_X2_countCentral_24 q_1.2 q_1.1.1 q_1.1.2 FU 0 q_3 0))))
def f_X2_centralPlace_22 (rm : Nat) (v1_4 : Int32) (I : MI) (L : ML) : Nat → Int32 → Int32 → Option ((Int32 × Mm) × Nat)
  | 0, _, _ => none
  | n + 1, v3_5, v4_6 =>
    if v1_4 ≤ v4_6 then
    some ((v3_5, I, L), rm)
    else
    if v3_5 < 0 then
    some ((v3_5, I, L), rm)
    else
    Option.bind (f_X4_nextCentral rm (v3_5 + 1) 7 (I 6 4) I L) (fun q_7 =>
    bnd (v4_6 + 1 : Int32) (fun v4_8 =>
    f_X2_centralPlace_22 rm v1_4 I L n q_7 v4_8))
def f_X2_centralPlace (rm : Nat) (a1 : Int32) (I : MI) (L : ML) : Option ((Int32 × Mm) × Nat) :=
  Option.bind (f_X2_all rm I L) (fun q_1 => chk (decide (q_1.2 ≤ 5040)) (
  chk (decide (q_1.2 ≠ 0)) (Option.bind (f_X4_nextCentral q_1.2 0 7 (q_1.1.1 6 4) q_1.1.1 q_1.1.2) (fun q_3 =>
  f_X2_centralPlace_22 q_1.2 a1 q_1.1.1 q_1.1.2 FU q_3 0))))
def f_X2_descentByF (I : MI) (L : ML) : Option Mm :=
  Option.bind (f_X1_know 30 8 15 false I L) (fun q_1 =>
  some (q_1.1, q_1.2))
def f_X2_descentByT (I : MI) (L : ML) : Option Mm :=
  Option.bind (f_X1_know 33 8 15 true I L) (fun q_1 =>
  some (q_1.1, q_1.2))
def f_X2_movesCommute_12 (v1_2 : Int32) (I : MI) (L : ML) (k0 : Option Bool) : Nat → Int32 → Option Bool
  | 0, _ => none
  | n + 1, v2_3 =>
    if v1_2 ≤ v2_3 then
    k0
    else
    chk (inb v1_2 6) (
    chk (inb v2_3 6) (
    Option.bind (f_X6_commute (L 7 (ix v1_2)) (L 7 (ix v2_3)) (I 6 0)) (fun q_4 =>
    if (b2i q_4) = 0 then
    some false
    else
    bnd (v2_3 + 1 : Int32) (fun v2_5 =>
    f_X2_movesCommute_12 v1_2 I L k0 n v2_5))))
def f_X2_movesCommute_2 (I : MI) (L : ML) : Nat → Int32 → Option Bool
  | 0, _ => none
  | n + 1, v1_1 =>
    if (I 6 1) ≤ v1_1 then
    some true
    else
    f_X2_movesCommute_12 v1_1 I L (bnd (v1_1 + 1 : Int32) (fun v1_6 =>
    f_X2_movesCommute_2 I L n v1_6)) FU 0
def f_X2_movesCommute (I : MI) (L : ML) : Option Bool :=
  f_X2_movesCommute_2 I L FU 0
def f_X2_movesAreEven_2 (I : MI) (L : ML) : Nat → Int32 → Option Bool
  | 0, _ => none
  | n + 1, v1_1 =>
    if (I 6 1) ≤ v1_1 then
    some true
    else
    chk (inb v1_1 6) (
    Option.bind (f_X6_isEven (L 7 (ix v1_1)) (I 6 0)) (fun q_2 =>
    if (b2i q_2) = 0 then
    some false
    else
    bnd (v1_1 + 1 : Int32) (fun v1_3 =>
    f_X2_movesAreEven_2 I L n v1_3)))
def f_X2_movesAreEven (I : MI) (L : ML) : Option Bool :=
  f_X2_movesAreEven_2 I L FU 0
def f_X2_replaceMark_2 (v1_1 : Int32) (v2_2 : Int32) (L : ML) : Nat → Int32 → MI → Option Mm
  | 0, _, _ => none
  | n + 1, v3_3, I_4 =>
    if (I_4 6 0) ≤ v3_3 then
    some (I_4, L)
    else
    chk (inb v3_3 16) (
    if (I_4 36 (ix v3_3)) = v1_1 then
    chk (inb v3_3 16) (bnd (up2 I_4 36 (ix v3_3) v2_2) (fun I_6 =>
    bnd (v3_3 + 1 : Int32) (fun v3_7 =>
    f_X2_replaceMark_2 v1_1 v2_2 L n v3_7 I_6)))
    else
    bnd (v3_3 + 1 : Int32) (fun v3_5 =>
    f_X2_replaceMark_2 v1_1 v2_2 L n v3_5 I_4))
def f_X2_replaceMark (a1 : Int32) (a2 : Int32) (I : MI) (L : ML) : Option Mm :=
  f_X2_replaceMark_2 a1 a2 L FU 0 I
def f_X2_spreadMarks_17 (v1_6 : Int64) (v4_8 : Int32) (k0 : Int32 → MI → ML → Option (Bool × Mm)) : Nat → Int32 → Int32 → MI → ML → Option (Bool × Mm)
  | 0, _, _, _, _ => none
  | n + 1, v3_7, v5_9, I_10, L_11 =>
    if v4_8 ≤ v5_9 then
    (k0 v3_7 I_10 L_11)
    else
    Option.bind (f_X6_image v1_6 v4_8) (fun q_12 =>
    chk (inb q_12 16) (
    bnd ((I_10 36 (ix q_12)) : Int32) (fun v6_13 =>
    Option.bind (f_X6_image v1_6 v5_9) (fun q_14 =>
    chk (inb q_14 16) (
    bnd ((I_10 36 (ix q_14)) : Int32) (fun v7_15 =>
    chk (inb v4_8 16) (
    chk (inb v5_9 16) (
    if (I_10 36 (ix v4_8)) = (I_10 36 (ix v5_9)) then
    if v6_13 = v7_15 then
    bnd (v5_9 + 1 : Int32) (fun v5_17 =>
    f_X2_spreadMarks_17 v1_6 v4_8 k0 n v3_7 v5_17 I_10 L_11)
    else
    Option.bind (f_X2_replaceMark v6_13 v7_15 I_10 L_11) (fun q_18 =>
    bnd (v5_9 + 1 : Int32) (fun v5_19 =>
    f_X2_spreadMarks_17 v1_6 v4_8 k0 n 1 v5_19 q_18.1 q_18.2))
    else
    bnd (v5_9 + 1 : Int32) (fun v5_16 =>
    f_X2_spreadMarks_17 v1_6 v4_8 k0 n v3_7 v5_16 I_10 L_11)))))))))
def f_X2_spreadMarks_5 (v1_1 : Int64) : Nat → Int32 → Int32 → MI → ML → Option (Bool × Mm)
  | 0, _, _, _, _ => none
  | n + 1, v3_2, v4_3, I_4, L_5 =>
    if (I_4 6 0) ≤ v4_3 then
    chk (isz v3_2) (some (i2z v3_2, I_4, L_5))
    else
    f_X2_spreadMarks_17 v1_1 v4_3 (fun (v3_20 : Int32) (I_21 : MI) (L_22 : ML) =>
    bnd (v4_3 + 1 : Int32) (fun v4_23 =>
    f_X2_spreadMarks_5 v1_1 n v3_20 v4_23 I_21 L_22)) FU v3_2 0 I_4 L_5
def f_X2_spreadMarks (a1 : Int64) (I : MI) (L : ML) : Option (Bool × Mm) :=
  f_X2_spreadMarks_5 a1 FU 0 1 I L
def f_X2_blockOf_53 (v1_15 : Int32) (v4_17 : Int32) (k0 : Int32 → MI → ML → Option (Int32 × Mm)) : Nat → Int32 → Int32 → MI → ML → Option (Int32 × Mm)
  | 0, _, _, _, _ => none
  | n + 1, v3_16, v5_18, I_19, L_20 =>
    if (I_19 6 1) ≤ v5_18 then
    (k0 v3_16 I_19 L_20)
    else
    chk (inb v5_18 6) (
    Option.bind (f_X2_spreadMarks (L_20 7 (ix v5_18)) I_19 L_20) (fun q_21 =>
    if (b2i q_21.1) = 0 then
    bnd (v5_18 + 1 : Int32) (fun v5_22 =>
    f_X2_blockOf_53 v1_15 v4_17 k0 n v3_16 v5_22 q_21.2.1 q_21.2.2)
    else
    bnd (v5_18 + 1 : Int32) (fun v5_23 =>
    f_X2_blockOf_53 v1_15 v4_17 k0 n 1 v5_23 q_21.2.1 q_21.2.2)))
def f_X2_blockOf_96 (v1_30 : Int32) (I : MI) (L : ML) : Nat → Int32 → Int32 → Option (Int32 × Mm)
  | 0, _, _ => none
  | n + 1, v4_31, v5_32 =>
    if (I 6 0) ≤ v5_32 then
    some (v4_31, I, L)
    else
    chk (inb v5_32 16) (
    chk (inb v1_30 16) (
    if (I 36 (ix v5_32)) = (I 36 (ix v1_30)) then
    bnd ((v4_31 ||| (shl 1 v5_32)) : Int32) (fun v4_34 =>
    bnd (v5_32 + 1 : Int32) (fun v5_35 =>
    f_X2_blockOf_96 v1_30 I L n v4_34 v5_35))
    else
    bnd (v5_32 + 1 : Int32) (fun v5_33 =>
    f_X2_blockOf_96 v1_30 I L n v4_31 v5_33)))
def f_X2_blockOf_37 (v1_10 : Int32) (k0 : MI → ML → Option (Int32 × Mm)) : Nat → Int32 → Int32 → MI → ML → Option (Int32 × Mm)
  | 0, _, _, _, _ => none
  | n + 1, v3_11, v4_12, I_13, L_14 =>
    if 10 ≤ v4_12 then
    (k0 I_13 L_14)
    else
    if v3_11 = 0 then
    (k0 I_13 L_14)
    else
    f_X2_blockOf_53 v1_10 v4_12 (fun (v3_24 : Int32) (I_25 : MI) (L_26 : ML) =>
    bnd (v4_12 + 1 : Int32) (fun v4_27 =>
    f_X2_blockOf_37 v1_10 k0 n v3_24 v4_27 I_25 L_26)) FU 0 0 I_13 L_14
def f_X2_blockOf_2 (v1_1 : Int32) (v2_2 : Int32) (L : ML) (k0 : MI → Option (Int32 × Mm)) : Nat → Int32 → MI → Option (Int32 × Mm)
  | 0, _, _ => none
  | n + 1, v3_3, I_4 =>
    if (I_4 6 0) ≤ v3_3 then
    (k0 I_4)
    else
    if v3_3 = v2_2 then
    chk (inb v3_3 16) (bnd (up2 I_4 36 (ix v3_3) v1_1) (fun I_7 =>
    bnd (v3_3 + 1 : Int32) (fun v3_8 =>
    f_X2_blockOf_2 v1_1 v2_2 L k0 n v3_8 I_7)))
    else
    chk (inb v3_3 16) (bnd (up2 I_4 36 (ix v3_3) v3_3) (fun I_5 =>
    bnd (v3_3 + 1 : Int32) (fun v3_6 =>
    f_X2_blockOf_2 v1_1 v2_2 L k0 n v3_6 I_5)))
def f_X2_blockOf (a1 : Int32) (a2 : Int32) (I : MI) (L : ML) : Option (Int32 × Mm) :=
  f_X2_blockOf_2 a1 a2 L (fun (I_9 : MI) =>
  f_X2_blockOf_37 a1 (fun (I_28 : MI) (L_29 : ML) =>
  f_X2_blockOf_96 a1 I_28 L_29 FU 0 0) FU 1 0 I_9 L) FU 0 I
def f_X2_isPrimitive_22 (v1_3 : Int32) : Nat → Int32 → MI → ML → Option (Bool × Mm)
  | 0, _, _, _ => none
  | n + 1, v2_4, I_5, L_6 =>
    if (I_5 6 0) ≤ v2_4 then
    some (true, I_5, L_6)
    else
    Option.bind (f_X2_blockOf 0 v2_4 I_5 L_6) (fun q_7 =>
    if q_7.1 = v1_3 then
    bnd (v2_4 + 1 : Int32) (fun v2_8 =>
    f_X2_isPrimitive_22 v1_3 n v2_8 q_7.2.1 q_7.2.2)
    else
    some (false, q_7.2.1, q_7.2.2))
def f_X2_isPrimitive (I : MI) (L : ML) : Option (Bool × Mm) :=
  bnd (((shl 1 (I 6 0)) - 1) : Int32) (fun v1_1 =>
  Option.bind (f_X2_reachedFrom 0 I L) (fun q_2 =>
  if q_2 = v1_1 then
  f_X2_isPrimitive_22 v1_1 FU 1 I L
  else
  some (false, I, L)))
def f_X2_sizeBy (a1 : Int32) (I : MI) (L : ML) : Option (Int32 × Mm) :=
  Option.bind (f_X2_everyMove I L) (fun q_1 =>
  bnd ((a1 &&& q_1) : Int32) (fun v2_2 =>
  chk (inb v2_2 64) (
  if (I 29 (ix v2_2)) = 0 then
  Option.bind (f_X0_gather 15 7 v2_2 (I 6 0) I L) (fun q_3 =>
  Option.bind (f_X0_size 15 q_3.2.1 q_3.2.2) (fun q_4 =>
  chk (inb v2_2 64) (bnd (up2 q_3.2.1 29 (ix v2_2) q_4) (fun I_5 =>
  chk (inb v2_2 64) (
  some ((I_5 29 (ix v2_2)), I_5, q_3.2.2))))))
  else
  chk (inb v2_2 64) (
  some ((I 29 (ix v2_2)), I, L)))))
def f_X2_countInBoth_45 (rm : Nat) (I : MI) (L : ML) : Nat → Int32 → Int32 → Option ((Int32 × Mm) × Nat)
  | 0, _, _ => none
  | n + 1, v4_5, v5_6 =>
    if (I 69 1) ≤ v5_6 then
    some ((v4_5, I, L), rm)
    else
    Option.bind (f_X4_turnAt rm v5_6 I L) (fun q_7 =>
    Option.bind (f_X0_contains 15 q_7 I L) (fun q_8 =>
    if (b2i q_8) = 0 then
    bnd (v5_6 + 1 : Int32) (fun v5_9 =>
    f_X2_countInBoth_45 rm I L n v4_5 v5_9)
    else
    Option.bind (f_X0_contains 22 q_7 I L) (fun q_10 =>
    if (b2i q_10) = 0 then
    bnd (v5_6 + 1 : Int32) (fun v5_11 =>
    f_X2_countInBoth_45 rm I L n v4_5 v5_11)
    else
    bnd (v4_5 + 1 : Int32) (fun v4_12 =>
    bnd (v5_6 + 1 : Int32) (fun v5_13 =>
    f_X2_countInBoth_45 rm I L n v4_12 v5_13)))))
def f_X2_countInBoth (rm : Nat) (a1 : Int32) (a2 : Int32) (I : MI) (L : ML) : Option ((Int32 × Mm) × Nat) :=
  Option.bind (f_X0_gather 15 7 a1 (I 6 0) I L) (fun q_1 =>
  Option.bind (f_X0_gather 22 7 a2 (q_1.2.1 6 0) q_1.2.1 q_1.2.2) (fun q_2 =>
  Option.bind (f_X2_all rm q_2.2.1 q_2.2.2) (fun q_3 => chk (decide (q_3.2 ≤ 5040)) (
  chk (decide (q_3.2 ≠ 0)) (f_X2_countInBoth_45 q_3.2 q_3.1.1 q_3.1.2 FU 0 0)))))
def f_X2_staysTurned_32 (v2_4 : Int32) (I : MI) (L : ML) (k0 : Option (Bool × Mm)) : Nat → Int32 → Option (Bool × Mm)
  | 0, _ => none
  | n + 1, v3_5 =>
    if (I 6 1) ≤ v3_5 then
    k0
    else
    Option.bind (f_X0_maker 15 v2_4 I L) (fun q_6 =>
    chk (inb v3_5 6) (
    Option.bind (f_X6_conjugate q_6 (L 7 (ix v3_5)) (I 6 0)) (fun q_7 =>
    Option.bind (f_X0_contains 15 q_7 I L) (fun q_8 =>
    if (b2i q_8) = 0 then
    some (false, I, L)
    else
    bnd (v3_5 + 1 : Int32) (fun v3_9 =>
    f_X2_staysTurned_32 v2_4 I L k0 n v3_9)))))
def f_X2_staysTurned_19 (I : MI) (L : ML) : Nat → Int32 → Option (Bool × Mm)
  | 0, _ => none
  | n + 1, v2_2 =>
    Option.bind (f_X0_countMakers 15 I L) (fun q_3 =>
    if q_3 ≤ v2_2 then
    some (true, I, L)
    else
    f_X2_staysTurned_32 v2_2 I L (bnd (v2_2 + 1 : Int32) (fun v2_10 =>
    f_X2_staysTurned_19 I L n v2_10)) FU 0)
def f_X2_staysTurned (a1 : Int32) (I : MI) (L : ML) : Option (Bool × Mm) :=
  Option.bind (f_X0_gather 15 7 a1 (I 6 0) I L) (fun q_1 =>
  f_X2_staysTurned_19 q_1.2.1 q_1.2.2 FU 0)
def f_X2_spareMoves_4 : Nat → Int32 → Int32 → MI → ML → Option (Int32 × Mm)
  | 0, _, _, _, _ => none
  | n + 1, v1_1, v2_2, I_3, L_4 =>
    if (I_3 6 1) ≤ v2_2 then
    some (v1_1, I_3, L_4)
    else
    Option.bind (f_X2_everyMove I_3 L_4) (fun q_5 =>
    Option.bind (f_X2_sizeBy (q_5 &&& ((shl 1 v2_2) ^^^ (-1))) I_3 L_4) (fun q_6 =>
    Option.bind (f_X2_size q_6.2.1 q_6.2.2) (fun q_7 =>
    if q_6.1 = q_7 then
    bnd ((v1_1 ||| (shl 1 v2_2)) : Int32) (fun v1_9 =>
    bnd (v2_2 + 1 : Int32) (fun v2_10 =>
    f_X2_spareMoves_4 n v1_9 v2_10 q_6.2.1 q_6.2.2))
    else
    bnd (v2_2 + 1 : Int32) (fun v2_8 =>
    f_X2_spareMoves_4 n v1_1 v2_8 q_6.2.1 q_6.2.2))))
def f_X2_spareMoves (I : MI) (L : ML) : Option (Int32 × Mm) :=
  f_X2_spareMoves_4 FU 0 0 I L
def f_X2_fewestMoves_29 (v2_9 : Int32) (v3_10 : Int32) (v4_11 : Int32) (k0 : MI → ML → Option (Int32 × Mm)) : Nat → Int32 → MI → ML → Option (Int32 × Mm)
  | 0, _, _, _ => none
  | n + 1, v5_12, I_13, L_14 =>
    if v2_9 < v5_12 then
    (k0 I_13 L_14)
    else
    Option.bind (f_J6_bitCount_0f7a4 v5_12) (fun q_15 =>
    if q_15 = v4_11 then
    if (v5_12 &&& v3_10) = v3_10 then
    Option.bind (f_X2_sizeBy v5_12 I_13 L_14) (fun q_18 =>
    Option.bind (f_X2_size q_18.2.1 q_18.2.2) (fun q_19 =>
    if q_18.1 = q_19 then
    some (v5_12, q_18.2.1, q_18.2.2)
    else
    bnd (v5_12 + 1 : Int32) (fun v5_20 =>
    f_X2_fewestMoves_29 v2_9 v3_10 v4_11 k0 n v5_20 q_18.2.1 q_18.2.2)))
    else
    bnd (v5_12 + 1 : Int32) (fun v5_17 =>
    f_X2_fewestMoves_29 v2_9 v3_10 v4_11 k0 n v5_17 I_13 L_14)
    else
    bnd (v5_12 + 1 : Int32) (fun v5_16 =>
    f_X2_fewestMoves_29 v2_9 v3_10 v4_11 k0 n v5_16 I_13 L_14))
def f_X2_fewestMoves_17 (v2_4 : Int32) (v3_5 : Int32) : Nat → Int32 → MI → ML → Option (Int32 × Mm)
  | 0, _, _, _ => none
  | n + 1, v4_6, I_7, L_8 =>
    if (I_7 6 1) ≤ v4_6 then
    some (v2_4, I_7, L_8)
    else
    f_X2_fewestMoves_29 v2_4 v3_5 v4_6 (fun (I_21 : MI) (L_22 : ML) =>
    bnd (v4_6 + 1 : Int32) (fun v4_23 =>
    f_X2_fewestMoves_17 v2_4 v3_5 n v4_23 I_21 L_22)) FU v3_5 I_7 L_8
def f_X2_fewestMoves (a1 : Int32) (I : MI) (L : ML) : Option (Int32 × Mm) :=
  Option.bind (f_X2_everyMove I L) (fun q_1 =>
  bnd ((q_1 &&& (a1 ^^^ (-1))) : Int32) (fun v3_2 =>
  Option.bind (f_J6_bitCount_0f7a4 v3_2) (fun q_3 =>
  f_X2_fewestMoves_17 q_1 v3_2 FU q_3 I L)))
def f_X2_countHolding_112 (v2_20 : Int64) (v4_21 : Int32) (k0 : MI → ML → Option (Int32 × Mm)) : Nat → Int32 → MI → ML → Option (Int32 × Mm)
  | 0, _, _, _ => none
  | n + 1, v7_22, I_23, L_24 =>
    if (I_23 6 1) ≤ v7_22 then
    (k0 I_23 L_24)
    else
    if ((shr (I_23 6 4) v7_22) &&& 1) = 0 then
    bnd (v7_22 + 1 : Int32) (fun v7_25 =>
    f_X2_countHolding_112 v2_20 v4_21 k0 n v7_25 I_23 L_24)
    else
    chk (inb v7_22 6) (
    Option.bind (f_X6_conjugate (L_24 7 (ix v7_22)) v2_20 (I_23 6 0)) (fun q_26 =>
    Option.bind (f_X0_grow 15 q_26 I_23 L_24) (fun q_27 =>
    bnd (v7_22 + 1 : Int32) (fun v7_28 =>
    f_X2_countHolding_112 v2_20 v4_21 k0 n v7_28 q_27.2.1 q_27.2.2))))
def f_X2_countHolding_18 (v1_2 : Int32) (v4_4 : Int32) (I : MI) (L : ML) (k0 : Int64 → Option (Int32 × Mm)) : Nat → Int64 → Int32 → Int32 → Int32 → Option (Int32 × Mm)
  | 0, _, _, _, _ => none
  | n + 1, v2_3, v5_5, v6_6, v7_7 =>
    if (I 6 0) ≤ v7_7 then
    (k0 v2_3)
    else
    bnd ((fun (s0_8 : Bool) =>
    bnd ((b2i s0_8) : Int32) (fun v8_9 =>
    bnd ((fun (s0_10 : Int32) =>
    Option.bind (f_X6_with v2_3 v7_7 s0_10) (fun q_11 =>
    bnd ((fun (s0_12 : Bool) =>
    bnd ((v5_5 + (b2i s0_12)) : Int32) (fun v5_13 =>
    if v8_9 = 0 then
    bnd ((v6_6 + 1) : Int32) (fun v6_14 =>
    bnd (v7_7 + 1 : Int32) (fun v7_15 =>
    f_X2_countHolding_18 v1_2 v4_4 I L k0 n q_11 v5_13 v6_14 v7_15))
    else
    bnd ((v6_6 + 0) : Int32) (fun v6_16 =>
    bnd (v7_7 + 1 : Int32) (fun v7_17 =>
    f_X2_countHolding_18 v1_2 v4_4 I L k0 n q_11 v5_13 v6_16 v7_17)))) : Bool → Option (Int32 × Mm)) (fun j74_161 =>
    if v8_9 = 0 then
    (j74_161 false)
    else
    (j74_161 true)))) : Int32 → Option (Int32 × Mm)) (fun j58_160 =>
    if v8_9 = 0 then
    (j58_160 v6_6)
    else
    (j58_160 v5_5)))) : Bool → Option (Int32 × Mm)) (fun j41_159 =>
    if ((shr v1_2 v7_7) &&& 1) = 0 then
    (j41_159 false)
    else
    (j41_159 true))
def f_X2_countHolding (a1 : Int32) (I : MI) (L : ML) : Option (Int32 × Mm) :=
  Option.bind (f_J6_bitCount_0f7a4 a1) (fun q_1 =>
  f_X2_countHolding_18 a1 q_1 I L (fun (v2_18 : Int64) =>
  Option.bind (f_X0_start 15 (I 6 0) I L) (fun q_19 =>
  f_X2_countHolding_112 v2_18 q_1 (fun (I_29 : MI) (L_30 : ML) =>
  Option.bind (f_X0_sizeFrom 15 q_1 I_29 L_30) (fun q_31 =>
  some (q_31, I_29, L_30))) FU 0 q_19.1 q_19.2)) FU 0 0 q_1 0)
