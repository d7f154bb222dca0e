def f_X5_hasRoom (a1 : Int32) (I : MI) (L : ML) : Option Bool :=
  if 400 < ((I 1 1) + a1) then
  some false
  else
  some true
def f_X5_append_3 (v1_1 : Int32) (L : ML) : Nat → Int32 → MI → Option Mm
  | 0, _, _ => none
  | n + 1, v2_2, I_3 =>
    if v2_2 < 0 then
    some (I_3, L)
    else
    if 400 ≤ (I_3 1 1) then
    some (I_3, L)
    else
    chk (inb (I_3 1 1) 400) (bnd (up2 I_3 2 (ix (I_3 1 1)) (vp_nar .byte (i2b (ushr v1_1 v2_2)))) (fun I_4 =>
    bnd (up2 I_4 1 1 ((I_4 1 1) + 1)) (fun I_5 =>
    bnd (v2_2 + (-8) : Int32) (fun v2_6 =>
    f_X5_append_3 v1_1 L n v2_6 I_5))))
def f_X5_append (a1 : Int32) (I : MI) (L : ML) : Option Mm :=
  f_X5_append_3 a1 L FU 24 I
def f_X5_isLetter (a0 : Int32) : Option Bool :=
  if a0 < 97 then
  some false
  else
  if 122 < a0 then
  some false
  else
  some true
def f_X5_isDigit (a0 : Int32) : Option Bool :=
  if a0 < 48 then
  some false
  else
  if 57 < a0 then
  some false
  else
  some true
def f_X5_scanNumber_5 (L : ML) (k0 : MI → Option Mm) : Nat → MI → Option Mm
  | 0, _ => none
  | n + 1, I_2 =>
    if (I_2 1 2) ≤ (I_2 1 3) then
    (k0 I_2)
    else
    chk (inb (I_2 1 3) 400) (
    Option.bind (f_X5_isDigit (I_2 2 (ix (I_2 1 3)))) (fun q_3 =>
    if (b2i q_3) = 0 then
    (k0 I_2)
    else
    chk (inb (I_2 1 3) 400) (
    bnd (up2 I_2 1 6 ((((I_2 1 6) * 10) + (I_2 2 (ix (I_2 1 3)))) - 48)) (fun I_4 =>
    bnd (up2 I_4 1 3 ((I_4 1 3) + 1)) (fun I_5 =>
    f_X5_scanNumber_5 L k0 n I_5)))))
def f_X5_scanNumber (I : MI) (L : ML) : Option Mm :=
  bnd (up2 I 1 6 0) (fun I_1 =>
  f_X5_scanNumber_5 L (fun (I_6 : MI) =>
  if 2 < ((I_6 1 3) - (I_6 1 5)) then
  bnd (up2 I_6 1 4 3) (fun I_7 =>
  some (I_7, L))
  else
  bnd (up2 I_6 1 4 2) (fun I_8 =>
  some (I_8, L))) FU I_1)
def f_X5_isSign (a0 : Int32) : Option Bool :=
  if a0 = 40 then
  some true
  else
  if a0 = 41 then
  some true
  else
  if a0 = 39 then
  some true
  else
  if a0 = 59 then
  some true
  else
  some false
def f_X5_scan_94 (L : ML) (k0 : MI → Option Mm) : Nat → MI → Option Mm
  | 0, _ => none
  | n + 1, I_14 =>
    if (I_14 1 2) ≤ (I_14 1 3) then
    (k0 I_14)
    else
    chk (inb (I_14 1 3) 400) (
    Option.bind (f_X5_isLetter (I_14 2 (ix (I_14 1 3)))) (fun q_15 =>
    if (b2i q_15) = 0 then
    (k0 I_14)
    else
    bnd (up2 I_14 1 3 ((I_14 1 3) + 1)) (fun I_16 =>
    f_X5_scan_94 L k0 n I_16)))
def f_X5_scan_0 (L : ML) (k0 : MI → Option Mm) : Nat → MI → Option Mm
  | 0, _ => none
  | n + 1, I_1 =>
    if (I_1 1 2) ≤ (I_1 1 3) then
    (k0 I_1)
    else
    chk (inb (I_1 1 3) 400) (
    if (I_1 2 (ix (I_1 1 3))) = 32 then
    bnd (up2 I_1 1 3 ((I_1 1 3) + 1)) (fun I_2 =>
    f_X5_scan_0 L k0 n I_2)
    else
    chk (inb (I_1 1 3) 400) (
    if (I_1 2 (ix (I_1 1 3))) = 10 then
    bnd (up2 I_1 1 3 ((I_1 1 3) + 1)) (fun I_3 =>
    f_X5_scan_0 L k0 n I_3)
    else
    (k0 I_1)))
def f_X5_scan (I : MI) (L : ML) : Option Mm :=
  f_X5_scan_0 L (fun (I_4 : MI) =>
  bnd (up2 I_4 1 5 (I_4 1 3)) (fun I_5 =>
  if (I_5 1 3) < (I_5 1 2) then
  chk (inb (I_5 1 3) 400) (
  bnd ((I_5 2 (ix (I_5 1 3))) : Int32) (fun v1_6 =>
  Option.bind (f_X5_isLetter v1_6) (fun q_7 =>
  if (b2i q_7) = 0 then
  Option.bind (f_X5_isDigit v1_6) (fun q_8 =>
  if (b2i q_8) = 0 then
  bnd (up2 I_5 1 3 ((I_5 1 3) + 1)) (fun I_9 =>
  Option.bind (f_X5_isSign v1_6) (fun q_10 =>
  if (b2i q_10) = 0 then
  bnd (up2 I_9 1 4 3) (fun I_11 =>
  some (I_11, L))
  else
  bnd (up2 I_9 1 4 v1_6) (fun I_12 =>
  some (I_12, L))))
  else
  Option.bind (f_X5_scanNumber I_5 L) (fun q_13 =>
  some (q_13.1, q_13.2)))
  else
  f_X5_scan_94 L (fun (I_17 : MI) =>
  if 8 < ((I_17 1 3) - (I_17 1 5)) then
  bnd (up2 I_17 1 4 3) (fun I_18 =>
  some (I_18, L))
  else
  bnd (up2 I_17 1 4 1) (fun I_19 =>
  some (I_19, L))) FU I_5)))
  else
  bnd (up2 I_5 1 4 0) (fun I_20 =>
  some (I_20, L)))) FU I
def f_X5_fail (a1 : Int32) (I : MI) (L : ML) : Option (Bool × Mm) :=
  bnd (up2 I 1 14 a1) (fun I_1 =>
  bnd (up2 I_1 1 15 (I_1 1 5)) (fun I_2 =>
  some (false, I_2, L)))
def f_X5_need (a1 : Int32) (I : MI) (L : ML) : Option (Bool × Mm) :=
  if (I 1 4) = a1 then
  some (true, I, L)
  else
  if (I 1 4) = 3 then
  Option.bind (f_X5_fail 1 I L) (fun q_2 =>
  some (q_2.1, q_2.2.1, q_2.2.2))
  else
  Option.bind (f_X5_fail 2 I L) (fun q_1 =>
  some (q_1.1, q_1.2.1, q_1.2.2))
def f_X5_says_20 (s1 : Nat) (I : MI) (L : ML) : Nat → Int32 → Option Bool
  | 0, _ => none
  | n + 1, v2_2 =>
    Option.bind (f_J0_length_8abf5 s1) (fun q_3 =>
    if q_3 ≤ v2_2 then
    some true
    else
    if 400 ≤ ((I 1 5) + v2_2) then
    some true
    else
    chk (inb ((I 1 5) + v2_2) 400) (
    Option.bind (f_J0_charAt_5068e s1 v2_2) (fun q_4 =>
    if (I 2 (ix ((I 1 5) + v2_2))) = q_4 then
    bnd (v2_2 + 1 : Int32) (fun v2_5 =>
    f_X5_says_20 s1 I L n v2_5)
    else
    some false)))
def f_X5_says (s1 : Nat) (I : MI) (L : ML) : Option Bool :=
  Option.bind (f_J0_length_8abf5 s1) (fun q_1 =>
  if ((I 1 3) - (I 1 5)) = q_1 then
  f_X5_says_20 s1 I L FU 0
  else
  some false)
def f_X5_readPoints (I : MI) (L : ML) : Option (Bool × Mm) :=
  Option.bind (f_X5_need 1 I L) (fun q_1 =>
  if (b2i q_1.1) = 0 then
  some (false, q_1.2.1, q_1.2.2)
  else
  Option.bind (f_X5_says 0 q_1.2.1 q_1.2.2) (fun q_2 =>
  if (b2i q_2) = 0 then
  Option.bind (f_X5_fail 2 q_1.2.1 q_1.2.2) (fun q_9 =>
  some (q_9.1, q_9.2.1, q_9.2.2))
  else
  Option.bind (f_X5_scan q_1.2.1 q_1.2.2) (fun q_3 =>
  Option.bind (f_X5_need 2 q_3.1 q_3.2) (fun q_4 =>
  if (b2i q_4.1) = 0 then
  some (false, q_4.2.1, q_4.2.2)
  else
  if (q_4.2.1 1 6) < 2 then
  Option.bind (f_X5_fail 3 q_4.2.1 q_4.2.2) (fun q_5 =>
  some (q_5.1, q_5.2.1, q_5.2.2))
  else
  if (q_4.2.1 1 6) ≤ 10 then
  bnd (up2 q_4.2.1 1 7 (q_4.2.1 1 6)) (fun I_6 =>
  Option.bind (f_X5_scan I_6 q_4.2.2) (fun q_7 =>
  some (true, q_7.1, q_7.2)))
  else
  Option.bind (f_X5_fail 3 q_4.2.1 q_4.2.2) (fun q_8 =>
  some (q_8.1, q_8.2.1, q_8.2.2))))))
def f_X5_needName (I : MI) (L : ML) : Option (Bool × Mm) :=
  Option.bind (f_X5_need 1 I L) (fun q_1 =>
  if (b2i q_1.1) = 0 then
  some (false, q_1.2.1, q_1.2.2)
  else
  Option.bind (f_X5_says 0 q_1.2.1 q_1.2.2) (fun q_2 =>
  if (b2i q_2) = 0 then
  Option.bind (f_X5_says 1 q_1.2.1 q_1.2.2) (fun q_4 =>
  if (b2i q_4) = 0 then
  Option.bind (f_X5_says 2 q_1.2.1 q_1.2.2) (fun q_6 =>
  if (b2i q_6) = 0 then
  some (true, q_1.2.1, q_1.2.2)
  else
  Option.bind (f_X5_fail 2 q_1.2.1 q_1.2.2) (fun q_7 =>
  some (q_7.1, q_7.2.1, q_7.2.2)))
  else
  Option.bind (f_X5_fail 2 q_1.2.1 q_1.2.2) (fun q_5 =>
  some (q_5.1, q_5.2.1, q_5.2.2)))
  else
  Option.bind (f_X5_fail 2 q_1.2.1 q_1.2.2) (fun q_3 =>
  some (q_3.1, q_3.2.1, q_3.2.2))))
def f_X5_isSameAt_2 (v1_1 : Int32) (I : MI) (L : ML) : Nat → Int32 → Option Bool
  | 0, _ => none
  | n + 1, v2_2 =>
    if ((I 1 3) - (I 1 5)) ≤ v2_2 then
    some true
    else
    chk (inb (v1_1 + v2_2) 400) (
    chk (inb ((I 1 5) + v2_2) 400) (
    if (I 2 (ix (v1_1 + v2_2))) = (I 2 (ix ((I 1 5) + v2_2))) then
    bnd (v2_2 + 1 : Int32) (fun v2_3 =>
    f_X5_isSameAt_2 v1_1 I L n v2_3)
    else
    some false))
def f_X5_isSameAt (a1 : Int32) (I : MI) (L : ML) : Option Bool :=
  f_X5_isSameAt_2 a1 I L FU 0
def f_X5_named_2 (I : MI) (L : ML) : Nat → Int32 → Option Int32
  | 0, _ => none
  | n + 1, v1_1 =>
    if (I 1 8) ≤ v1_1 then
    some (-1)
    else
    chk (inb v1_1 6) (
    if (I 5 (ix v1_1)) = ((I 1 3) - (I 1 5)) then
    chk (inb v1_1 6) (
    Option.bind (f_X5_isSameAt (I 4 (ix v1_1)) I L) (fun q_3 =>
    if (b2i q_3) = 0 then
    bnd (v1_1 + 1 : Int32) (fun v1_4 =>
    f_X5_named_2 I L n v1_4)
    else
    some v1_1))
    else
    bnd (v1_1 + 1 : Int32) (fun v1_2 =>
    f_X5_named_2 I L n v1_2))
def f_X5_named (I : MI) (L : ML) : Option Int32 :=
  f_X5_named_2 I L FU 0
def f_X5_readNewName (I : MI) (L : ML) : Option (Bool × Mm) :=
  Option.bind (f_X5_needName I L) (fun q_1 =>
  if (b2i q_1.1) = 0 then
  some (false, q_1.2.1, q_1.2.2)
  else
  Option.bind (f_X5_named q_1.2.1 q_1.2.2) (fun q_2 =>
  if q_2 < 0 then
  chk (inb (q_1.2.1 1 8) 6) (bnd (up2 q_1.2.1 4 (ix (q_1.2.1 1 8)) (q_1.2.1 1 5)) (fun I_3 =>
  chk (inb (I_3 1 8) 6) (bnd (up2 I_3 5 (ix (I_3 1 8)) ((I_3 1 3) - (I_3 1 5))) (fun I_4 =>
  Option.bind (f_X5_scan I_4 q_1.2.2) (fun q_5 =>
  some (true, q_5.1, q_5.2))))))
  else
  Option.bind (f_X5_fail 4 q_1.2.1 q_1.2.2) (fun q_6 =>
  some (q_6.1, q_6.2.1, q_6.2.2))))
def f_X5_readCycle_19 (v1_3 : Int32) (k0 : MI → ML → Option (Bool × Mm)) (k1 : MI → ML → Option (Bool × Mm)) (k2 : Int32 → MI → ML → Option (Bool × Mm)) : Nat → Int32 → Int32 → MI → ML → Option (Bool × Mm)
  | 0, _, _, _, _ => none
  | n + 1, v2_4, v3_5, I_6, L_7 =>
    if 400 < v3_5 then
    (k2 v2_4 I_6 L_7)
    else
    if (I_6 1 4) = 2 then
    if (I_6 1 6) < (I_6 1 7) then
    if ((shr (I_6 1 13) (I_6 1 6)) &&& 1) = 0 then
    bnd (up2 I_6 1 13 ((I_6 1 13) ||| (shl 1 (I_6 1 6)))) (fun I_8 =>
    if v2_4 = (-1) then
    bnd ((I_8 1 6) : Int32) (fun v2_9 =>
    Option.bind (f_X5_scan I_8 L_7) (fun q_10 =>
    bnd (v3_5 + 1 : Int32) (fun v3_11 =>
    f_X5_readCycle_19 v1_3 k0 k1 k2 n v2_9 v3_11 q_10.1 q_10.2)))
    else
    Option.bind (f_X6_with (L_7 1 12) v2_4 (I_8 1 6)) (fun q_12 =>
    bnd (up2 L_7 1 12 q_12) (fun L_13 =>
    bnd ((I_8 1 6) : Int32) (fun v2_14 =>
    Option.bind (f_X5_scan I_8 L_13) (fun q_15 =>
    bnd (v3_5 + 1 : Int32) (fun v3_16 =>
    f_X5_readCycle_19 v1_3 k0 k1 k2 n v2_14 v3_16 q_15.1 q_15.2))))))
    else
    (k1 I_6 L_7)
    else
    (k0 I_6 L_7)
    else
    (k2 v2_4 I_6 L_7)
def f_X5_readCycle (I : MI) (L : ML) : Option (Bool × Mm) :=
  Option.bind (f_X5_need 2 I L) (fun q_1 =>
  if (b2i q_1.1) = 0 then
  some (false, q_1.2.1, q_1.2.2)
  else
  bnd ((q_1.2.1 1 6) : Int32) (fun v1_2 =>
  f_X5_readCycle_19 v1_2 (fun (I_17 : MI) (L_18 : ML) =>
  Option.bind (f_X5_fail 3 I_17 L_18) (fun q_19 =>
  some (q_19.1, q_19.2.1, q_19.2.2))) (fun (I_20 : MI) (L_21 : ML) =>
  Option.bind (f_X5_fail 4 I_20 L_21) (fun q_22 =>
  some (q_22.1, q_22.2.1, q_22.2.2))) (fun (v2_23 : Int32) (I_24 : MI) (L_25 : ML) =>
  Option.bind (f_X6_with (L_25 1 12) v2_23 v1_2) (fun q_26 =>
  bnd (up2 L_25 1 12 q_26) (fun L_27 =>
  some (true, I_24, L_27)))) FU (-1) 0 q_1.2.1 q_1.2.2))
def f_X5_readSign (a1 : Int32) (I : MI) (L : ML) : Option (Bool × Mm) :=
  Option.bind (f_X5_need a1 I L) (fun q_1 =>
  if (b2i q_1.1) = 0 then
  some (false, q_1.2.1, q_1.2.2)
  else
  Option.bind (f_X5_scan q_1.2.1 q_1.2.2) (fun q_2 =>
  some (true, q_2.1, q_2.2)))
def f_X5_readCycles_18 : Nat → Int32 → MI → ML → Option (Bool × Mm)
  | 0, _, _, _ => none
  | n + 1, v1_3, I_4, L_5 =>
    if 400 < v1_3 then
    some (true, I_4, L_5)
    else
    if (I_4 1 4) = 40 then
    Option.bind (f_X5_scan I_4 L_5) (fun q_6 =>
    Option.bind (f_X5_readCycle q_6.1 q_6.2) (fun q_7 =>
    if (b2i q_7.1) = 0 then
    some (false, q_7.2.1, q_7.2.2)
    else
    Option.bind (f_X5_readSign 41 q_7.2.1 q_7.2.2) (fun q_8 =>
    if (b2i q_8.1) = 0 then
    some (false, q_8.2.1, q_8.2.2)
    else
    bnd (v1_3 + 1 : Int32) (fun v1_9 =>
    f_X5_readCycles_18 n v1_9 q_8.2.1 q_8.2.2))))
    else
    some (true, I_4, L_5)
def f_X5_readCycles (I : MI) (L : ML) : Option (Bool × Mm) :=
  bnd (up2 I 1 13 0) (fun I_1 =>
  Option.bind (f_X5_need 40 I_1 L) (fun q_2 =>
  if (b2i q_2.1) = 0 then
  some (false, q_2.2.1, q_2.2.2)
  else
  f_X5_readCycles_18 FU 0 q_2.2.1 q_2.2.2))
def f_X5_readItem (I : MI) (L : ML) : Option (Bool × Mm) :=
  Option.bind (f_X5_needName I L) (fun q_1 =>
  if (b2i q_1.1) = 0 then
  some (false, q_1.2.1, q_1.2.2)
  else
  Option.bind (f_X5_named q_1.2.1 q_1.2.2) (fun q_2 =>
  if 0 ≤ q_2 then
  chk (inb q_2 6) (
  bnd ((q_1.2.2 3 (ix q_2)) : Int64) (fun v2_3 =>
  Option.bind (f_X5_scan q_1.2.1 q_1.2.2) (fun q_4 =>
  if (q_4.1 1 4) = 39 then
  Option.bind (f_X6_invert v2_3 (q_4.1 1 7)) (fun q_7 =>
  Option.bind (f_X5_scan q_4.1 q_4.2) (fun q_8 =>
  Option.bind (f_X6_compose (q_8.2 1 12) q_7 (q_8.1 1 7)) (fun q_9 =>
  bnd (up2 q_8.2 1 12 q_9) (fun L_10 =>
  some (true, q_8.1, L_10)))))
  else
  Option.bind (f_X6_compose (q_4.2 1 12) v2_3 (q_4.1 1 7)) (fun q_5 =>
  bnd (up2 q_4.2 1 12 q_5) (fun L_6 =>
  some (true, q_4.1, L_6))))))
  else
  Option.bind (f_X5_fail 4 q_1.2.1 q_1.2.2) (fun q_11 =>
  some (q_11.1, q_11.2.1, q_11.2.2))))
def f_X5_readItems_12 : Nat → Int32 → MI → ML → Option (Bool × Mm)
  | 0, _, _, _ => none
  | n + 1, v1_2, I_3, L_4 =>
    if 400 < v1_2 then
    some (true, I_3, L_4)
    else
    if (I_3 1 4) = 1 then
    Option.bind (f_X5_readItem I_3 L_4) (fun q_5 =>
    if (b2i q_5.1) = 0 then
    some (false, q_5.2.1, q_5.2.2)
    else
    bnd (v1_2 + 1 : Int32) (fun v1_6 =>
    f_X5_readItems_12 n v1_6 q_5.2.1 q_5.2.2))
    else
    some (true, I_3, L_4)
def f_X5_readItems (I : MI) (L : ML) : Option (Bool × Mm) :=
  Option.bind (f_X5_need 1 I L) (fun q_1 =>
  if (b2i q_1.1) = 0 then
  some (false, q_1.2.1, q_1.2.2)
  else
  f_X5_readItems_12 FU 0 q_1.2.1 q_1.2.2)
def f_X5_readMove (I : MI) (L : ML) : Option (Bool × Mm) :=
  Option.bind (f_X5_need 1 I L) (fun q_1 =>
  if (b2i q_1.1) = 0 then
  some (false, q_1.2.1, q_1.2.2)
  else
  Option.bind (f_X5_says 1 q_1.2.1 q_1.2.2) (fun q_2 =>
  bnd ((b2i q_2) : Int32) (fun v1_3 =>
  bnd ((if (q_1.2.1 1 8) < 6 then
  Option.bind (f_X5_scan q_1.2.1 q_1.2.2) (fun q_6 =>
  Option.bind (f_X5_readNewName q_6.1 q_6.2) (fun q_7 =>
  if (b2i q_7.1) = 0 then
  some (false, q_7.2.1, q_7.2.2)
  else
  Option.bind (f_X6_identity (q_7.2.1 1 7)) (fun q_8 =>
  bnd (up2 q_7.2.2 1 12 q_8) (fun L_9 =>
  bnd ((fun (I_12 : MI) (L_13 : ML) =>
  chk (inb (I_12 1 8) 6) (bnd (up2 L_13 3 (ix (I_12 1 8)) (L_13 1 12)) (fun L_14 =>
  bnd (up2 I_12 1 8 ((I_12 1 8) + 1)) (fun I_15 =>
  some (true, I_15, L_14))))) : MI → ML → Option (Bool × Mm)) (fun j98_53 =>
  if v1_3 = 0 then
  Option.bind (f_X5_readItems q_7.2.1 L_9) (fun q_10 =>
  if (b2i q_10.1) = 0 then
  some (false, q_10.2.1, q_10.2.2)
  else
  (j98_53 q_10.2.1 q_10.2.2))
  else
  Option.bind (f_X5_readCycles q_7.2.1 L_9) (fun q_11 =>
  if (b2i q_11.1) = 0 then
  some (false, q_11.2.1, q_11.2.2)
  else
  (j98_53 q_11.2.1 q_11.2.2)))))))
  else
  Option.bind (f_X5_fail 5 q_1.2.1 q_1.2.2) (fun q_16 =>
  some (q_16.1, q_16.2.1, q_16.2.2))) : Option (Bool × Mm)) (fun j36_52 =>
  if v1_3 = 0 then
  Option.bind (f_X5_says 2 q_1.2.1 q_1.2.2) (fun q_4 =>
  if (b2i q_4) = 0 then
  Option.bind (f_X5_fail 2 q_1.2.1 q_1.2.2) (fun q_5 =>
  some (q_5.1, q_5.2.1, q_5.2.2))
  else
  j36_52)
  else
  j36_52))))
def f_X5_parse_50 : Nat → Int32 → Int32 → MI → ML → Option (Bool × Mm)
  | 0, _, _, _, _ => none
  | n + 1, v2_9, v3_10, I_11, L_12 =>
    if 400 < v3_10 then
    chk (isz v2_9) (some (i2z v2_9, I_11, L_12))
    else
    if v2_9 = 0 then
    chk (isz v2_9) (some (i2z v2_9, I_11, L_12))
    else
    if (I_11 1 4) = 0 then
    chk (isz v2_9) (some (i2z v2_9, I_11, L_12))
    else
    if (I_11 1 7) = 0 then
    Option.bind (f_X5_readPoints I_11 L_12) (fun q_18 =>
    if (b2i q_18.1) = 0 then
    bnd (v3_10 + 1 : Int32) (fun v3_19 =>
    f_X5_parse_50 n 0 v3_19 q_18.2.1 q_18.2.2)
    else
    Option.bind (f_X5_readSign 59 q_18.2.1 q_18.2.2) (fun q_20 =>
    if (b2i q_20.1) = 0 then
    bnd (v3_10 + 1 : Int32) (fun v3_21 =>
    f_X5_parse_50 n 0 v3_21 q_20.2.1 q_20.2.2)
    else
    bnd (v3_10 + 1 : Int32) (fun v3_22 =>
    f_X5_parse_50 n 1 v3_22 q_20.2.1 q_20.2.2)))
    else
    Option.bind (f_X5_readMove I_11 L_12) (fun q_13 =>
    if (b2i q_13.1) = 0 then
    bnd (v3_10 + 1 : Int32) (fun v3_14 =>
    f_X5_parse_50 n 0 v3_14 q_13.2.1 q_13.2.2)
    else
    Option.bind (f_X5_readSign 59 q_13.2.1 q_13.2.2) (fun q_15 =>
    if (b2i q_15.1) = 0 then
    bnd (v3_10 + 1 : Int32) (fun v3_16 =>
    f_X5_parse_50 n 0 v3_16 q_15.2.1 q_15.2.2)
    else
    bnd (v3_10 + 1 : Int32) (fun v3_17 =>
    f_X5_parse_50 n 1 v3_17 q_15.2.1 q_15.2.2)))
def f_X5_parse (a1 : Int32) (I : MI) (L : ML) : Option (Bool × Mm) :=
  bnd (up2 I 1 2 (imin a1 (I 1 1))) (fun I_1 =>
  bnd (up2 I_1 1 3 0) (fun I_2 =>
  bnd (up2 I_2 1 7 0) (fun I_3 =>
  bnd (up2 I_3 1 8 0) (fun I_4 =>
  bnd (up2 I_4 1 14 0) (fun I_5 =>
  bnd (up2 I_5 1 15 (-1)) (fun I_6 =>
  bnd (up2 I_6 1 1 0) (fun I_7 =>
  Option.bind (f_X5_scan I_7 L) (fun q_8 =>
  f_X5_parse_50 FU 1 0 q_8.1 q_8.2))))))))
