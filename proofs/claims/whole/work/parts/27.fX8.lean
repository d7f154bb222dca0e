def f_X8_isHome_2 (a0 : Nat) (L : ML) : Nat → Int32 → MI → Option Mm
  | 0, _, _ => none
  | n + 1, v1_1, I_2 =>
    if 10 ≤ v1_1 then
    some (I_2, L)
    else
    chk (inb v1_1 10) (bnd (up2 I_2 a0 (ix v1_1) v1_1) (fun I_3 =>
    bnd (v1_1 + 1 : Int32) (fun v1_4 =>
    f_X8_isHome_2 a0 L n v1_4 I_3)))
def f_X8_isHome (a0 : Nat) (I : MI) (L : ML) : Option Mm :=
  f_X8_isHome_2 a0 L FU 0 I
def f_X8_copies_3 (a0 : Nat) (a0n : Nat) (a2 : Nat) (a2n : Nat) (v1_1 : Int32) (v3_2 : Int32) (L : ML) : Nat → Int32 → MI → Option Mm
  | 0, _, _ => none
  | n + 1, v4_3, I_4 =>
    if 10 ≤ v4_3 then
    some (I_4, L)
    else
    chk (inb (v1_1 + v4_3) a0n) (
    chk (inb (v3_2 + v4_3) a2n) (bnd (up2 I_4 a2 (ix (v3_2 + v4_3)) (I_4 a0 (ix (v1_1 + v4_3)))) (fun I_5 =>
    bnd (v4_3 + 1 : Int32) (fun v4_6 =>
    f_X8_copies_3 a0 a0n a2 a2n v1_1 v3_2 L n v4_6 I_5))))
def f_X8_copies (a0 : Nat) (a0n : Nat) (a1 : Int32) (a2 : Nat) (a2n : Nat) (a3 : Int32) (I : MI) (L : ML) : Option Mm :=
  f_X8_copies_3 a0 a0n a2 a2n a1 a3 L FU 0 I
def f_X8_status (I : MI) (L : ML) : Option (Int32 × Mm) :=
  bnd (up2 I 43 1 0) (fun I_1 =>
  some ((I_1 43 0), I_1, L))
def f_X8_refuse (a1 : Int32) (I : MI) (L : ML) : Option (Int32 × Mm) :=
  bnd (up2 I 43 0 a1) (fun I_1 =>
  some ((-1), I_1, L))
def f_X8_is (a1 : Int32) (I : MI) (L : ML) : Option (Bool × Mm) :=
  bnd (up2 I 43 1 0) (fun I_1 =>
  bnd (up2 I_1 43 0 a1) (fun I_2 =>
  if a1 = 0 then
  some (true, I_2, L)
  else
  some (false, I_2, L)))
def f_X8_isIn (a0 : Int64) (a2 : Int64) (a4 : Int64) : Option Bool :=
  if (lg_cmp a0 a2) < 0 then
  some false
  else
  if 0 < (lg_cmp a0 a4) then
  some false
  else
  some true
def f_X8_bit (a0 : Int32) (a1 : Int32) : Option Bool :=
  if ((shr a0 a1) &&& 1) = 1 then
  some true
  else
  some false
def f_X8_bits_4 : Nat → Int32 → Int32 → Option Int32
  | 0, _, _ => none
  | n + 1, v1_1, v2_2 =>
    if v2_2 = 0 then
    some v1_1
    else
    bnd (v1_1 + 1 : Int32) (fun v1_3 =>
    bnd ((v2_2 &&& (v2_2 - 1)) : Int32) (fun v2_4 =>
    f_X8_bits_4 n v1_3 v2_4))
def f_X8_bits (a0 : Int32) : Option Int32 :=
  f_X8_bits_4 FU 0 a0
def f_X8_common_4 : Nat → Int32 → Int32 → Option Int32
  | 0, _, _ => none
  | n + 1, v2_1, v3_2 =>
    if v3_2 = 0 then
    some v2_1
    else
    chk (decide ((v3_2 : Int32) ≠ 0)) (
    bnd ((irem v2_1 v3_2) : Int32) (fun v4_3 =>
    f_X8_common_4 n v3_2 v4_3))
def f_X8_common (a0 : Int32) (a1 : Int32) : Option Int32 :=
  f_X8_common_4 FU a0 a1
def f_X8_moves (I : MI) (L : ML) : Option Int32 :=
  chk (inb 0 71) (
  some (I 44 (ix 0)))
def f_X8_isMove (a1 : Int32) (I : MI) (L : ML) : Option Bool :=
  Option.bind (f_X8_moves I L) (fun q_1 =>
  Option.bind (f_X8_isIn (Int32.toInt64 a1) 0 (Int32.toInt64 (q_1 - 1))) (fun q_2 =>
  some q_2))
def f_X8_isStep (a1 : Int32) (I : MI) (L : ML) : Option Bool :=
  Option.bind (f_X8_moves I L) (fun q_1 =>
  Option.bind (f_X8_isIn (Int32.toInt64 a1) 0 (Int32.toInt64 ((2 * q_1) - 1))) (fun q_2 =>
  some q_2))
def f_X8_isPoint (a1 : Int32) (I : MI) (L : ML) : Option Bool :=
  Option.bind (f_X8_isIn (Int32.toInt64 a1) 0 (Int32.toInt64 ((I 43 2) - 1))) (fun q_1 =>
  some q_1)
def f_X8_isSet (a1 : Int32) (I : MI) (L : ML) : Option Bool :=
  Option.bind (f_X8_isIn (Int32.toInt64 a1) 1 (Int32.toInt64 ((shl 1 (I 43 2)) - 1))) (fun q_1 =>
  some q_1)
def f_X8_areMoves (a1 : Int32) (I : MI) (L : ML) : Option Bool :=
  Option.bind (f_X8_moves I L) (fun q_1 =>
  Option.bind (f_X8_isIn (Int32.toInt64 a1) 0 (Int32.toInt64 ((shl 1 q_1) - 1))) (fun q_2 =>
  some q_2))
def f_X8_remembers_11 (L : ML) (k0 : MI → Option Mm) : Nat → Int32 → MI → Option Mm
  | 0, _, _ => none
  | n + 1, v1_1, I_2 =>
    if 781 ≤ v1_1 then
    (k0 I_2)
    else
    chk (inb (v1_1 + 71) 852) (
    chk (inb v1_1 852) (bnd (up2 I_2 45 (ix v1_1) (I_2 45 (ix (v1_1 + 71)))) (fun I_3 =>
    bnd (v1_1 + 1 : Int32) (fun v1_4 =>
    f_X8_remembers_11 L k0 n v1_4 I_3))))
def f_X8_remembers_51 (L : ML) (k0 : MI → Option Mm) : Nat → Int32 → MI → Option Mm
  | 0, _, _ => none
  | n + 1, v1_8, I_9 =>
    if 71 ≤ v1_8 then
    (k0 I_9)
    else
    chk (inb v1_8 71) (
    chk (inb ((71 * (I_9 43 3)) + v1_8) 852) (bnd (up2 I_9 45 (ix ((71 * (I_9 43 3)) + v1_8)) (I_9 44 (ix v1_8))) (fun I_10 =>
    bnd (v1_8 + 1 : Int32) (fun v1_11 =>
    f_X8_remembers_51 L k0 n v1_11 I_10))))
def f_X8_remembers (I : MI) (L : ML) : Option Mm :=
  bnd ((fun (I_7 : MI) =>
  f_X8_remembers_51 L (fun (I_12 : MI) =>
  bnd (up2 I_12 43 3 ((I_12 43 3) + 1)) (fun I_13 =>
  some (I_13, L))) FU 0 I_7) : MI → Option Mm) (fun j49_173 =>
  if (I 43 3) = 12 then
  f_X8_remembers_11 L (fun (I_5 : MI) =>
  bnd (up2 I_5 43 3 ((I_5 43 3) - 1)) (fun I_6 =>
  (j49_173 I_6))) FU 0 I
  else
  (j49_173 I))
def f_X8_makes_2 (a0 : Nat) (a1 : Nat) (a2 : Nat) (L : ML) : Nat → Int32 → MI → Option Mm
  | 0, _, _ => none
  | n + 1, v3_1, I_2 =>
    if 10 ≤ v3_1 then
    some (I_2, L)
    else
    chk (inb v3_1 10) (
    chk (inb (I_2 a0 (ix v3_1)) 10) (
    chk (inb v3_1 10) (bnd (up2 I_2 a2 (ix v3_1) (I_2 a1 (ix (I_2 a0 (ix v3_1))))) (fun I_3 =>
    bnd (v3_1 + 1 : Int32) (fun v3_4 =>
    f_X8_makes_2 a0 a1 a2 L n v3_4 I_3)))))
def f_X8_makes (a0 : Nat) (a1 : Nat) (a2 : Nat) (I : MI) (L : ML) : Option Mm :=
  f_X8_makes_2 a0 a1 a2 L FU 0 I
def f_X8_inverts_2 (a0 : Nat) (a1 : Nat) (L : ML) : Nat → Int32 → MI → Option Mm
  | 0, _, _ => none
  | n + 1, v2_1, I_2 =>
    if 10 ≤ v2_1 then
    some (I_2, L)
    else
    chk (inb v2_1 10) (
    chk (inb (I_2 a0 (ix v2_1)) 10) (bnd (up2 I_2 a1 (ix (I_2 a0 (ix v2_1))) v2_1) (fun I_3 =>
    bnd (v2_1 + 1 : Int32) (fun v2_4 =>
    f_X8_inverts_2 a0 a1 L n v2_4 I_3))))
def f_X8_inverts (a0 : Nat) (a1 : Nat) (I : MI) (L : ML) : Option Mm :=
  f_X8_inverts_2 a0 a1 L FU 0 I
def f_X8_areSame_2 (a0 : Nat) (a1 : Nat) (I : MI) (L : ML) : Nat → Int32 → Option Bool
  | 0, _ => none
  | n + 1, v2_1 =>
    if 10 ≤ v2_1 then
    some true
    else
    chk (inb v2_1 10) (
    chk (inb v2_1 10) (
    if (I a0 (ix v2_1)) = (I a1 (ix v2_1)) then
    bnd (v2_1 + 1 : Int32) (fun v2_2 =>
    f_X8_areSame_2 a0 a1 I L n v2_2)
    else
    some false))
def f_X8_areSame (a0 : Nat) (a1 : Nat) (I : MI) (L : ML) : Option Bool :=
  f_X8_areSame_2 a0 a1 I L FU 0
def f_X8_stays_2 (a0 : Nat) (I : MI) (L : ML) : Nat → Int32 → Option Bool
  | 0, _ => none
  | n + 1, v1_1 =>
    if 10 ≤ v1_1 then
    some true
    else
    chk (inb v1_1 10) (
    if (I a0 (ix v1_1)) = v1_1 then
    bnd (v1_1 + 1 : Int32) (fun v1_2 =>
    f_X8_stays_2 a0 I L n v1_2)
    else
    some false)
def f_X8_stays (a0 : Nat) (I : MI) (L : ML) : Option Bool :=
  f_X8_stays_2 a0 I L FU 0
def f_X8_lies_18 (a3 : Nat) (v1_3 : Int64) (L : ML) (k0 : Int32 → Int64 → MI → Option (Bool × Mm)) : Nat → Int32 → Int64 → Int32 → MI → Option (Bool × Mm)
  | 0, _, _, _, _ => none
  | n + 1, v4_4, v5_5, v7_6, I_7 =>
    if v7_6 < 0 then
    (k0 v4_4 v5_5 I_7)
    else
    chk (decide ((10 : Int64) ≠ 0)) (
    chk (inb v7_6 10) (bnd (up2 I_7 a3 (ix v7_6) (Int64.toInt32 (lrem v5_5 10))) (fun I_8 =>
    if 0 ≤ (lg_cmp v5_5 0) then
    chk (inb v7_6 10) (
    bnd ((v4_4 ||| (shl 1 (I_8 a3 (ix v7_6)))) : Int32) (fun v4_9 =>
    chk (decide ((10 : Int64) ≠ 0)) (
    bnd ((v5_5 / 10) : Int64) (fun v5_10 =>
    bnd (v7_6 + (-1) : Int32) (fun v7_11 =>
    f_X8_lies_18 a3 v1_3 L k0 n v4_9 v5_10 v7_11 I_8)))))
    else
    bnd ((v4_4 ||| 0) : Int32) (fun v4_12 =>
    chk (decide ((10 : Int64) ≠ 0)) (
    bnd ((v5_5 / 10) : Int64) (fun v5_13 =>
    bnd (v7_6 + (-1) : Int32) (fun v7_14 =>
    f_X8_lies_18 a3 v1_3 L k0 n v4_12 v5_13 v7_14 I_8)))))))
def f_X8_lies (a1 : Int64) (a3 : Nat) (I : MI) (L : ML) : Option (Bool × Mm) :=
  Option.bind (f_X8_isHome a3 I L) (fun q_1 =>
  bnd (((q_1.1 43 2) - 1) : Int32) (fun v7_2 =>
  f_X8_lies_18 a3 a1 q_1.2 (fun (v4_15 : Int32) (v5_16 : Int64) (I_17 : MI) =>
  if (I_17 43 2) ≤ 0 then
  some (false, I_17, q_1.2)
  else
  if (lg_cmp a1 0) < 0 then
  some (false, I_17, q_1.2)
  else
  if (lg_cmp v5_16 0) = 0 then
  if v4_15 = ((shl 1 (I_17 43 2)) - 1) then
  some (true, I_17, q_1.2)
  else
  some (false, I_17, q_1.2)
  else
  some (false, I_17, q_1.2)) FU 0 a1 v7_2 q_1.1))
def f_X8_told_5 (a1 : Nat) (I : MI) (L : ML) : Nat → Int64 → Int32 → Option Int64
  | 0, _, _ => none
  | n + 1, v2_1, v4_2 =>
    if (I 43 2) ≤ v4_2 then
    some v2_1
    else
    chk (inb v4_2 10) (
    bnd (((10 * v2_1) + (Int32.toInt64 (I a1 (ix v4_2)))) : Int64) (fun v2_3 =>
    bnd (v4_2 + 1 : Int32) (fun v4_4 =>
    f_X8_told_5 a1 I L n v2_3 v4_4)))
def f_X8_told (a1 : Nat) (I : MI) (L : ML) : Option Int64 :=
  f_X8_told_5 a1 I L FU 0 0
def f_X8_laysMove (a1 : Int32) (a2 : Nat) (I : MI) (L : ML) : Option Mm :=
  Option.bind (f_X8_copies 44 71 (11 + (10 * a1)) a2 10 0 I L) (fun q_1 =>
  some (q_1.1, q_1.2))
def f_X8_laysStep (a1 : Int32) (a2 : Nat) (I : MI) (L : ML) : Option Mm :=
  chk (decide ((2 : Int32) ≠ 0)) (
  Option.bind (f_X8_laysMove (a1 / 2) a2 I L) (fun q_1 =>
  chk (decide ((2 : Int32) ≠ 0)) (
  if (irem a1 2) = 0 then
  some (q_1.1, q_1.2)
  else
  Option.bind (f_X8_copies a2 10 0 51 10 0 q_1.1 q_1.2) (fun q_2 =>
  Option.bind (f_X8_inverts 51 a2 q_2.1 q_2.2) (fun q_3 =>
  some (q_3.1, q_3.2))))))
def f_X8_laysStand (a1 : Nat) (I : MI) (L : ML) : Option Mm :=
  Option.bind (f_X8_copies 44 71 1 a1 10 0 I L) (fun q_1 =>
  some (q_1.1, q_1.2))
def f_X8_clears_53 (v1_11 : Int32) (v2_12 : Int32) (L : ML) (k0 : MI → Option Mm) : Nat → Int32 → MI → Option Mm
  | 0, _, _ => none
  | n + 1, v3_13, I_14 =>
    if 10 ≤ v3_13 then
    (k0 I_14)
    else
    chk (inb ((((1000 * v1_11) + (100 * v2_12)) + (10 * v2_12)) + v3_13) 4000) (bnd (up2 I_14 53 (ix ((((1000 * v1_11) + (100 * v2_12)) + (10 * v2_12)) + v3_13)) v3_13) (fun I_15 =>
    bnd (v3_13 + 1 : Int32) (fun v3_16 =>
    f_X8_clears_53 v1_11 v2_12 L k0 n v3_16 I_15)))
def f_X8_clears_28 (v1_7 : Int32) (L : ML) : Nat → Int32 → MI → Option Mm
  | 0, _, _ => none
  | n + 1, v2_8, I_9 =>
    if 10 ≤ v2_8 then
    some (I_9, L)
    else
    chk (inb (((100 * v1_7) + (10 * v2_8)) + v2_8) 400) (bnd (up2 I_9 52 (ix (((100 * v1_7) + (10 * v2_8)) + v2_8)) (vp_nar .boolean 1)) (fun I_10 =>
    f_X8_clears_53 v1_7 v2_8 L (fun (I_17 : MI) =>
    bnd (v2_8 + 1 : Int32) (fun v2_18 =>
    f_X8_clears_28 v1_7 L n v2_18 I_17)) FU 0 I_10))
def f_X8_clears_2 (v1_1 : Int32) (L : ML) (k0 : MI → Option Mm) : Nat → Int32 → MI → Option Mm
  | 0, _, _ => none
  | n + 1, v2_2, I_3 =>
    if 100 ≤ v2_2 then
    (k0 I_3)
    else
    chk (inb ((100 * v1_1) + v2_2) 400) (bnd (up2 I_3 52 (ix ((100 * v1_1) + v2_2)) (vp_nar .boolean 0)) (fun I_4 =>
    bnd (v2_2 + 1 : Int32) (fun v2_5 =>
    f_X8_clears_2 v1_1 L k0 n v2_5 I_4)))
def f_X8_clears (a1 : Int32) (I : MI) (L : ML) : Option Mm :=
  f_X8_clears_2 a1 L (fun (I_6 : MI) =>
  f_X8_clears_28 a1 L FU 0 I_6) FU 0 I
def f_X8_laysCell (a1 : Int32) (a2 : Int32) (a3 : Int32) (a4 : Nat) (I : MI) (L : ML) : Option Mm :=
  Option.bind (f_X8_copies 53 4000 (((1000 * a1) + (100 * a2)) + (10 * a3)) a4 10 0 I L) (fun q_1 =>
  some (q_1.1, q_1.2))
def f_X8_sifts_12 (a2 : Nat) (v1_2 : Int32) : Nat → Int32 → MI → ML → Option (Int32 × Mm)
  | 0, _, _, _ => none
  | n + 1, v3_3, I_4, L_5 =>
    if 10 ≤ v3_3 then
    some (10, I_4, L_5)
    else
    chk (inb v3_3 10) (
    bnd ((I_4 56 (ix v3_3)) : Int32) (fun v4_6 =>
    chk (inb (((100 * v1_2) + (10 * v3_3)) + v4_6) 400) (
    if (I_4 52 (ix (((100 * v1_2) + (10 * v3_3)) + v4_6))) = 0 then
    some (v3_3, I_4, L_5)
    else
    if v4_6 = v3_3 then
    bnd (v3_3 + 1 : Int32) (fun v3_12 =>
    f_X8_sifts_12 a2 v1_2 n v3_12 I_4 L_5)
    else
    Option.bind (f_X8_laysCell v1_2 v3_3 v4_6 54 I_4 L_5) (fun q_7 =>
    Option.bind (f_X8_inverts 54 55 q_7.1 q_7.2) (fun q_8 =>
    Option.bind (f_X8_copies 56 10 0 54 10 0 q_8.1 q_8.2) (fun q_9 =>
    Option.bind (f_X8_makes 54 55 56 q_9.1 q_9.2) (fun q_10 =>
    bnd (v3_3 + 1 : Int32) (fun v3_11 =>
    f_X8_sifts_12 a2 v1_2 n v3_11 q_10.1 q_10.2))))))))
def f_X8_sifts (a1 : Int32) (a2 : Nat) (I : MI) (L : ML) : Option (Int32 × Mm) :=
  Option.bind (f_X8_copies a2 10 0 56 10 0 I L) (fun q_1 =>
  f_X8_sifts_12 a2 a1 FU 0 q_1.1 q_1.2)
def f_X8_isMember (a1 : Int32) (a2 : Nat) (I : MI) (L : ML) : Option (Bool × Mm) :=
  Option.bind (f_X8_sifts a1 a2 I L) (fun q_1 =>
  if q_1.1 = 10 then
  some (true, q_1.2.1, q_1.2.2)
  else
  some (false, q_1.2.1, q_1.2.2))
def f_X8_comesTo (a1 : Int32) (a2 : Nat) (I : MI) (L : ML) : Option (Bool × Mm) :=
  Option.bind (f_X8_sifts a1 a2 I L) (fun q_1 =>
  bnd (q_1.1 : Int32) (fun v3_2 =>
  if v3_2 = 10 then
  some (false, q_1.2.1, q_1.2.2)
  else
  chk (inb v3_2 10) (
  chk (inb (((100 * a1) + (10 * v3_2)) + (q_1.2.1 56 (ix v3_2))) 400) (bnd (up2 q_1.2.1 52 (ix (((100 * a1) + (10 * v3_2)) + (q_1.2.1 56 (ix v3_2)))) (vp_nar .boolean 1)) (fun I_3 =>
  chk (inb v3_2 10) (
  Option.bind (f_X8_copies 56 10 0 53 4000 (((1000 * a1) + (100 * v3_2)) + (10 * (I_3 56 (ix v3_2)))) I_3 q_1.2.2) (fun q_4 =>
  some (true, q_4.1, q_4.2))))))))
def f_X8_closes_47 (v1_11 : Int32) (v3_13 : Int32) (k0 : Int32 → MI → ML → Option Mm) : Nat → Int32 → Int32 → MI → ML → Option Mm
  | 0, _, _, _, _ => none
  | n + 1, v2_12, v4_14, I_15, L_16 =>
    if 100 ≤ v4_14 then
    (k0 v2_12 I_15 L_16)
    else
    chk (inb ((100 * v1_11) + v4_14) 400) (
    if (I_15 52 (ix ((100 * v1_11) + v4_14))) = 0 then
    bnd (v4_14 + 1 : Int32) (fun v4_17 =>
    f_X8_closes_47 v1_11 v3_13 k0 n v2_12 v4_17 I_15 L_16)
    else
    chk (decide ((10 : Int32) ≠ 0)) (
    chk (decide ((10 : Int32) ≠ 0)) (
    if (v4_14 / 10) = (irem v4_14 10) then
    bnd (v4_14 + 1 : Int32) (fun v4_24 =>
    f_X8_closes_47 v1_11 v3_13 k0 n v2_12 v4_24 I_15 L_16)
    else
    chk (decide ((10 : Int32) ≠ 0)) (
    chk (decide ((10 : Int32) ≠ 0)) (
    Option.bind (f_X8_laysCell v1_11 (v3_13 / 10) (irem v3_13 10) 57 I_15 L_16) (fun q_18 =>
    chk (decide ((10 : Int32) ≠ 0)) (
    chk (decide ((10 : Int32) ≠ 0)) (
    Option.bind (f_X8_laysCell v1_11 (v4_14 / 10) (irem v4_14 10) 58 q_18.1 q_18.2) (fun q_19 =>
    Option.bind (f_X8_makes 57 58 59 q_19.1 q_19.2) (fun q_20 =>
    Option.bind (f_X8_comesTo v1_11 59 q_20.1 q_20.2) (fun q_21 =>
    bnd ((v2_12 ||| (b2i q_21.1)) : Int32) (fun v2_22 =>
    bnd (v4_14 + 1 : Int32) (fun v4_23 =>
    f_X8_closes_47 v1_11 v3_13 k0 n v2_22 v4_23 q_21.2.1 q_21.2.2)))))))))))))
def f_X8_closes_10 (v1_5 : Int32) (k0 : Int32 → MI → ML → Option Mm) : Nat → Int32 → Int32 → MI → ML → Option Mm
  | 0, _, _, _, _ => none
  | n + 1, v2_6, v3_7, I_8, L_9 =>
    if 100 ≤ v3_7 then
    (k0 v2_6 I_8 L_9)
    else
    chk (inb ((100 * v1_5) + v3_7) 400) (
    if (I_8 52 (ix ((100 * v1_5) + v3_7))) = 0 then
    bnd (v3_7 + 1 : Int32) (fun v3_10 =>
    f_X8_closes_10 v1_5 k0 n v2_6 v3_10 I_8 L_9)
    else
    chk (decide ((10 : Int32) ≠ 0)) (
    chk (decide ((10 : Int32) ≠ 0)) (
    if (v3_7 / 10) = (irem v3_7 10) then
    bnd (v3_7 + 1 : Int32) (fun v3_29 =>
    f_X8_closes_10 v1_5 k0 n v2_6 v3_29 I_8 L_9)
    else
    f_X8_closes_47 v1_5 v3_7 (fun (v2_25 : Int32) (I_26 : MI) (L_27 : ML) =>
    bnd (v3_7 + 1 : Int32) (fun v3_28 =>
    f_X8_closes_10 v1_5 k0 n v2_25 v3_28 I_26 L_27)) FU v2_6 0 I_8 L_9)))
def f_X8_closes_2 (v1_1 : Int32) : Nat → Int32 → MI → ML → Option Mm
  | 0, _, _, _ => none
  | n + 1, v2_2, I_3, L_4 =>
    if v2_2 = 0 then
    some (I_3, L_4)
    else
    f_X8_closes_10 v1_1 (fun (v2_30 : Int32) (I_31 : MI) (L_32 : ML) =>
    f_X8_closes_2 v1_1 n v2_30 I_31 L_32) FU 0 0 I_3 L_4
def f_X8_closes (a1 : Int32) (I : MI) (L : ML) : Option Mm :=
  f_X8_closes_2 a1 FU 1 I L
def f_X8_adds (a1 : Int32) (a2 : Nat) (I : MI) (L : ML) : Option Mm :=
  Option.bind (f_X8_comesTo a1 a2 I L) (fun q_1 =>
  if (b2i q_1.1) = 0 then
  some (q_1.2.1, q_1.2.2)
  else
  Option.bind (f_X8_closes a1 q_1.2.1 q_1.2.2) (fun q_2 =>
  some (q_2.1, q_2.2)))
def f_X8_builds_7 (v1_2 : Int32) (v2_3 : Int32) : Nat → Int32 → MI → ML → Option Mm
  | 0, _, _, _ => none
  | n + 1, v3_4, I_5, L_6 =>
    Option.bind (f_X8_moves I_5 L_6) (fun q_7 =>
    if q_7 ≤ v3_4 then
    some (I_5, L_6)
    else
    Option.bind (f_X8_bit v2_3 v3_4) (fun q_8 =>
    if (b2i q_8) = 0 then
    bnd (v3_4 + 1 : Int32) (fun v3_12 =>
    f_X8_builds_7 v1_2 v2_3 n v3_12 I_5 L_6)
    else
    Option.bind (f_X8_laysMove v3_4 48 I_5 L_6) (fun q_9 =>
    Option.bind (f_X8_adds v1_2 48 q_9.1 q_9.2) (fun q_10 =>
    bnd (v3_4 + 1 : Int32) (fun v3_11 =>
    f_X8_builds_7 v1_2 v2_3 n v3_11 q_10.1 q_10.2)))))
def f_X8_builds (a1 : Int32) (a2 : Int32) (I : MI) (L : ML) : Option Mm :=
  Option.bind (f_X8_clears a1 I L) (fun q_1 =>
  f_X8_builds_7 a1 a2 FU 0 q_1.1 q_1.2)
def f_X8_widthAt_5 (v1_1 : Int32) (v2_2 : Int32) (I : MI) (L : ML) : Nat → Int32 → Int32 → Option Int32
  | 0, _, _ => none
  | n + 1, v3_3, v4_4 =>
    if 10 ≤ v4_4 then
    some v3_3
    else
    chk (inb (((100 * v1_1) + (10 * v2_2)) + v4_4) 400) (
    if (I 52 (ix (((100 * v1_1) + (10 * v2_2)) + v4_4))) = 0 then
    bnd ((v3_3 + 0) : Int32) (fun v3_5 =>
    bnd (v4_4 + 1 : Int32) (fun v4_6 =>
    f_X8_widthAt_5 v1_1 v2_2 I L n v3_5 v4_6))
    else
    bnd ((v3_3 + 1) : Int32) (fun v3_7 =>
    bnd (v4_4 + 1 : Int32) (fun v4_8 =>
    f_X8_widthAt_5 v1_1 v2_2 I L n v3_7 v4_8)))
def f_X8_widthAt (a1 : Int32) (a2 : Int32) (I : MI) (L : ML) : Option Int32 :=
  f_X8_widthAt_5 a1 a2 I L FU 0 0
def f_X8_orderFrom_5 (v1_1 : Int32) (I : MI) (L : ML) : Nat → Int32 → Int32 → Option Int32
  | 0, _, _ => none
  | n + 1, v3_2, v4_3 =>
    if 10 ≤ v4_3 then
    some v3_2
    else
    Option.bind (f_X8_widthAt v1_1 v4_3 I L) (fun q_4 =>
    bnd ((v3_2 * q_4) : Int32) (fun v3_5 =>
    bnd (v4_3 + 1 : Int32) (fun v4_6 =>
    f_X8_orderFrom_5 v1_1 I L n v3_5 v4_6)))
def f_X8_orderFrom (a1 : Int32) (a2 : Int32) (I : MI) (L : ML) : Option Int32 :=
  f_X8_orderFrom_5 a1 I L FU 1 a2
def f_X8_orderOf (a1 : Int32) (I : MI) (L : ML) : Option Int32 :=
  Option.bind (f_X8_orderFrom a1 0 I L) (fun q_1 =>
  some q_1)
def f_X8_builds_ (I : MI) (L : ML) : Option Mm :=
  if (I 43 20) = 0 then
  Option.bind (f_X8_moves I L) (fun q_2 =>
  Option.bind (f_X8_builds 0 ((shl 1 q_2) - 1) I L) (fun q_3 =>
  bnd (up2 q_3.1 43 20 1) (fun I_4 =>
  some (I_4, q_3.2))))
  else
  bnd (up2 I 43 20 1) (fun I_1 =>
  some (I_1, L))
def f_X8_orderNow (I : MI) (L : ML) : Option (Int32 × Mm) :=
  Option.bind (f_X8_builds_ I L) (fun q_1 =>
  Option.bind (f_X8_orderOf 0 q_1.1 q_1.2) (fun q_2 =>
  some (q_2, q_1.1, q_1.2)))
def f_X8_isSmall (I : MI) (L : ML) : Option (Bool × Mm) :=
  Option.bind (f_X8_orderNow I L) (fun q_1 =>
  if 5040 < q_1.1 then
  some (false, q_1.2.1, q_1.2.2)
  else
  some (true, q_1.2.1, q_1.2.2))
def f_X8_whySmall (a1 : Int32) (I : MI) (L : ML) : Option (Int32 × Mm) :=
  if a1 = 0 then
  if (I 43 2) = 0 then
  some (5, I, L)
  else
  Option.bind (f_X8_isSmall I L) (fun q_1 =>
  if (b2i q_1.1) = 0 then
  some (3, q_1.2.1, q_1.2.2)
  else
  some (0, q_1.2.1, q_1.2.2))
  else
  some (a1, I, L)
def f_X8_whyHere (a1 : Int32) (I : MI) (L : ML) : Option Int32 :=
  if a1 = 0 then
  if (I 43 2) = 0 then
  some 5
  else
  some 0
  else
  some a1
def f_X8_why (a0 : Bool) (a1 : Bool) : Option Int32 :=
  if (b2i a0) = 0 then
  some 1
  else
  if (b2i a1) = 0 then
  some 2
  else
  some 0
def f_X8_placeOf_28 (a1 : Nat) (v2_6 : Int32) (v3_7 : Int32) (I : MI) (L : ML) (k0 : Int32 → Int32 → Option (Int32 × Mm)) : Nat → Int32 → Int32 → Int32 → Option (Int32 × Mm)
  | 0, _, _, _ => none
  | n + 1, v4_8, v5_9, v6_10 =>
    if (I 43 2) ≤ v6_10 then
    (k0 v4_8 v5_9)
    else
    chk (inb v6_10 10) (
    chk (inb v3_7 10) (
    bnd ((fun (v4_11 : Int32) =>
    chk (inb ((10 * v3_7) + v6_10) 400) (
    if (I 52 (ix ((10 * v3_7) + v6_10))) = 0 then
    bnd ((v5_9 + 0) : Int32) (fun v5_12 =>
    bnd (v6_10 + 1 : Int32) (fun v6_13 =>
    f_X8_placeOf_28 a1 v2_6 v3_7 I L k0 n v4_11 v5_12 v6_13))
    else
    chk (inb v6_10 10) (
    chk (inb v3_7 10) (
    if (I a1 (ix v3_7)) ≤ (I 59 (ix v6_10)) then
    bnd ((v5_9 + 0) : Int32) (fun v5_14 =>
    bnd (v6_10 + 1 : Int32) (fun v6_15 =>
    f_X8_placeOf_28 a1 v2_6 v3_7 I L k0 n v4_11 v5_14 v6_15))
    else
    bnd ((v5_9 + 1) : Int32) (fun v5_16 =>
    bnd (v6_10 + 1 : Int32) (fun v6_17 =>
    f_X8_placeOf_28 a1 v2_6 v3_7 I L k0 n v4_11 v5_16 v6_17)))))) : Int32 → Option (Int32 × Mm)) (fun j54_202 =>
    if (I 59 (ix v6_10)) = (I a1 (ix v3_7)) then
    (j54_202 v6_10)
    else
    (j54_202 v4_8))))
def f_X8_placeOf_11 (a1 : Nat) : Nat → Int32 → Int32 → MI → ML → Option (Int32 × Mm)
  | 0, _, _, _, _ => none
  | n + 1, v2_2, v3_3, I_4, L_5 =>
    if (I_4 43 2) ≤ v3_3 then
    some (v2_2, I_4, L_5)
    else
    f_X8_placeOf_28 a1 v2_2 v3_3 I_4 L_5 (fun (v4_18 : Int32) (v5_19 : Int32) =>
    chk (inb ((10 * v3_3) + v4_18) 400) (
    if (I_4 52 (ix ((10 * v3_3) + v4_18))) = 0 then
    some ((-1), I_4, L_5)
    else
    Option.bind (f_X8_orderFrom 0 (v3_3 + 1) I_4 L_5) (fun q_20 =>
    bnd ((v2_2 + (v5_19 * q_20)) : Int32) (fun v2_21 =>
    Option.bind (f_X8_laysCell 0 v3_3 v4_18 57 I_4 L_5) (fun q_22 =>
    Option.bind (f_X8_copies 59 10 0 58 10 0 q_22.1 q_22.2) (fun q_23 =>
    Option.bind (f_X8_makes 57 58 59 q_23.1 q_23.2) (fun q_24 =>
    bnd (v3_3 + 1 : Int32) (fun v3_25 =>
    f_X8_placeOf_11 a1 n v2_21 v3_25 q_24.1 q_24.2)))))))) FU 0 0 0
def f_X8_placeOf (a1 : Nat) (I : MI) (L : ML) : Option (Int32 × Mm) :=
  Option.bind (f_X8_isHome 59 I L) (fun q_1 =>
  f_X8_placeOf_11 a1 FU 0 0 q_1.1 q_1.2)
def f_X8_laysNth_67 (a2 : Nat) (v3_14 : Int32) (v4_15 : Int32) (v8_18 : Int32) (I : MI) (L : ML) (k0 : Int32 → Int32 → Option Mm) : Nat → Int32 → Int32 → Int32 → Option Mm
  | 0, _, _, _ => none
  | n + 1, v6_16, v7_17, v9_19 =>
    if (I 43 2) ≤ v9_19 then
    (k0 v6_16 v7_17)
    else
    chk (inb v9_19 10) (
    if (I 59 (ix v9_19)) = v8_18 then
    chk (inb ((10 * v4_15) + v9_19) 400) (
    if (I 52 (ix ((10 * v4_15) + v9_19))) = 0 then
    bnd (v9_19 + 1 : Int32) (fun v9_25 =>
    f_X8_laysNth_67 a2 v3_14 v4_15 v8_18 I L k0 n v6_16 v7_17 v9_25)
    else
    if v6_16 = 0 then
    bnd (v6_16 + (-1) : Int32) (fun v6_23 =>
    bnd (v9_19 + 1 : Int32) (fun v9_24 =>
    f_X8_laysNth_67 a2 v3_14 v4_15 v8_18 I L k0 n v6_23 v9_19 v9_24))
    else
    bnd (v6_16 + (-1) : Int32) (fun v6_21 =>
    bnd (v9_19 + 1 : Int32) (fun v9_22 =>
    f_X8_laysNth_67 a2 v3_14 v4_15 v8_18 I L k0 n v6_21 v7_17 v9_22)))
    else
    bnd (v9_19 + 1 : Int32) (fun v9_20 =>
    f_X8_laysNth_67 a2 v3_14 v4_15 v8_18 I L k0 n v6_16 v7_17 v9_20))
def f_X8_laysNth_49 (a2 : Nat) (v3_9 : Int32) (v4_10 : Int32) (I : MI) (L : ML) (k0 : Int32 → Option Mm) : Nat → Int32 → Int32 → Int32 → Option Mm
  | 0, _, _, _ => none
  | n + 1, v6_11, v7_12, v8_13 =>
    if (I 43 2) ≤ v8_13 then
    (k0 v7_12)
    else
    if v7_12 = (-1) then
    f_X8_laysNth_67 a2 v3_9 v4_10 v8_13 I L (fun (v6_26 : Int32) (v7_27 : Int32) =>
    bnd (v8_13 + 1 : Int32) (fun v8_28 =>
    f_X8_laysNth_49 a2 v3_9 v4_10 I L k0 n v6_26 v7_27 v8_28)) FU v6_11 v7_12 0
    else
    (k0 v7_12)
def f_X8_laysNth_12 (a2 : Nat) (k0 : MI → ML → Option Mm) : Nat → Int32 → Int32 → MI → ML → Option Mm
  | 0, _, _, _, _ => none
  | n + 1, v3_2, v4_3, I_4, L_5 =>
    if (I_4 43 2) ≤ v4_3 then
    (k0 I_4 L_5)
    else
    Option.bind (f_X8_orderFrom 0 (v4_3 + 1) I_4 L_5) (fun q_6 =>
    chk (decide ((q_6 : Int32) ≠ 0)) (
    bnd ((v3_2 / q_6) : Int32) (fun v6_7 =>
    chk (decide ((q_6 : Int32) ≠ 0)) (
    bnd ((irem v3_2 q_6) : Int32) (fun v3_8 =>
    f_X8_laysNth_49 a2 v3_8 v4_3 I_4 L_5 (fun (v7_29 : Int32) =>
    Option.bind (f_X8_laysCell 0 v4_3 v7_29 57 I_4 L_5) (fun q_30 =>
    Option.bind (f_X8_copies 59 10 0 58 10 0 q_30.1 q_30.2) (fun q_31 =>
    Option.bind (f_X8_makes 57 58 59 q_31.1 q_31.2) (fun q_32 =>
    bnd (v4_3 + 1 : Int32) (fun v4_33 =>
    f_X8_laysNth_12 a2 k0 n v3_8 v4_33 q_32.1 q_32.2))))) FU v6_7 (-1) 0)))))
def f_X8_laysNth (a1 : Int32) (a2 : Nat) (I : MI) (L : ML) : Option Mm :=
  Option.bind (f_X8_isHome 59 I L) (fun q_1 =>
  f_X8_laysNth_12 a2 (fun (I_34 : MI) (L_35 : ML) =>
  Option.bind (f_X8_copies 59 10 0 a2 10 0 I_34 L_35) (fun q_36 =>
  some (q_36.1, q_36.2))) FU a1 0 q_1.1 q_1.2)
def f_X8_many (a1 : Int32) (I : MI) (L : ML) : Option (Int32 × Mm) :=
  Option.bind (f_X8_isIn (Int32.toInt64 a1) 0 3) (fun q_1 =>
  bnd ((fun (s0_2 : Bool) =>
  Option.bind (f_X8_is (b2i s0_2) I L) (fun q_3 =>
  if (b2i q_3.1) = 0 then
  some ((-1), q_3.2.1, q_3.2.2)
  else
  Option.bind (f_X8_laysStand 46 q_3.2.1 q_3.2.2) (fun q_4 =>
  if a1 = 0 then
  some ((q_4.1 43 2), q_4.1, q_4.2)
  else
  if a1 = 1 then
  Option.bind (f_X8_moves q_4.1 q_4.2) (fun q_6 =>
  some (q_6, q_4.1, q_4.2))
  else
  if a1 = 2 then
  some ((q_4.1 43 3), q_4.1, q_4.2)
  else
  Option.bind (f_X8_stays 46 q_4.1 q_4.2) (fun q_5 =>
  if (b2i q_5) = 0 then
  some (0, q_4.1, q_4.2)
  else
  some (1, q_4.1, q_4.2))))) : Bool → Option (Int32 × Mm)) (fun j18_209 =>
  if (b2i q_1) = 0 then
  (j18_209 true)
  else
  (j18_209 false)))
def f_X8_step (a1 : Int32) (I : MI) (L : ML) : Option (Int64 × Mm) :=
  Option.bind (f_X8_isStep a1 I L) (fun q_1 =>
  bnd ((fun (s0_2 : Int32) =>
  Option.bind (f_X8_is s0_2 I L) (fun q_3 =>
  if (b2i q_3.1) = 0 then
  some ((-1), q_3.2.1, q_3.2.2)
  else
  Option.bind (f_X8_laysStep a1 46 q_3.2.1 q_3.2.2) (fun q_4 =>
  Option.bind (f_X8_told 46 q_4.1 q_4.2) (fun q_5 =>
  some (q_5, q_4.1, q_4.2))))) : Int32 → Option (Int64 × Mm)) (fun j14_210 =>
  if (b2i q_1) = 0 then
  (j14_210 2)
  else
  (j14_210 0)))
def f_X8_stand (I : MI) (L : ML) : Option (Int64 × Mm) :=
  bnd ((fun (s0_1 : Int32) =>
  Option.bind (f_X8_is s0_1 I L) (fun q_2 =>
  if (b2i q_2.1) = 0 then
  some ((-1), q_2.2.1, q_2.2.2)
  else
  Option.bind (f_X8_laysStand 46 q_2.2.1 q_2.2.2) (fun q_3 =>
  Option.bind (f_X8_told 46 q_3.1 q_3.2) (fun q_4 =>
  some (q_4, q_3.1, q_3.2))))) : Int32 → Option (Int64 × Mm)) (fun j13_211 =>
  if (I 43 2) = 0 then
  (j13_211 5)
  else
  (j13_211 0))
def f_X8_takes (a1 : Int64) (a3 : Int32) (I : MI) (L : ML) : Option (Int32 × Mm) :=
  Option.bind (f_X8_lies a1 46 I L) (fun q_1 =>
  Option.bind (f_X8_isPoint a3 q_1.2.1 q_1.2.2) (fun q_2 =>
  Option.bind (f_X8_why q_1.1 q_2) (fun q_3 =>
  Option.bind (f_X8_is q_3 q_1.2.1 q_1.2.2) (fun q_4 =>
  if (b2i q_4.1) = 0 then
  some ((-1), q_4.2.1, q_4.2.2)
  else
  chk (inb a3 10) (
  some ((q_4.2.1 46 (ix a3)), q_4.2.1, q_4.2.2))))))
def f_X8_product (a1 : Int64) (a3 : Int64) (I : MI) (L : ML) : Option (Int64 × Mm) :=
  Option.bind (f_X8_lies a1 46 I L) (fun q_1 =>
  bnd ((fun (s0_5 : Bool) (I_6 : MI) (L_7 : ML) =>
  Option.bind (f_X8_is (b2i s0_5) I_6 L_7) (fun q_8 =>
  if (b2i q_8.1) = 0 then
  some ((-1), q_8.2.1, q_8.2.2)
  else
  Option.bind (f_X8_makes 46 47 48 q_8.2.1 q_8.2.2) (fun q_9 =>
  Option.bind (f_X8_told 48 q_9.1 q_9.2) (fun q_10 =>
  some (q_10, q_9.1, q_9.2))))) : Bool → MI → ML → Option (Int64 × Mm)) (fun j30_212 =>
  bnd ((fun (I_3 : MI) (L_4 : ML) =>
  (j30_212 true I_3 L_4)) : MI → ML → Option (Int64 × Mm)) (fun j29_213 =>
  if (b2i q_1.1) = 0 then
  (j29_213 q_1.2.1 q_1.2.2)
  else
  Option.bind (f_X8_lies a3 47 q_1.2.1 q_1.2.2) (fun q_2 =>
  if (b2i q_2.1) = 0 then
  (j29_213 q_2.2.1 q_2.2.2)
  else
  (j30_212 false q_2.2.1 q_2.2.2)))))
def f_X8_inverse (a1 : Int64) (I : MI) (L : ML) : Option (Int64 × Mm) :=
  Option.bind (f_X8_lies a1 46 I L) (fun q_1 =>
  bnd ((fun (s0_2 : Bool) =>
  Option.bind (f_X8_is (b2i s0_2) q_1.2.1 q_1.2.2) (fun q_3 =>
  if (b2i q_3.1) = 0 then
  some ((-1), q_3.2.1, q_3.2.2)
  else
  Option.bind (f_X8_inverts 46 48 q_3.2.1 q_3.2.2) (fun q_4 =>
  Option.bind (f_X8_told 48 q_4.1 q_4.2) (fun q_5 =>
  some (q_5, q_4.1, q_4.2))))) : Bool → Option (Int64 × Mm)) (fun j18_214 =>
  if (b2i q_1.1) = 0 then
  (j18_214 true)
  else
  (j18_214 false)))
def f_X8_powers_16 (a1 : Nat) (a3 : Nat) (v2_5 : Int32) (v4_6 : Int32) (L : ML) (k0 : MI → Option Mm) : Nat → Int32 → MI → Option Mm
  | 0, _, _ => none
  | n + 1, v5_7, I_8 =>
    if 10 ≤ v5_7 then
    (k0 I_8)
    else
    chk (inb v5_7 10) (
    chk (inb (I_8 a3 (ix v5_7)) 10) (
    chk (inb v5_7 10) (bnd (up2 I_8 a3 (ix v5_7) (I_8 a1 (ix (I_8 a3 (ix v5_7))))) (fun I_9 =>
    bnd (v5_7 + 1 : Int32) (fun v5_10 =>
    f_X8_powers_16 a1 a3 v2_5 v4_6 L k0 n v5_10 I_9)))))
def f_X8_powers_7 (a1 : Nat) (a3 : Nat) (v2_2 : Int32) (L : ML) : Nat → Int32 → MI → Option Mm
  | 0, _, _ => none
  | n + 1, v4_3, I_4 =>
    if v2_2 ≤ v4_3 then
    some (I_4, L)
    else
    f_X8_powers_16 a1 a3 v2_2 v4_3 L (fun (I_11 : MI) =>
    bnd (v4_3 + 1 : Int32) (fun v4_12 =>
    f_X8_powers_7 a1 a3 v2_2 L n v4_12 I_11)) FU 0 I_4
def f_X8_powers (a1 : Nat) (a2 : Int32) (a3 : Nat) (I : MI) (L : ML) : Option Mm :=
  Option.bind (f_X8_isHome a3 I L) (fun q_1 =>
  f_X8_powers_7 a1 a3 a2 q_1.2 FU 0 q_1.1)
def f_X8_power (a1 : Int64) (a3 : Int32) (I : MI) (L : ML) : Option (Int64 × Mm) :=
  Option.bind (f_X8_lies a1 46 I L) (fun q_1 =>
  bnd ((fun (s0_3 : Bool) =>
  Option.bind (f_X8_is (b2i s0_3) q_1.2.1 q_1.2.2) (fun q_4 =>
  if (b2i q_4.1) = 0 then
  some ((-1), q_4.2.1, q_4.2.2)
  else
  Option.bind (f_X8_inverts 46 47 q_4.2.1 q_4.2.2) (fun q_5 =>
  if 0 ≤ a3 then
  Option.bind (f_X8_powers 46 a3 48 q_5.1 q_5.2) (fun q_6 =>
  Option.bind (f_X8_told 48 q_6.1 q_6.2) (fun q_7 =>
  some (q_7, q_6.1, q_6.2)))
  else
  Option.bind (f_X8_powers 47 (-a3) 48 q_5.1 q_5.2) (fun q_8 =>
  Option.bind (f_X8_told 48 q_8.1 q_8.2) (fun q_9 =>
  some (q_9, q_8.1, q_8.2)))))) : Bool → Option (Int64 × Mm)) (fun j32_218 =>
  bnd (((j32_218 true)) : Option (Int64 × Mm)) (fun j31_219 =>
  if (b2i q_1.1) = 0 then
  j31_219
  else
  Option.bind (f_X8_isIn (Int32.toInt64 a3) (-1000) 1000) (fun q_2 =>
  if (b2i q_2) = 0 then
  j31_219
  else
  (j32_218 false)))))
def f_X8_cycleFrom_6 (a0 : Nat) (v1_2 : Int32) (I : MI) (L : ML) : Nat → Int32 → Int32 → Option Int32
  | 0, _, _ => none
  | n + 1, v2_3, v3_4 =>
    if v3_4 = v1_2 then
    some v2_3
    else
    if v1_2 ≤ v3_4 then
    bnd (v2_3 + 1 : Int32) (fun v2_5 =>
    chk (inb v3_4 10) (
    bnd ((I a0 (ix v3_4)) : Int32) (fun v3_6 =>
    f_X8_cycleFrom_6 a0 v1_2 I L n v2_5 v3_6)))
    else
    some 0
def f_X8_cycleFrom (a0 : Nat) (a1 : Int32) (I : MI) (L : ML) : Option Int32 :=
  chk (inb a1 10) (
  bnd ((I a0 (ix a1)) : Int32) (fun v3_1 =>
  f_X8_cycleFrom_6 a0 a1 I L FU 1 v3_1))
def f_X8_cycles_4 (a1 : Nat) (I : MI) (L : ML) : Nat → Int32 → Int32 → Option Int32
  | 0, _, _ => none
  | n + 1, v2_1, v3_2 =>
    if (I 43 2) ≤ v3_2 then
    some v2_1
    else
    Option.bind (f_X8_cycleFrom a1 v3_2 I L) (fun q_3 =>
    if q_3 ≤ 0 then
    bnd ((v2_1 + 0) : Int32) (fun v2_4 =>
    bnd (v3_2 + 1 : Int32) (fun v3_5 =>
    f_X8_cycles_4 a1 I L n v2_4 v3_5))
    else
    bnd ((v2_1 + 1) : Int32) (fun v2_6 =>
    bnd (v3_2 + 1 : Int32) (fun v3_7 =>
    f_X8_cycles_4 a1 I L n v2_6 v3_7)))
def f_X8_cycles (a1 : Nat) (I : MI) (L : ML) : Option Int32 :=
  f_X8_cycles_4 a1 I L FU 0 0
def f_X8_staying_4 (a1 : Nat) (I : MI) (L : ML) : Nat → Int32 → Int32 → Option Int32
  | 0, _, _ => none
  | n + 1, v2_1, v3_2 =>
    if (I 43 2) ≤ v3_2 then
    some v2_1
    else
    chk (inb v3_2 10) (
    if (I a1 (ix v3_2)) = v3_2 then
    bnd ((v2_1 + 1) : Int32) (fun v2_5 =>
    bnd (v3_2 + 1 : Int32) (fun v3_6 =>
    f_X8_staying_4 a1 I L n v2_5 v3_6))
    else
    bnd ((v2_1 + 0) : Int32) (fun v2_3 =>
    bnd (v3_2 + 1 : Int32) (fun v3_4 =>
    f_X8_staying_4 a1 I L n v2_3 v3_4)))
def f_X8_staying (a1 : Nat) (I : MI) (L : ML) : Option Int32 :=
  f_X8_staying_4 a1 I L FU 0 0
def f_X8_orderOf__4 (a1 : Nat) (I : MI) (L : ML) : Nat → Int32 → Int32 → Option Int32
  | 0, _, _ => none
  | n + 1, v2_1, v3_2 =>
    if (I 43 2) ≤ v3_2 then
    some v2_1
    else
    Option.bind (f_X8_cycleFrom a1 v3_2 I L) (fun q_3 =>
    if q_3 = 0 then
    bnd (v3_2 + 1 : Int32) (fun v3_7 =>
    f_X8_orderOf__4 a1 I L n v2_1 v3_7)
    else
    Option.bind (f_X8_common v2_1 q_3) (fun q_4 =>
    chk (decide ((q_4 : Int32) ≠ 0)) (
    bnd (((v2_1 / q_4) * q_3) : Int32) (fun v2_5 =>
    bnd (v3_2 + 1 : Int32) (fun v3_6 =>
    f_X8_orderOf__4 a1 I L n v2_5 v3_6)))))
def f_X8_orderOf_ (a1 : Nat) (I : MI) (L : ML) : Option Int32 :=
  f_X8_orderOf__4 a1 I L FU 1 0
def f_X8_isEven (a1 : Nat) (I : MI) (L : ML) : Option Bool :=
  Option.bind (f_X8_cycles a1 I L) (fun q_1 =>
  chk (decide ((2 : Int32) ≠ 0)) (
  if (irem ((I 43 2) - q_1) 2) = 0 then
  some true
  else
  some false))
def f_X8_about_111 (I : MI) (L : ML) : Nat → Int32 → Int32 → Option (Int32 × Mm)
  | 0, _, _ => none
  | n + 1, v4_5, v5_6 =>
    if (I 43 2) ≤ v5_6 then
    some (v4_5, I, L)
    else
    chk (inb v5_6 10) (
    if (I 46 (ix v5_6)) = v5_6 then
    bnd ((v4_5 ||| 0) : Int32) (fun v4_9 =>
    bnd (v5_6 + 1 : Int32) (fun v5_10 =>
    f_X8_about_111 I L n v4_9 v5_10))
    else
    bnd ((v4_5 ||| (shl 1 v5_6)) : Int32) (fun v4_7 =>
    bnd (v5_6 + 1 : Int32) (fun v5_8 =>
    f_X8_about_111 I L n v4_7 v5_8)))
def f_X8_about (a1 : Int64) (a3 : Int32) (I : MI) (L : ML) : Option (Int32 × Mm) :=
  Option.bind (f_X8_lies a1 46 I L) (fun q_1 =>
  bnd ((fun (s0_3 : Bool) =>
  Option.bind (f_X8_is (b2i s0_3) q_1.2.1 q_1.2.2) (fun q_4 =>
  if (b2i q_4.1) = 0 then
  some ((-1), q_4.2.1, q_4.2.2)
  else
  if 3 ≤ a3 then
  if a3 = 3 then
  Option.bind (f_X8_isEven 46 q_4.2.1 q_4.2.2) (fun q_11 =>
  if (b2i q_11) = 0 then
  some (0, q_4.2.1, q_4.2.2)
  else
  some (1, q_4.2.1, q_4.2.2))
  else
  f_X8_about_111 q_4.2.1 q_4.2.2 FU 0 0
  else
  if a3 = 0 then
  Option.bind (f_X8_orderOf_ 46 q_4.2.1 q_4.2.2) (fun q_14 =>
  some (q_14, q_4.2.1, q_4.2.2))
  else
  if a3 = 1 then
  Option.bind (f_X8_cycles 46 q_4.2.1 q_4.2.2) (fun q_13 =>
  some (q_13, q_4.2.1, q_4.2.2))
  else
  Option.bind (f_X8_staying 46 q_4.2.1 q_4.2.2) (fun q_12 =>
  some (q_12, q_4.2.1, q_4.2.2)))) : Bool → Option (Int32 × Mm)) (fun j30_224 =>
  bnd (((j30_224 true)) : Option (Int32 × Mm)) (fun j29_225 =>
  if (b2i q_1.1) = 0 then
  j29_225
  else
  Option.bind (f_X8_isIn (Int32.toInt64 a3) 0 4) (fun q_2 =>
  if (b2i q_2) = 0 then
  j29_225
  else
  (j30_224 false)))))
def f_X8_orbitOf_29 (v3_9 : Int32) (v4_10 : Int32) (I : MI) (L : ML) (k0 : Int32 → Option Int32) : Nat → Int32 → Int32 → Option Int32
  | 0, _, _ => none
  | n + 1, v2_8, v5_11 =>
    if (I 43 2) ≤ v5_11 then
    (k0 v2_8)
    else
    Option.bind (f_X8_bit v2_8 v5_11) (fun q_12 =>
    if (b2i q_12) = 0 then
    bnd ((v2_8 ||| 0) : Int32) (fun v2_13 =>
    bnd (v5_11 + 1 : Int32) (fun v5_14 =>
    f_X8_orbitOf_29 v3_9 v4_10 I L k0 n v2_13 v5_14))
    else
    chk (inb ((11 + (10 * v4_10)) + v5_11) 71) (
    bnd ((v2_8 ||| (shl 1 (I 44 (ix ((11 + (10 * v4_10)) + v5_11))))) : Int32) (fun v2_15 =>
    bnd (v5_11 + 1 : Int32) (fun v5_16 =>
    f_X8_orbitOf_29 v3_9 v4_10 I L k0 n v2_15 v5_16))))
def f_X8_orbitOf_17 (v3_5 : Int32) (I : MI) (L : ML) (k0 : Int32 → Option Int32) : Nat → Int32 → Int32 → Option Int32
  | 0, _, _ => none
  | n + 1, v2_4, v4_6 =>
    Option.bind (f_X8_moves I L) (fun q_7 =>
    if q_7 ≤ v4_6 then
    (k0 v2_4)
    else
    f_X8_orbitOf_29 v3_5 v4_6 I L (fun (v2_17 : Int32) =>
    bnd (v4_6 + 1 : Int32) (fun v4_18 =>
    f_X8_orbitOf_17 v3_5 I L k0 n v2_17 v4_18)) FU v2_4 0)
def f_X8_orbitOf_6 (I : MI) (L : ML) : Nat → Int32 → Int32 → Option Int32
  | 0, _, _ => none
  | n + 1, v2_2, v3_3 =>
    if (I 43 2) ≤ v3_3 then
    some v2_2
    else
    f_X8_orbitOf_17 v3_3 I L (fun (v2_19 : Int32) =>
    bnd (v3_3 + 1 : Int32) (fun v3_20 =>
    f_X8_orbitOf_6 I L n v2_19 v3_20)) FU v2_2 0
def f_X8_orbitOf (a1 : Int32) (I : MI) (L : ML) : Option Int32 :=
  bnd ((shl 1 a1) : Int32) (fun v2_1 =>
  f_X8_orbitOf_6 I L FU v2_1 0)
def f_X8_orbit (a1 : Int32) (I : MI) (L : ML) : Option (Int32 × Mm) :=
  Option.bind (f_X8_isPoint a1 I L) (fun q_1 =>
  if (b2i q_1) = 0 then
  Option.bind (f_X8_is 2 I L) (fun q_2 =>
  if (b2i q_2.1) = 0 then
  some ((-1), q_2.2.1, q_2.2.2)
  else
  Option.bind (f_X8_orbitOf a1 q_2.2.1 q_2.2.2) (fun q_3 =>
  some (q_3, q_2.2.1, q_2.2.2)))
  else
  Option.bind (f_X8_is 0 I L) (fun q_4 =>
  if (b2i q_4.1) = 0 then
  some ((-1), q_4.2.1, q_4.2.2)
  else
  Option.bind (f_X8_orbitOf a1 q_4.2.1 q_4.2.2) (fun q_5 =>
  some (q_5, q_4.2.1, q_4.2.2))))
def f_X8_orbits_18 (I : MI) (L : ML) : Nat → Int32 → Int32 → Option (Int32 × Mm)
  | 0, _, _ => none
  | n + 1, v1_3, v2_4 =>
    if (I 43 2) ≤ v2_4 then
    some (v1_3, I, L)
    else
    Option.bind (f_X8_orbitOf v2_4 I L) (fun q_5 =>
    if (q_5 &&& ((shl 1 v2_4) - 1)) = 0 then
    bnd ((v1_3 + 1) : Int32) (fun v1_8 =>
    bnd (v2_4 + 1 : Int32) (fun v2_9 =>
    f_X8_orbits_18 I L n v1_8 v2_9))
    else
    bnd ((v1_3 + 0) : Int32) (fun v1_6 =>
    bnd (v2_4 + 1 : Int32) (fun v2_7 =>
    f_X8_orbits_18 I L n v1_6 v2_7)))
def f_X8_orbits (I : MI) (L : ML) : Option (Int32 × Mm) :=
  Option.bind (f_X8_whyHere 0 I L) (fun q_1 =>
  Option.bind (f_X8_is q_1 I L) (fun q_2 =>
  if (b2i q_2.1) = 0 then
  some ((-1), q_2.2.1, q_2.2.2)
  else
  f_X8_orbits_18 q_2.2.1 q_2.2.2 FU 0 0))
def f_X8_baseAt_8 (v1_2 : Int32) (I : MI) (L : ML) : Nat → Int32 → Int32 → Option (Int32 × Mm)
  | 0, _, _ => none
  | n + 1, v2_3, v3_4 =>
    if (I 43 2) ≤ v3_4 then
    some ((-1), I, L)
    else
    Option.bind (f_X8_widthAt 0 v3_4 I L) (fun q_5 =>
    if q_5 = 1 then
    bnd (v3_4 + 1 : Int32) (fun v3_8 =>
    f_X8_baseAt_8 v1_2 I L n v2_3 v3_8)
    else
    if v2_3 = v1_2 then
    some (v3_4, I, L)
    else
    bnd (v2_3 + 1 : Int32) (fun v2_6 =>
    bnd (v3_4 + 1 : Int32) (fun v3_7 =>
    f_X8_baseAt_8 v1_2 I L n v2_6 v3_7)))
def f_X8_baseAt (a1 : Int32) (I : MI) (L : ML) : Option (Int32 × Mm) :=
  Option.bind (f_X8_builds_ I L) (fun q_1 =>
  f_X8_baseAt_8 a1 q_1.1 q_1.2 FU 0 0)
def f_X8_baseMany_2 : Nat → Int32 → MI → ML → Option (Int32 × Mm)
  | 0, _, _, _ => none
  | n + 1, v1_1, I_2, L_3 =>
    Option.bind (f_X8_baseAt v1_1 I_2 L_3) (fun q_4 =>
    if q_4.1 = (-1) then
    some (v1_1, q_4.2.1, q_4.2.2)
    else
    bnd (v1_1 + 1 : Int32) (fun v1_5 =>
    f_X8_baseMany_2 n v1_5 q_4.2.1 q_4.2.2))
def f_X8_baseMany (I : MI) (L : ML) : Option (Int32 × Mm) :=
  f_X8_baseMany_2 FU 0 I L
def f_X8_there (a1 : Int32) (I : MI) (L : ML) : Option (Int32 × Mm) :=
  if a1 = (-1) then
  Option.bind (f_X8_refuse 5 I L) (fun q_1 =>
  some (q_1.1, q_1.2.1, q_1.2.2))
  else
  some (a1, I, L)
def f_X8_base (a1 : Int32) (I : MI) (L : ML) : Option (Int32 × Mm) :=
  bnd ((fun (s0_1 : Bool) =>
  Option.bind (f_X8_whyHere (b2i s0_1) I L) (fun q_2 =>
  Option.bind (f_X8_is q_2 I L) (fun q_3 =>
  if (b2i q_3.1) = 0 then
  some ((-1), q_3.2.1, q_3.2.2)
  else
  if a1 = (-1) then
  Option.bind (f_X8_baseMany q_3.2.1 q_3.2.2) (fun q_6 =>
  some (q_6.1, q_6.2.1, q_6.2.2))
  else
  Option.bind (f_X8_baseAt a1 q_3.2.1 q_3.2.2) (fun q_4 =>
  Option.bind (f_X8_there q_4.1 q_4.2.1 q_4.2.2) (fun q_5 =>
  some (q_5.1, q_5.2.1, q_5.2.2)))))) : Bool → Option (Int32 × Mm)) (fun j12_235 =>
  if a1 < (-1) then
  (j12_235 true)
  else
  (j12_235 false))
def f_X8_level_44 (v2_6 : Int32) (I : MI) (L : ML) : Nat → Int32 → Int32 → Option (Int32 × Mm)
  | 0, _, _ => none
  | n + 1, v3_7, v4_8 =>
    if (I 43 2) ≤ v4_8 then
    some (v3_7, I, L)
    else
    chk (inb ((10 * v2_6) + v4_8) 400) (
    if (I 52 (ix ((10 * v2_6) + v4_8))) = 0 then
    bnd ((v3_7 ||| 0) : Int32) (fun v3_9 =>
    bnd (v4_8 + 1 : Int32) (fun v4_10 =>
    f_X8_level_44 v2_6 I L n v3_9 v4_10))
    else
    bnd ((v3_7 ||| (shl 1 v4_8)) : Int32) (fun v3_11 =>
    bnd (v4_8 + 1 : Int32) (fun v4_12 =>
    f_X8_level_44 v2_6 I L n v3_11 v4_12)))
def f_X8_level (a1 : Int32) (I : MI) (L : ML) : Option (Int32 × Mm) :=
  bnd ((fun (s0_1 : Bool) =>
  Option.bind (f_X8_whyHere (b2i s0_1) I L) (fun q_2 =>
  Option.bind (f_X8_is q_2 I L) (fun q_3 =>
  if (b2i q_3.1) = 0 then
  some ((-1), q_3.2.1, q_3.2.2)
  else
  Option.bind (f_X8_baseAt a1 q_3.2.1 q_3.2.2) (fun q_4 =>
  bnd (q_4.1 : Int32) (fun v2_5 =>
  if v2_5 = (-1) then
  Option.bind (f_X8_refuse 5 q_4.2.1 q_4.2.2) (fun q_13 =>
  some (q_13.1, q_13.2.1, q_13.2.2))
  else
  f_X8_level_44 v2_5 q_4.2.1 q_4.2.2 FU 0 0))))) : Bool → Option (Int32 × Mm)) (fun j11_236 =>
  if a1 < 0 then
  (j11_236 true)
  else
  (j11_236 false))
def f_X8_order (I : MI) (L : ML) : Option (Int32 × Mm) :=
  Option.bind (f_X8_whyHere 0 I L) (fun q_1 =>
  Option.bind (f_X8_is q_1 I L) (fun q_2 =>
  if (b2i q_2.1) = 0 then
  some ((-1), q_2.2.1, q_2.2.2)
  else
  Option.bind (f_X8_orderNow q_2.2.1 q_2.2.2) (fun q_3 =>
  some (q_3.1, q_3.2.1, q_3.2.2))))
def f_X8_member (a1 : Int64) (I : MI) (L : ML) : Option (Int32 × Mm) :=
  Option.bind (f_X8_lies a1 46 I L) (fun q_1 =>
  bnd ((fun (s0_2 : Bool) =>
  Option.bind (f_X8_is (b2i s0_2) q_1.2.1 q_1.2.2) (fun q_3 =>
  if (b2i q_3.1) = 0 then
  some ((-1), q_3.2.1, q_3.2.2)
  else
  Option.bind (f_X8_builds_ q_3.2.1 q_3.2.2) (fun q_4 =>
  Option.bind (f_X8_isMember 0 46 q_4.1 q_4.2) (fun q_5 =>
  if (b2i q_5.1) = 0 then
  some (0, q_5.2.1, q_5.2.2)
  else
  some (1, q_5.2.1, q_5.2.2))))) : Bool → Option (Int32 × Mm)) (fun j18_238 =>
  if (b2i q_1.1) = 0 then
  (j18_238 true)
  else
  (j18_238 false)))
def f_X8_followedOf (a1 : Nat) (I : MI) (L : ML) : Option (Int32 × Mm) :=
  Option.bind (f_X8_builds_ I L) (fun q_1 =>
  Option.bind (f_X8_sifts 0 a1 q_1.1 q_1.2) (fun q_2 =>
  bnd (q_2.1 : Int32) (fun v2_3 =>
  if (q_2.2.1 43 2) ≤ v2_3 then
  some ((q_2.2.1 43 2), q_2.2.1, q_2.2.2)
  else
  some (v2_3, q_2.2.1, q_2.2.2))))
def f_X8_followed (a1 : Int64) (I : MI) (L : ML) : Option (Int32 × Mm) :=
  Option.bind (f_X8_lies a1 46 I L) (fun q_1 =>
  if (b2i q_1.1) = 0 then
  Option.bind (f_X8_is 1 q_1.2.1 q_1.2.2) (fun q_2 =>
  if (b2i q_2.1) = 0 then
  some ((-1), q_2.2.1, q_2.2.2)
  else
  Option.bind (f_X8_followedOf 46 q_2.2.1 q_2.2.2) (fun q_3 =>
  some (q_3.1, q_3.2.1, q_3.2.2)))
  else
  Option.bind (f_X8_is 0 q_1.2.1 q_1.2.2) (fun q_4 =>
  if (b2i q_4.1) = 0 then
  some ((-1), q_4.2.1, q_4.2.2)
  else
  Option.bind (f_X8_followedOf 46 q_4.2.1 q_4.2.2) (fun q_5 =>
  some (q_5.1, q_5.2.1, q_5.2.2))))
def f_X8_nth (a1 : Int32) (I : MI) (L : ML) : Option (Int64 × Mm) :=
  bnd ((fun (s0_1 : Bool) =>
  Option.bind (f_X8_whyHere (b2i s0_1) I L) (fun q_2 =>
  Option.bind (f_X8_is q_2 I L) (fun q_3 =>
  if (b2i q_3.1) = 0 then
  some ((-1), q_3.2.1, q_3.2.2)
  else
  Option.bind (f_X8_orderNow q_3.2.1 q_3.2.2) (fun q_4 =>
  if a1 < q_4.1 then
  Option.bind (f_X8_laysNth a1 46 q_4.2.1 q_4.2.2) (fun q_5 =>
  Option.bind (f_X8_told 46 q_5.1 q_5.2) (fun q_6 =>
  some (q_6, q_5.1, q_5.2)))
  else
  Option.bind (f_X8_refuse 5 q_4.2.1 q_4.2.2) (fun q_7 =>
  some ((Int32.toInt64 q_7.1), q_7.2.1, q_7.2.2)))))) : Bool → Option (Int64 × Mm)) (fun j11_239 =>
  if a1 < 0 then
  (j11_239 true)
  else
  (j11_239 false))
def f_X8_placed (a1 : Nat) (I : MI) (L : ML) : Option (Int32 × Mm) :=
  Option.bind (f_X8_builds_ I L) (fun q_1 =>
  Option.bind (f_X8_placeOf a1 q_1.1 q_1.2) (fun q_2 =>
  some (q_2.1, q_2.2.1, q_2.2.2)))
def f_X8_rank (a1 : Int64) (I : MI) (L : ML) : Option (Int32 × Mm) :=
  Option.bind (f_X8_lies a1 46 I L) (fun q_1 =>
  bnd ((fun (s0_2 : Bool) =>
  Option.bind (f_X8_is (b2i s0_2) q_1.2.1 q_1.2.2) (fun q_3 =>
  if (b2i q_3.1) = 0 then
  some ((-1), q_3.2.1, q_3.2.2)
  else
  Option.bind (f_X8_placed 46 q_3.2.1 q_3.2.2) (fun q_4 =>
  bnd (q_4.1 : Int32) (fun v3_5 =>
  if v3_5 = (-1) then
  Option.bind (f_X8_refuse 6 q_4.2.1 q_4.2.2) (fun q_6 =>
  some (q_6.1, q_6.2.1, q_6.2.2))
  else
  some (v3_5, q_4.2.1, q_4.2.2))))) : Bool → Option (Int32 × Mm)) (fun j18_240 =>
  if (b2i q_1.1) = 0 then
  (j18_240 true)
  else
  (j18_240 false)))
def f_X8_laysAll_10 : Nat → Int32 → MI → ML → Option Mm
  | 0, _, _, _ => none
  | n + 1, v1_3, I_4, L_5 =>
    if (I_4 43 24) ≤ v1_3 then
    some (I_4, L_5)
    else
    Option.bind (f_X8_laysNth v1_3 48 I_4 L_5) (fun q_6 =>
    Option.bind (f_X8_copies 48 10 0 60 50400 (10 * v1_3) q_6.1 q_6.2) (fun q_7 =>
    bnd (v1_3 + 1 : Int32) (fun v1_8 =>
    f_X8_laysAll_10 n v1_8 q_7.1 q_7.2)))
def f_X8_laysAll (I : MI) (L : ML) : Option Mm :=
  Option.bind (f_X8_orderNow I L) (fun q_1 =>
  bnd (up2 q_1.2.1 43 24 q_1.1) (fun I_2 =>
  f_X8_laysAll_10 FU 0 I_2 q_1.2.2))
def f_X8_laysOne (a1 : Int32) (a2 : Nat) (I : MI) (L : ML) : Option Mm :=
  Option.bind (f_X8_copies 60 50400 (10 * a1) a2 10 0 I L) (fun q_1 =>
  some (q_1.1, q_1.2))
def f_X8_laysDepths_52 (v2_14 : Int32) (k0 : Int32 → MI → ML → Option Mm) : Nat → Int32 → Int32 → MI → ML → Option Mm
  | 0, _, _, _, _ => none
  | n + 1, v1_13, v3_15, I_16, L_17 =>
    Option.bind (f_X8_moves I_16 L_17) (fun q_18 =>
    if (2 * q_18) ≤ v3_15 then
    (k0 v1_13 I_16 L_17)
    else
    chk (inb v2_14 5040) (
    Option.bind (f_X8_laysOne (I_16 62 (ix v2_14)) 49 I_16 L_17) (fun q_19 =>
    Option.bind (f_X8_laysStep v3_15 50 q_19.1 q_19.2) (fun q_20 =>
    Option.bind (f_X8_makes 49 50 48 q_20.1 q_20.2) (fun q_21 =>
    Option.bind (f_X8_placeOf 48 q_21.1 q_21.2) (fun q_22 =>
    bnd (q_22.1 : Int32) (fun v4_23 =>
    chk (inb v4_23 5040) (
    if (q_22.2.1 61 (ix v4_23)) = (-1) then
    chk (inb v2_14 5040) (
    chk (inb (q_22.2.1 62 (ix v2_14)) 5040) (
    chk (inb v4_23 5040) (bnd (up2 q_22.2.1 61 (ix v4_23) ((q_22.2.1 61 (ix (q_22.2.1 62 (ix v2_14)))) + 1)) (fun I_24 =>
    chk (inb v1_13 5040) (bnd (up2 I_24 62 (ix v1_13) v4_23) (fun I_25 =>
    bnd (v1_13 + 1 : Int32) (fun v1_26 =>
    bnd (v3_15 + 1 : Int32) (fun v3_27 =>
    f_X8_laysDepths_52 v2_14 k0 n v1_26 v3_27 I_25 q_22.2.2))))))))
    else
    bnd (v3_15 + 1 : Int32) (fun v3_28 =>
    f_X8_laysDepths_52 v2_14 k0 n v1_13 v3_28 q_22.2.1 q_22.2.2)))))))))
def f_X8_laysDepths_45 : Nat → Int32 → Int32 → MI → ML → Option Mm
  | 0, _, _, _, _ => none
  | n + 1, v1_9, v2_10, I_11, L_12 =>
    if v1_9 ≤ v2_10 then
    some (I_11, L_12)
    else
    f_X8_laysDepths_52 v2_10 (fun (v1_29 : Int32) (I_30 : MI) (L_31 : ML) =>
    bnd (v2_10 + 1 : Int32) (fun v2_32 =>
    f_X8_laysDepths_45 n v1_29 v2_32 I_30 L_31)) FU v1_9 0 I_11 L_12
def f_X8_laysDepths_6 (L : ML) (k0 : MI → Option Mm) : Nat → Int32 → MI → Option Mm
  | 0, _, _ => none
  | n + 1, v1_2, I_3 =>
    if (I_3 43 24) ≤ v1_2 then
    (k0 I_3)
    else
    chk (inb v1_2 5040) (bnd (up2 I_3 61 (ix v1_2) (-1)) (fun I_4 =>
    bnd (v1_2 + 1 : Int32) (fun v1_5 =>
    f_X8_laysDepths_6 L k0 n v1_5 I_4)))
def f_X8_laysDepths (I : MI) (L : ML) : Option Mm :=
  Option.bind (f_X8_laysAll I L) (fun q_1 =>
  f_X8_laysDepths_6 q_1.2 (fun (I_6 : MI) =>
  chk (inb 0 5040) (bnd (up2 I_6 61 (ix 0) 0) (fun I_7 =>
  chk (inb 0 5040) (bnd (up2 I_7 62 (ix 0) 0) (fun I_8 =>
  f_X8_laysDepths_45 FU 1 0 I_8 q_1.2))))) FU 0 q_1.1)
def f_X8_wayTo_44 (a1 : Nat) (v2_9 : Int32) (v3_10 : Int32) (v4_11 : Int32) (k0 : Int32 → MI → ML → Option (Int32 × Mm)) : Nat → Int32 → MI → ML → Option (Int32 × Mm)
  | 0, _, _, _ => none
  | n + 1, v5_12, I_13, L_14 =>
    bnd (v5_12 + 1 : Int32) (fun v5_15 =>
    Option.bind (f_X8_laysStep v5_15 49 I_13 L_14) (fun q_16 =>
    Option.bind (f_X8_inverts 49 50 q_16.1 q_16.2) (fun q_17 =>
    Option.bind (f_X8_makes 50 46 48 q_17.1 q_17.2) (fun q_18 =>
    Option.bind (f_X8_placeOf 48 q_18.1 q_18.2) (fun q_19 =>
    chk (inb q_19.1 5040) (
    if (q_19.2.1 61 (ix q_19.1)) = ((v3_10 - v4_11) - 1) then
    (k0 v5_15 q_19.2.1 q_19.2.2)
    else
    f_X8_wayTo_44 a1 v2_9 v3_10 v4_11 k0 n v5_15 q_19.2.1 q_19.2.2))))))
def f_X8_wayTo_41 (a1 : Nat) (v2_4 : Int32) (v3_5 : Int32) : Nat → Int32 → MI → ML → Option (Int32 × Mm)
  | 0, _, _, _ => none
  | n + 1, v4_6, I_7, L_8 =>
    f_X8_wayTo_44 a1 v2_4 v3_5 v4_6 (fun (v5_20 : Int32) (I_21 : MI) (L_22 : ML) =>
    if v4_6 = v2_4 then
    some (v5_20, I_21, L_22)
    else
    Option.bind (f_X8_copies 48 10 0 46 10 0 I_21 L_22) (fun q_23 =>
    bnd (v4_6 + 1 : Int32) (fun v4_24 =>
    f_X8_wayTo_41 a1 v2_4 v3_5 n v4_24 q_23.1 q_23.2))) FU (-1) I_7 L_8
def f_X8_wayTo (a1 : Nat) (a2 : Int32) (I : MI) (L : ML) : Option (Int32 × Mm) :=
  Option.bind (f_X8_copies a1 10 0 46 10 0 I L) (fun q_1 =>
  Option.bind (f_X8_placeOf 46 q_1.1 q_1.2) (fun q_2 =>
  chk (inb q_2.1 5040) (
  bnd ((q_2.2.1 61 (ix q_2.1)) : Int32) (fun v3_3 =>
  if a2 = (-1) then
  some (v3_3, q_2.2.1, q_2.2.2)
  else
  if a2 < v3_3 then
  f_X8_wayTo_41 a1 a2 v3_3 FU 0 q_2.2.1 q_2.2.2
  else
  some ((-1), q_2.2.1, q_2.2.2)))))
def f_X8_way (a1 : Int64) (a3 : Int32) (I : MI) (L : ML) : Option (Int32 × Mm) :=
  Option.bind (f_X8_lies a1 47 I L) (fun q_1 =>
  bnd ((fun (s0_2 : Bool) =>
  Option.bind (f_X8_whySmall (b2i s0_2) q_1.2.1 q_1.2.2) (fun q_3 =>
  Option.bind (f_X8_is q_3.1 q_3.2.1 q_3.2.2) (fun q_4 =>
  if (b2i q_4.1) = 0 then
  some ((-1), q_4.2.1, q_4.2.2)
  else
  Option.bind (f_X8_isMember 0 47 q_4.2.1 q_4.2.2) (fun q_5 =>
  if (b2i q_5.1) = 0 then
  Option.bind (f_X8_refuse 6 q_5.2.1 q_5.2.2) (fun q_9 =>
  some (q_9.1, q_9.2.1, q_9.2.2))
  else
  Option.bind (f_X8_laysDepths q_5.2.1 q_5.2.2) (fun q_6 =>
  Option.bind (f_X8_wayTo 47 a3 q_6.1 q_6.2) (fun q_7 =>
  Option.bind (f_X8_there q_7.1 q_7.2.1 q_7.2.2) (fun q_8 =>
  some (q_8.1, q_8.2.1, q_8.2.2)))))))) : Bool → Option (Int32 × Mm)) (fun j24_250 =>
  bnd (((j24_250 true)) : Option (Int32 × Mm)) (fun j23_251 =>
  if (b2i q_1.1) = 0 then
  j23_251
  else
  if a3 < (-1) then
  j23_251
  else
  (j24_250 false))))
def f_X8_deepMost_4 (I : MI) (L : ML) : Nat → Int32 → Int32 → Option Int32
  | 0, _, _ => none
  | n + 1, v1_1, v2_2 =>
    if (I 43 24) ≤ v2_2 then
    some v1_1
    else
    chk (inb v2_2 5040) (
    if (I 61 (ix v2_2)) ≤ v1_1 then
    bnd (v2_2 + 1 : Int32) (fun v2_3 =>
    f_X8_deepMost_4 I L n v1_1 v2_3)
    else
    chk (inb v2_2 5040) (
    bnd ((I 61 (ix v2_2)) : Int32) (fun v1_4 =>
    bnd (v2_2 + 1 : Int32) (fun v2_5 =>
    f_X8_deepMost_4 I L n v1_4 v2_5))))
def f_X8_deepMost (I : MI) (L : ML) : Option Int32 :=
  f_X8_deepMost_4 I L FU 0 0
def f_X8_deep_30 (v1_5 : Int32) (I : MI) (L : ML) (k0 : Int32 → Option (Int32 × Mm)) : Nat → Int32 → Int32 → Option (Int32 × Mm)
  | 0, _, _ => none
  | n + 1, v2_6, v3_7 =>
    if (I 43 24) ≤ v3_7 then
    (k0 v2_6)
    else
    chk (inb v3_7 5040) (
    if (I 61 (ix v3_7)) = v1_5 then
    bnd ((v2_6 + 1) : Int32) (fun v2_10 =>
    bnd (v3_7 + 1 : Int32) (fun v3_11 =>
    f_X8_deep_30 v1_5 I L k0 n v2_10 v3_11))
    else
    bnd ((v2_6 + 0) : Int32) (fun v2_8 =>
    bnd (v3_7 + 1 : Int32) (fun v3_9 =>
    f_X8_deep_30 v1_5 I L k0 n v2_8 v3_9)))
def f_X8_deep (a1 : Int32) (I : MI) (L : ML) : Option (Int32 × Mm) :=
  bnd ((fun (s0_1 : Bool) =>
  Option.bind (f_X8_whySmall (b2i s0_1) I L) (fun q_2 =>
  Option.bind (f_X8_is q_2.1 q_2.2.1 q_2.2.2) (fun q_3 =>
  if (b2i q_3.1) = 0 then
  some ((-1), q_3.2.1, q_3.2.2)
  else
  Option.bind (f_X8_laysDepths q_3.2.1 q_3.2.2) (fun q_4 =>
  f_X8_deep_30 a1 q_4.1 q_4.2 (fun (v2_12 : Int32) =>
  if v2_12 = 0 then
  Option.bind (f_X8_refuse 5 q_4.1 q_4.2) (fun q_13 =>
  some (q_13.1, q_13.2.1, q_13.2.2))
  else
  some (v2_12, q_4.1, q_4.2)) FU 0 0)))) : Bool → Option (Int32 × Mm)) (fun j11_253 =>
  if a1 < 0 then
  (j11_253 true)
  else
  (j11_253 false))
def f_X8_deepest_39 (v1_7 : Int32) (v2_8 : Int32) (I : MI) (L : ML) (k0 : Int32 → Option (Int32 × Mm)) : Nat → Int32 → Option (Int32 × Mm)
  | 0, _ => none
  | n + 1, v3_9 =>
    chk (inb v3_9 5040) (
    if (I 61 (ix v3_9)) = v2_8 then
    (k0 v3_9)
    else
    bnd (v3_9 + 1 : Int32) (fun v3_10 =>
    f_X8_deepest_39 v1_7 v2_8 I L k0 n v3_10))
def f_X8_deepest (a1 : Int32) (I : MI) (L : ML) : Option (Int32 × Mm) :=
  Option.bind (f_X8_isIn (Int32.toInt64 a1) 0 1) (fun q_1 =>
  bnd ((fun (s0_2 : Bool) =>
  Option.bind (f_X8_whySmall (b2i s0_2) I L) (fun q_3 =>
  Option.bind (f_X8_is q_3.1 q_3.2.1 q_3.2.2) (fun q_4 =>
  if (b2i q_4.1) = 0 then
  some ((-1), q_4.2.1, q_4.2.2)
  else
  Option.bind (f_X8_laysDepths q_4.2.1 q_4.2.2) (fun q_5 =>
  Option.bind (f_X8_deepMost q_5.1 q_5.2) (fun q_6 =>
  f_X8_deepest_39 a1 q_6 q_5.1 q_5.2 (fun (v3_11 : Int32) =>
  if a1 = 0 then
  some (q_6, q_5.1, q_5.2)
  else
  some (v3_11, q_5.1, q_5.2)) FU 0))))) : Bool → Option (Int32 × Mm)) (fun j17_256 =>
  if (b2i q_1) = 0 then
  (j17_256 true)
  else
  (j17_256 false)))
def f_X8_mean_36 (v1_6 : Int32) (I : MI) (L : ML) (k0 : Int32 → Option (Int32 × Mm)) : Nat → Int32 → Int32 → Option (Int32 × Mm)
  | 0, _, _ => none
  | n + 1, v2_7, v3_8 =>
    if (I 43 24) ≤ v3_8 then
    (k0 v2_7)
    else
    chk (inb v3_8 5040) (
    bnd ((v2_7 + (I 61 (ix v3_8))) : Int32) (fun v2_9 =>
    bnd (v3_8 + 1 : Int32) (fun v3_10 =>
    f_X8_mean_36 v1_6 I L k0 n v2_9 v3_10)))
def f_X8_mean (a1 : Int32) (I : MI) (L : ML) : Option (Int32 × Mm) :=
  Option.bind (f_X8_isIn (Int32.toInt64 a1) 0 1) (fun q_1 =>
  bnd ((fun (s0_2 : Bool) =>
  Option.bind (f_X8_whySmall (b2i s0_2) I L) (fun q_3 =>
  Option.bind (f_X8_is q_3.1 q_3.2.1 q_3.2.2) (fun q_4 =>
  if (b2i q_4.1) = 0 then
  some ((-1), q_4.2.1, q_4.2.2)
  else
  Option.bind (f_X8_laysDepths q_4.2.1 q_4.2.2) (fun q_5 =>
  f_X8_mean_36 a1 q_5.1 q_5.2 (fun (v2_11 : Int32) =>
  if a1 = 0 then
  Option.bind (f_X8_common (q_5.1 43 24) v2_11) (fun q_13 =>
  chk (decide ((q_13 : Int32) ≠ 0)) (
  some ((v2_11 / q_13), q_5.1, q_5.2)))
  else
  Option.bind (f_X8_common (q_5.1 43 24) v2_11) (fun q_12 =>
  chk (decide ((q_12 : Int32) ≠ 0)) (
  some (((q_5.1 43 24) / q_12), q_5.1, q_5.2)))) FU 0 0)))) : Bool → Option (Int32 × Mm)) (fun j17_259 =>
  if (b2i q_1) = 0 then
  (j17_259 true)
  else
  (j17_259 false)))
def f_X8_nearer_63 (v1_8 : Int32) : Nat → Int32 → Int32 → MI → ML → Option (Int32 × Mm)
  | 0, _, _, _, _ => none
  | n + 1, v2_9, v3_10, I_11, L_12 =>
    Option.bind (f_X8_moves I_11 L_12) (fun q_13 =>
    if (2 * q_13) ≤ v3_10 then
    some (v2_9, I_11, L_12)
    else
    Option.bind (f_X8_laysStep v3_10 49 I_11 L_12) (fun q_14 =>
    Option.bind (f_X8_makes 47 49 48 q_14.1 q_14.2) (fun q_15 =>
    Option.bind (f_X8_placeOf 48 q_15.1 q_15.2) (fun q_16 =>
    chk (inb q_16.1 5040) (
    if v1_8 ≤ (q_16.2.1 61 (ix q_16.1)) then
    bnd ((v2_9 ||| 0) : Int32) (fun v2_17 =>
    bnd (v3_10 + 1 : Int32) (fun v3_18 =>
    f_X8_nearer_63 v1_8 n v2_17 v3_18 q_16.2.1 q_16.2.2))
    else
    bnd ((v2_9 ||| (shl 1 v3_10)) : Int32) (fun v2_19 =>
    bnd (v3_10 + 1 : Int32) (fun v3_20 =>
    f_X8_nearer_63 v1_8 n v2_19 v3_20 q_16.2.1 q_16.2.2)))))))
def f_X8_nearer (I : MI) (L : ML) : Option (Int32 × Mm) :=
  Option.bind (f_X8_whySmall 0 I L) (fun q_1 =>
  Option.bind (f_X8_is q_1.1 q_1.2.1 q_1.2.2) (fun q_2 =>
  if (b2i q_2.1) = 0 then
  some ((-1), q_2.2.1, q_2.2.2)
  else
  Option.bind (f_X8_laysStand 47 q_2.2.1 q_2.2.2) (fun q_3 =>
  Option.bind (f_X8_isMember 0 47 q_3.1 q_3.2) (fun q_4 =>
  if (b2i q_4.1) = 0 then
  Option.bind (f_X8_refuse 6 q_4.2.1 q_4.2.2) (fun q_21 =>
  some (q_21.1, q_21.2.1, q_21.2.2))
  else
  Option.bind (f_X8_laysDepths q_4.2.1 q_4.2.2) (fun q_5 =>
  Option.bind (f_X8_placeOf 47 q_5.1 q_5.2) (fun q_6 =>
  chk (inb q_6.1 5040) (
  bnd ((q_6.2.1 61 (ix q_6.1)) : Int32) (fun v1_7 =>
  f_X8_nearer_63 v1_7 FU 0 0 q_6.2.1 q_6.2.2))))))))
def f_X8_solve (a1 : Int32) (I : MI) (L : ML) : Option (Int32 × Mm) :=
  bnd ((fun (s0_1 : Bool) =>
  Option.bind (f_X8_whySmall (b2i s0_1) I L) (fun q_2 =>
  Option.bind (f_X8_is q_2.1 q_2.2.1 q_2.2.2) (fun q_3 =>
  if (b2i q_3.1) = 0 then
  some ((-1), q_3.2.1, q_3.2.2)
  else
  Option.bind (f_X8_laysStand 46 q_3.2.1 q_3.2.2) (fun q_4 =>
  Option.bind (f_X8_inverts 46 47 q_4.1 q_4.2) (fun q_5 =>
  Option.bind (f_X8_isMember 0 47 q_5.1 q_5.2) (fun q_6 =>
  if (b2i q_6.1) = 0 then
  Option.bind (f_X8_refuse 6 q_6.2.1 q_6.2.2) (fun q_10 =>
  some (q_10.1, q_10.2.1, q_10.2.2))
  else
  Option.bind (f_X8_laysDepths q_6.2.1 q_6.2.2) (fun q_7 =>
  Option.bind (f_X8_wayTo 47 a1 q_7.1 q_7.2) (fun q_8 =>
  Option.bind (f_X8_there q_8.1 q_8.2.1 q_8.2.2) (fun q_9 =>
  some (q_9.1, q_9.2.1, q_9.2.2)))))))))) : Bool → Option (Int32 × Mm)) (fun j12_263 =>
  if a1 < (-1) then
  (j12_263 true)
  else
  (j12_263 false))
def f_X8_turns (a1 : Nat) (a2 : Nat) (a3 : Nat) (I : MI) (L : ML) : Option Mm :=
  Option.bind (f_X8_inverts a2 49 I L) (fun q_1 =>
  Option.bind (f_X8_makes 49 a1 50 q_1.1 q_1.2) (fun q_2 =>
  Option.bind (f_X8_makes 50 a2 a3 q_2.1 q_2.2) (fun q_3 =>
  some (q_3.1, q_3.2))))
def f_X8_goesWithMoves_2 (a1 : Nat) : Nat → Int32 → MI → ML → Option (Bool × Mm)
  | 0, _, _, _ => none
  | n + 1, v2_1, I_2, L_3 =>
    Option.bind (f_X8_moves I_2 L_3) (fun q_4 =>
    if q_4 ≤ v2_1 then
    some (true, I_2, L_3)
    else
    Option.bind (f_X8_laysMove v2_1 47 I_2 L_3) (fun q_5 =>
    Option.bind (f_X8_makes a1 47 49 q_5.1 q_5.2) (fun q_6 =>
    Option.bind (f_X8_makes 47 a1 50 q_6.1 q_6.2) (fun q_7 =>
    Option.bind (f_X8_areSame 49 50 q_7.1 q_7.2) (fun q_8 =>
    if (b2i q_8) = 0 then
    some (false, q_7.1, q_7.2)
    else
    bnd (v2_1 + 1 : Int32) (fun v2_9 =>
    f_X8_goesWithMoves_2 a1 n v2_9 q_7.1 q_7.2))))))
def f_X8_goesWithMoves (a1 : Nat) (I : MI) (L : ML) : Option (Bool × Mm) :=
  f_X8_goesWithMoves_2 a1 FU 0 I L
def f_X8_centre_31 (v1_5 : Int32) (k0 : Int32 → MI → ML → Option (Int32 × Mm)) : Nat → Int32 → Int32 → MI → ML → Option (Int32 × Mm)
  | 0, _, _, _, _ => none
  | n + 1, v2_6, v3_7, I_8, L_9 =>
    if (I_8 43 24) ≤ v3_7 then
    (k0 v2_6 I_8 L_9)
    else
    Option.bind (f_X8_laysOne v3_7 46 I_8 L_9) (fun q_10 =>
    Option.bind (f_X8_goesWithMoves 46 q_10.1 q_10.2) (fun q_11 =>
    if (b2i q_11.1) = 0 then
    bnd (v3_7 + 1 : Int32) (fun v3_14 =>
    f_X8_centre_31 v1_5 k0 n v2_6 v3_14 q_11.2.1 q_11.2.2)
    else
    if v2_6 = v1_5 then
    some (v3_7, q_11.2.1, q_11.2.2)
    else
    bnd (v2_6 + 1 : Int32) (fun v2_12 =>
    bnd (v3_7 + 1 : Int32) (fun v3_13 =>
    f_X8_centre_31 v1_5 k0 n v2_12 v3_13 q_11.2.1 q_11.2.2))))
def f_X8_centre (a1 : Int32) (I : MI) (L : ML) : Option (Int32 × Mm) :=
  bnd ((fun (s0_1 : Bool) =>
  Option.bind (f_X8_whySmall (b2i s0_1) I L) (fun q_2 =>
  Option.bind (f_X8_is q_2.1 q_2.2.1 q_2.2.2) (fun q_3 =>
  if (b2i q_3.1) = 0 then
  some ((-1), q_3.2.1, q_3.2.2)
  else
  Option.bind (f_X8_laysAll q_3.2.1 q_3.2.2) (fun q_4 =>
  f_X8_centre_31 a1 (fun (v2_15 : Int32) (I_16 : MI) (L_17 : ML) =>
  if a1 = (-1) then
  some (v2_15, I_16, L_17)
  else
  Option.bind (f_X8_refuse 5 I_16 L_17) (fun q_18 =>
  some (q_18.1, q_18.2.1, q_18.2.2))) FU 0 0 q_4.1 q_4.2)))) : Bool → Option (Int32 × Mm)) (fun j12_265 =>
  if a1 < (-1) then
  (j12_265 true)
  else
  (j12_265 false))
def f_X8_laysClass_26 (v1_8 : Int32) (v3_10 : Int32) (k0 : Int32 → MI → ML → Option (Int32 × Mm)) : Nat → Int32 → Int32 → MI → ML → Option (Int32 × Mm)
  | 0, _, _, _, _ => none
  | n + 1, v2_9, v4_11, I_12, L_13 =>
    Option.bind (f_X8_moves I_12 L_13) (fun q_14 =>
    if q_14 ≤ v4_11 then
    (k0 v2_9 I_12 L_13)
    else
    chk (inb v3_10 5040) (
    Option.bind (f_X8_laysOne (I_12 62 (ix v3_10)) 46 I_12 L_13) (fun q_15 =>
    Option.bind (f_X8_laysMove v4_11 47 q_15.1 q_15.2) (fun q_16 =>
    Option.bind (f_X8_turns 46 47 48 q_16.1 q_16.2) (fun q_17 =>
    Option.bind (f_X8_placeOf 48 q_17.1 q_17.2) (fun q_18 =>
    bnd (q_18.1 : Int32) (fun v5_19 =>
    chk (inb v5_19 5040) (
    if (q_18.2.1 63 (ix v5_19)) = (-1) then
    chk (inb v5_19 5040) (bnd (up2 q_18.2.1 63 (ix v5_19) v1_8) (fun I_20 =>
    chk (inb v2_9 5040) (bnd (up2 I_20 62 (ix v2_9) v5_19) (fun I_21 =>
    bnd (v2_9 + 1 : Int32) (fun v2_22 =>
    bnd (v4_11 + 1 : Int32) (fun v4_23 =>
    f_X8_laysClass_26 v1_8 v3_10 k0 n v2_22 v4_23 I_21 q_18.2.2))))))
    else
    bnd (v4_11 + 1 : Int32) (fun v4_24 =>
    f_X8_laysClass_26 v1_8 v3_10 k0 n v2_9 v4_24 q_18.2.1 q_18.2.2)))))))))
def f_X8_laysClass_18 (v1_3 : Int32) : Nat → Int32 → Int32 → MI → ML → Option (Int32 × Mm)
  | 0, _, _, _, _ => none
  | n + 1, v2_4, v3_5, I_6, L_7 =>
    if v2_4 ≤ v3_5 then
    some (v2_4, I_6, L_7)
    else
    f_X8_laysClass_26 v1_3 v3_5 (fun (v2_25 : Int32) (I_26 : MI) (L_27 : ML) =>
    bnd (v3_5 + 1 : Int32) (fun v3_28 =>
    f_X8_laysClass_18 v1_3 n v2_25 v3_28 I_26 L_27)) FU v2_4 0 I_6 L_7
def f_X8_laysClass (a1 : Int32) (I : MI) (L : ML) : Option (Int32 × Mm) :=
  chk (inb a1 5040) (bnd (up2 I 63 (ix a1) a1) (fun I_1 =>
  chk (inb 0 5040) (bnd (up2 I_1 62 (ix 0) a1) (fun I_2 =>
  f_X8_laysClass_18 a1 FU 1 0 I_2 L))))
def f_X8_laysClasses_31 : Nat → Int32 → Int32 → MI → ML → Option (Int32 × Mm)
  | 0, _, _, _, _ => none
  | n + 1, v1_7, v2_8, I_9, L_10 =>
    if (I_9 43 24) ≤ v2_8 then
    some (v1_7, I_9, L_10)
    else
    chk (inb v2_8 5040) (
    if (I_9 63 (ix v2_8)) = (-1) then
    Option.bind (f_X8_laysClass v2_8 I_9 L_10) (fun q_11 =>
    bnd (v1_7 + 1 : Int32) (fun v1_12 =>
    bnd (v2_8 + 1 : Int32) (fun v2_13 =>
    f_X8_laysClasses_31 n v1_12 v2_13 q_11.2.1 q_11.2.2)))
    else
    bnd (v2_8 + 1 : Int32) (fun v2_14 =>
    f_X8_laysClasses_31 n v1_7 v2_14 I_9 L_10))
def f_X8_laysClasses_6 (L : ML) (k0 : MI → Option (Int32 × Mm)) : Nat → Int32 → MI → Option (Int32 × Mm)
  | 0, _, _ => none
  | n + 1, v1_2, I_3 =>
    if (I_3 43 24) ≤ v1_2 then
    (k0 I_3)
    else
    chk (inb v1_2 5040) (bnd (up2 I_3 63 (ix v1_2) (-1)) (fun I_4 =>
    bnd (v1_2 + 1 : Int32) (fun v1_5 =>
    f_X8_laysClasses_6 L k0 n v1_5 I_4)))
def f_X8_laysClasses (I : MI) (L : ML) : Option (Int32 × Mm) :=
  Option.bind (f_X8_laysAll I L) (fun q_1 =>
  f_X8_laysClasses_6 q_1.2 (fun (I_6 : MI) =>
  f_X8_laysClasses_31 FU 0 0 I_6 q_1.2) FU 0 q_1.1)
def f_X8_classes (I : MI) (L : ML) : Option (Int32 × Mm) :=
  Option.bind (f_X8_whySmall 0 I L) (fun q_1 =>
  Option.bind (f_X8_is q_1.1 q_1.2.1 q_1.2.2) (fun q_2 =>
  if (b2i q_2.1) = 0 then
  some ((-1), q_2.2.1, q_2.2.2)
  else
  Option.bind (f_X8_laysClasses q_2.2.1 q_2.2.2) (fun q_3 =>
  some (q_3.1, q_3.2.1, q_3.2.2))))
def f_X8_inClass_4 (v1_1 : Int32) (I : MI) (L : ML) : Nat → Int32 → Int32 → Option Int32
  | 0, _, _ => none
  | n + 1, v2_2, v3_3 =>
    if (I 43 24) ≤ v3_3 then
    some v2_2
    else
    chk (inb v3_3 5040) (
    chk (inb v1_1 5040) (
    if (I 63 (ix v3_3)) = (I 63 (ix v1_1)) then
    bnd ((v2_2 + 1) : Int32) (fun v2_6 =>
    bnd (v3_3 + 1 : Int32) (fun v3_7 =>
    f_X8_inClass_4 v1_1 I L n v2_6 v3_7))
    else
    bnd ((v2_2 + 0) : Int32) (fun v2_4 =>
    bnd (v3_3 + 1 : Int32) (fun v3_5 =>
    f_X8_inClass_4 v1_1 I L n v2_4 v3_5))))
def f_X8_inClass (a1 : Int32) (I : MI) (L : ML) : Option Int32 :=
  f_X8_inClass_4 a1 I L FU 0 0
def f_X8_alike (a1 : Int64) (I : MI) (L : ML) : Option (Int32 × Mm) :=
  Option.bind (f_X8_lies a1 46 I L) (fun q_1 =>
  bnd ((fun (s0_2 : Bool) =>
  Option.bind (f_X8_whySmall (b2i s0_2) q_1.2.1 q_1.2.2) (fun q_3 =>
  Option.bind (f_X8_is q_3.1 q_3.2.1 q_3.2.2) (fun q_4 =>
  if (b2i q_4.1) = 0 then
  some ((-1), q_4.2.1, q_4.2.2)
  else
  Option.bind (f_X8_placeOf 46 q_4.2.1 q_4.2.2) (fun q_5 =>
  bnd (q_5.1 : Int32) (fun v3_6 =>
  if v3_6 = (-1) then
  Option.bind (f_X8_refuse 6 q_5.2.1 q_5.2.2) (fun q_9 =>
  some (q_9.1, q_9.2.1, q_9.2.2))
  else
  Option.bind (f_X8_laysClasses q_5.2.1 q_5.2.2) (fun q_7 =>
  Option.bind (f_X8_inClass v3_6 q_7.2.1 q_7.2.2) (fun q_8 =>
  some (q_8, q_7.2.1, q_7.2.2)))))))) : Bool → Option (Int32 × Mm)) (fun j19_275 =>
  if (b2i q_1.1) = 0 then
  (j19_275 true)
  else
  (j19_275 false)))
def f_X8_same (a1 : Int64) (a3 : Int64) (I : MI) (L : ML) : Option (Int32 × Mm) :=
  Option.bind (f_X8_lies a1 46 I L) (fun q_1 =>
  bnd ((fun (s0_5 : Bool) (I_6 : MI) (L_7 : ML) =>
  Option.bind (f_X8_whySmall (b2i s0_5) I_6 L_7) (fun q_8 =>
  Option.bind (f_X8_is q_8.1 q_8.2.1 q_8.2.2) (fun q_9 =>
  if (b2i q_9.1) = 0 then
  some ((-1), q_9.2.1, q_9.2.2)
  else
  Option.bind (f_X8_placeOf 46 q_9.2.1 q_9.2.2) (fun q_10 =>
  bnd (q_10.1 : Int32) (fun v5_11 =>
  Option.bind (f_X8_placeOf 47 q_10.2.1 q_10.2.2) (fun q_12 =>
  bnd (q_12.1 : Int32) (fun v6_13 =>
  if v5_11 = (-1) then
  Option.bind (f_X8_refuse 6 q_12.2.1 q_12.2.2) (fun q_14 =>
  some (q_14.1, q_14.2.1, q_14.2.2))
  else
  if v6_13 = (-1) then
  Option.bind (f_X8_refuse 6 q_12.2.1 q_12.2.2) (fun q_16 =>
  some (q_16.1, q_16.2.1, q_16.2.2))
  else
  Option.bind (f_X8_laysClasses q_12.2.1 q_12.2.2) (fun q_15 =>
  chk (inb v5_11 5040) (
  chk (inb v6_13 5040) (
  if (q_15.2.1 63 (ix v5_11)) = (q_15.2.1 63 (ix v6_13)) then
  some (1, q_15.2.1, q_15.2.2)
  else
  some (0, q_15.2.1, q_15.2.2))))))))))) : Bool → MI → ML → Option (Int32 × Mm)) (fun j31_276 =>
  bnd ((fun (I_3 : MI) (L_4 : ML) =>
  (j31_276 true I_3 L_4)) : MI → ML → Option (Int32 × Mm)) (fun j30_277 =>
  if (b2i q_1.1) = 0 then
  (j30_277 q_1.2.1 q_1.2.2)
  else
  Option.bind (f_X8_lies a3 47 q_1.2.1 q_1.2.2) (fun q_2 =>
  if (b2i q_2.1) = 0 then
  (j30_277 q_2.2.1 q_2.2.2)
  else
  (j31_276 false q_2.2.1 q_2.2.2)))))
def f_X8_commutes_19 (a1 : Nat) (a2 : Nat) (a3 : Nat) (L : ML) : Nat → Int32 → MI → Option Mm
  | 0, _, _ => none
  | n + 1, v4_3, I_4 =>
    if 10 ≤ v4_3 then
    some (I_4, L)
    else
    chk (inb v4_3 10) (
    chk (inb (I_4 49 (ix v4_3)) 10) (
    chk (inb (I_4 50 (ix (I_4 49 (ix v4_3)))) 10) (
    chk (inb (I_4 a1 (ix (I_4 50 (ix (I_4 49 (ix v4_3)))))) 10) (
    chk (inb v4_3 10) (bnd (up2 I_4 a3 (ix v4_3) (I_4 a2 (ix (I_4 a1 (ix (I_4 50 (ix (I_4 49 (ix v4_3))))))))) (fun I_5 =>
    bnd (v4_3 + 1 : Int32) (fun v4_6 =>
    f_X8_commutes_19 a1 a2 a3 L n v4_6 I_5)))))))
def f_X8_commutes (a1 : Nat) (a2 : Nat) (a3 : Nat) (I : MI) (L : ML) : Option Mm :=
  Option.bind (f_X8_inverts a1 49 I L) (fun q_1 =>
  Option.bind (f_X8_inverts a2 50 q_1.1 q_1.2) (fun q_2 =>
  f_X8_commutes_19 a1 a2 a3 q_2.2 FU 0 q_2.1))
def f_X8_commutator (a1 : Int64) (a3 : Int64) (I : MI) (L : ML) : Option (Int64 × Mm) :=
  Option.bind (f_X8_lies a1 46 I L) (fun q_1 =>
  bnd ((fun (s0_5 : Bool) (I_6 : MI) (L_7 : ML) =>
  Option.bind (f_X8_is (b2i s0_5) I_6 L_7) (fun q_8 =>
  if (b2i q_8.1) = 0 then
  some ((-1), q_8.2.1, q_8.2.2)
  else
  Option.bind (f_X8_commutes 46 47 48 q_8.2.1 q_8.2.2) (fun q_9 =>
  Option.bind (f_X8_told 48 q_9.1 q_9.2) (fun q_10 =>
  some (q_10, q_9.1, q_9.2))))) : Bool → MI → ML → Option (Int64 × Mm)) (fun j30_279 =>
  bnd ((fun (I_3 : MI) (L_4 : ML) =>
  (j30_279 true I_3 L_4)) : MI → ML → Option (Int64 × Mm)) (fun j29_280 =>
  if (b2i q_1.1) = 0 then
  (j29_280 q_1.2.1 q_1.2.2)
  else
  Option.bind (f_X8_lies a3 47 q_1.2.1 q_1.2.2) (fun q_2 =>
  if (b2i q_2.1) = 0 then
  (j29_280 q_2.2.1 q_2.2.2)
  else
  (j30_279 false q_2.2.1 q_2.2.2)))))
def f_X8_turned (a1 : Int64) (a3 : Int64) (I : MI) (L : ML) : Option (Int64 × Mm) :=
  Option.bind (f_X8_lies a1 46 I L) (fun q_1 =>
  bnd ((fun (s0_5 : Bool) (I_6 : MI) (L_7 : ML) =>
  Option.bind (f_X8_is (b2i s0_5) I_6 L_7) (fun q_8 =>
  if (b2i q_8.1) = 0 then
  some ((-1), q_8.2.1, q_8.2.2)
  else
  Option.bind (f_X8_turns 46 47 48 q_8.2.1 q_8.2.2) (fun q_9 =>
  Option.bind (f_X8_told 48 q_9.1 q_9.2) (fun q_10 =>
  some (q_10, q_9.1, q_9.2))))) : Bool → MI → ML → Option (Int64 × Mm)) (fun j30_281 =>
  bnd ((fun (I_3 : MI) (L_4 : ML) =>
  (j30_281 true I_3 L_4)) : MI → ML → Option (Int64 × Mm)) (fun j29_282 =>
  if (b2i q_1.1) = 0 then
  (j29_282 q_1.2.1 q_1.2.2)
  else
  Option.bind (f_X8_lies a3 47 q_1.2.1 q_1.2.2) (fun q_2 =>
  if (b2i q_2.1) = 0 then
  (j29_282 q_2.2.1 q_2.2.2)
  else
  (j30_281 false q_2.2.1 q_2.2.2)))))
def f_X8_isOwn (a0 : Int32) : Option Bool :=
  chk (decide ((10 : Int32) ≠ 0)) (
  chk (decide ((10 : Int32) ≠ 0)) (
  if (a0 / 10) = (irem a0 10) then
  some false
  else
  some true))
def f_X8_copiesSlot_38 (v1_8 : Int32) (v2_9 : Int32) (L : ML) : Nat → Int32 → MI → Option Mm
  | 0, _, _ => none
  | n + 1, v3_10, I_11 =>
    if 1000 ≤ v3_10 then
    some (I_11, L)
    else
    chk (inb ((1000 * v1_8) + v3_10) 4000) (
    chk (inb ((1000 * v2_9) + v3_10) 4000) (bnd (up2 I_11 53 (ix ((1000 * v2_9) + v3_10)) (I_11 53 (ix ((1000 * v1_8) + v3_10)))) (fun I_12 =>
    bnd (v3_10 + 1 : Int32) (fun v3_13 =>
    f_X8_copiesSlot_38 v1_8 v2_9 L n v3_13 I_12))))
def f_X8_copiesSlot_2 (v1_1 : Int32) (v2_2 : Int32) (L : ML) (k0 : MI → Option Mm) : Nat → Int32 → MI → Option Mm
  | 0, _, _ => none
  | n + 1, v3_3, I_4 =>
    if 100 ≤ v3_3 then
    (k0 I_4)
    else
    chk (inb ((100 * v1_1) + v3_3) 400) (
    chk (inb ((100 * v2_2) + v3_3) 400) (bnd (up2 I_4 52 (ix ((100 * v2_2) + v3_3)) (vp_nar .boolean (I_4 52 (ix ((100 * v1_1) + v3_3))))) (fun I_5 =>
    bnd (v3_3 + 1 : Int32) (fun v3_6 =>
    f_X8_copiesSlot_2 v1_1 v2_2 L k0 n v3_6 I_5))))
def f_X8_copiesSlot (a1 : Int32) (a2 : Int32) (I : MI) (L : ML) : Option Mm :=
  f_X8_copiesSlot_2 a1 a2 L (fun (I_7 : MI) =>
  f_X8_copiesSlot_38 a1 a2 L FU 0 I_7) FU 0 I
def f_X8_laysCommutators_44 (v1_10 : Int32) (v2_11 : Int32) (v3_12 : Int32) (v4_13 : Int32) (k0 : MI → ML → Option Mm) : Nat → Int32 → MI → ML → Option Mm
  | 0, _, _, _ => none
  | n + 1, v5_14, I_15, L_16 =>
    if 100 ≤ v5_14 then
    (k0 I_15 L_16)
    else
    chk (inb ((100 * v2_11) + v5_14) 400) (
    if (I_15 52 (ix ((100 * v2_11) + v5_14))) = 0 then
    bnd (v5_14 + 1 : Int32) (fun v5_17 =>
    f_X8_laysCommutators_44 v1_10 v2_11 v3_12 v4_13 k0 n v5_17 I_15 L_16)
    else
    Option.bind (f_X8_isOwn v5_14) (fun q_18 =>
    if (b2i q_18) = 0 then
    bnd (v5_14 + 1 : Int32) (fun v5_24 =>
    f_X8_laysCommutators_44 v1_10 v2_11 v3_12 v4_13 k0 n v5_24 I_15 L_16)
    else
    chk (decide ((10 : Int32) ≠ 0)) (
    chk (decide ((10 : Int32) ≠ 0)) (
    Option.bind (f_X8_laysCell v1_10 (v4_13 / 10) (irem v4_13 10) 46 I_15 L_16) (fun q_19 =>
    chk (decide ((10 : Int32) ≠ 0)) (
    chk (decide ((10 : Int32) ≠ 0)) (
    Option.bind (f_X8_laysCell v2_11 (v5_14 / 10) (irem v5_14 10) 47 q_19.1 q_19.2) (fun q_20 =>
    Option.bind (f_X8_commutes 46 47 48 q_20.1 q_20.2) (fun q_21 =>
    Option.bind (f_X8_adds v3_12 48 q_21.1 q_21.2) (fun q_22 =>
    bnd (v5_14 + 1 : Int32) (fun v5_23 =>
    f_X8_laysCommutators_44 v1_10 v2_11 v3_12 v4_13 k0 n v5_23 q_22.1 q_22.2)))))))))))
def f_X8_laysCommutators_202 (v2_44 : Int32) (v3_45 : Int32) (v5_47 : Int32) (k0 : Int32 → MI → ML → Option Mm) : Nat → Int32 → Int32 → MI → ML → Option Mm
  | 0, _, _, _, _ => none
  | n + 1, v4_46, v6_48, I_49, L_50 =>
    if 100 ≤ v6_48 then
    (k0 v4_46 I_49 L_50)
    else
    chk (inb ((100 * v2_44) + v6_48) 400) (
    if (I_49 52 (ix ((100 * v2_44) + v6_48))) = 0 then
    bnd (v6_48 + 1 : Int32) (fun v6_51 =>
    f_X8_laysCommutators_202 v2_44 v3_45 v5_47 k0 n v4_46 v6_51 I_49 L_50)
    else
    Option.bind (f_X8_isOwn v6_48) (fun q_52 =>
    if (b2i q_52) = 0 then
    bnd (v6_48 + 1 : Int32) (fun v6_60 =>
    f_X8_laysCommutators_202 v2_44 v3_45 v5_47 k0 n v4_46 v6_60 I_49 L_50)
    else
    chk (decide ((10 : Int32) ≠ 0)) (
    chk (decide ((10 : Int32) ≠ 0)) (
    Option.bind (f_X8_laysCell v3_45 (v5_47 / 10) (irem v5_47 10) 46 I_49 L_50) (fun q_53 =>
    chk (decide ((10 : Int32) ≠ 0)) (
    chk (decide ((10 : Int32) ≠ 0)) (
    Option.bind (f_X8_laysCell v2_44 (v6_48 / 10) (irem v6_48 10) 47 q_53.1 q_53.2) (fun q_54 =>
    Option.bind (f_X8_turns 46 47 48 q_54.1 q_54.2) (fun q_55 =>
    Option.bind (f_X8_isMember v3_45 48 q_55.1 q_55.2) (fun q_56 =>
    if (b2i q_56.1) = 0 then
    Option.bind (f_X8_adds v3_45 48 q_56.2.1 q_56.2.2) (fun q_57 =>
    bnd (v6_48 + 1 : Int32) (fun v6_58 =>
    f_X8_laysCommutators_202 v2_44 v3_45 v5_47 k0 n 1 v6_58 q_57.1 q_57.2))
    else
    bnd (v6_48 + 1 : Int32) (fun v6_59 =>
    f_X8_laysCommutators_202 v2_44 v3_45 v5_47 k0 n v4_46 v6_59 q_56.2.1 q_56.2.2)))))))))))
def f_X8_laysCommutators_166 (v2_36 : Int32) (v3_37 : Int32) (k0 : Int32 → MI → ML → Option Mm) : Nat → Int32 → Int32 → MI → ML → Option Mm
  | 0, _, _, _, _ => none
  | n + 1, v4_38, v5_39, I_40, L_41 =>
    if 100 ≤ v5_39 then
    (k0 v4_38 I_40 L_41)
    else
    chk (inb ((100 * v3_37) + v5_39) 400) (
    if (I_40 52 (ix ((100 * v3_37) + v5_39))) = 0 then
    bnd (v5_39 + 1 : Int32) (fun v5_42 =>
    f_X8_laysCommutators_166 v2_36 v3_37 k0 n v4_38 v5_42 I_40 L_41)
    else
    Option.bind (f_X8_isOwn v5_39) (fun q_43 =>
    if (b2i q_43) = 0 then
    bnd (v5_39 + 1 : Int32) (fun v5_65 =>
    f_X8_laysCommutators_166 v2_36 v3_37 k0 n v4_38 v5_65 I_40 L_41)
    else
    f_X8_laysCommutators_202 v2_36 v3_37 v5_39 (fun (v4_61 : Int32) (I_62 : MI) (L_63 : ML) =>
    bnd (v5_39 + 1 : Int32) (fun v5_64 =>
    f_X8_laysCommutators_166 v2_36 v3_37 k0 n v4_61 v5_64 I_62 L_63)) FU v4_38 0 I_40 L_41))
def f_X8_laysCommutators_155 (v2_31 : Int32) (v3_32 : Int32) : Nat → Int32 → MI → ML → Option Mm
  | 0, _, _, _ => none
  | n + 1, v4_33, I_34, L_35 =>
    if v4_33 = 0 then
    some (I_34, L_35)
    else
    f_X8_laysCommutators_166 v2_31 v3_32 (fun (v4_66 : Int32) (I_67 : MI) (L_68 : ML) =>
    f_X8_laysCommutators_155 v2_31 v3_32 n v4_66 I_67 L_68) FU 0 0 I_34 L_35
def f_X8_laysCommutators_8 (v1_2 : Int32) (v2_3 : Int32) (v3_4 : Int32) (k0 : MI → ML → Option Mm) : Nat → Int32 → MI → ML → Option Mm
  | 0, _, _, _ => none
  | n + 1, v4_5, I_6, L_7 =>
    if 100 ≤ v4_5 then
    (k0 I_6 L_7)
    else
    chk (inb ((100 * v1_2) + v4_5) 400) (
    if (I_6 52 (ix ((100 * v1_2) + v4_5))) = 0 then
    bnd (v4_5 + 1 : Int32) (fun v4_8 =>
    f_X8_laysCommutators_8 v1_2 v2_3 v3_4 k0 n v4_8 I_6 L_7)
    else
    Option.bind (f_X8_isOwn v4_5) (fun q_9 =>
    if (b2i q_9) = 0 then
    bnd (v4_5 + 1 : Int32) (fun v4_28 =>
    f_X8_laysCommutators_8 v1_2 v2_3 v3_4 k0 n v4_28 I_6 L_7)
    else
    f_X8_laysCommutators_44 v1_2 v2_3 v3_4 v4_5 (fun (I_25 : MI) (L_26 : ML) =>
    bnd (v4_5 + 1 : Int32) (fun v4_27 =>
    f_X8_laysCommutators_8 v1_2 v2_3 v3_4 k0 n v4_27 I_25 L_26)) FU 0 I_6 L_7))
def f_X8_laysCommutators (a1 : Int32) (a2 : Int32) (a3 : Int32) (I : MI) (L : ML) : Option Mm :=
  Option.bind (f_X8_clears a3 I L) (fun q_1 =>
  f_X8_laysCommutators_8 a1 a2 a3 (fun (I_29 : MI) (L_30 : ML) =>
  f_X8_laysCommutators_155 a2 a3 FU 1 I_29 L_30) FU 0 q_1.1 q_1.2)
def f_X8_chainAt_12 (v1_3 : Int32) (a2 : Bool) (k0 : MI → ML → Option (Int32 × Mm)) : Nat → Int32 → MI → ML → Option (Int32 × Mm)
  | 0, _, _, _ => none
  | n + 1, v3_4, I_5, L_6 =>
    if v1_3 ≤ v3_4 then
    (k0 I_5 L_6)
    else
    bnd ((fun (s0_7 : Bool) =>
    Option.bind (f_X8_laysCommutators 1 (b2i s0_7) 2 I_5 L_6) (fun q_8 =>
    Option.bind (f_X8_orderOf 2 q_8.1 q_8.2) (fun q_9 =>
    Option.bind (f_X8_orderOf 1 q_8.1 q_8.2) (fun q_10 =>
    if q_9 = q_10 then
    some ((-1), q_8.1, q_8.2)
    else
    Option.bind (f_X8_copiesSlot 2 1 q_8.1 q_8.2) (fun q_11 =>
    bnd (v3_4 + 1 : Int32) (fun v3_12 =>
    f_X8_chainAt_12 v1_3 a2 k0 n v3_12 q_11.1 q_11.2)))))) : Bool → Option (Int32 × Mm)) (fun j28_297 =>
    if (b2i a2) = 0 then
    (j28_297 false)
    else
    (j28_297 true))
def f_X8_chainAt (a1 : Int32) (a2 : Bool) (I : MI) (L : ML) : Option (Int32 × Mm) :=
  Option.bind (f_X8_builds_ I L) (fun q_1 =>
  Option.bind (f_X8_copiesSlot 0 1 q_1.1 q_1.2) (fun q_2 =>
  f_X8_chainAt_12 a1 a2 (fun (I_13 : MI) (L_14 : ML) =>
  Option.bind (f_X8_orderOf 1 I_13 L_14) (fun q_15 =>
  some (q_15, I_13, L_14))) FU 0 q_2.1 q_2.2))
def f_X8_derived (a1 : Int32) (I : MI) (L : ML) : Option (Int32 × Mm) :=
  bnd ((fun (s0_1 : Bool) =>
  Option.bind (f_X8_whyHere (b2i s0_1) I L) (fun q_2 =>
  Option.bind (f_X8_is q_2 I L) (fun q_3 =>
  if (b2i q_3.1) = 0 then
  some ((-1), q_3.2.1, q_3.2.2)
  else
  Option.bind (f_X8_chainAt a1 true q_3.2.1 q_3.2.2) (fun q_4 =>
  Option.bind (f_X8_there q_4.1 q_4.2.1 q_4.2.2) (fun q_5 =>
  some (q_5.1, q_5.2.1, q_5.2.2)))))) : Bool → Option (Int32 × Mm)) (fun j11_298 =>
  if a1 < 0 then
  (j11_298 true)
  else
  (j11_298 false))
def f_X8_central (a1 : Int32) (I : MI) (L : ML) : Option (Int32 × Mm) :=
  bnd ((fun (s0_1 : Bool) =>
  Option.bind (f_X8_whyHere (b2i s0_1) I L) (fun q_2 =>
  Option.bind (f_X8_is q_2 I L) (fun q_3 =>
  if (b2i q_3.1) = 0 then
  some ((-1), q_3.2.1, q_3.2.2)
  else
  Option.bind (f_X8_chainAt a1 false q_3.2.1 q_3.2.2) (fun q_4 =>
  Option.bind (f_X8_there q_4.1 q_4.2.1 q_4.2.2) (fun q_5 =>
  some (q_5.1, q_5.2.1, q_5.2.2)))))) : Bool → Option (Int32 × Mm)) (fun j11_299 =>
  if a1 < 0 then
  (j11_299 true)
  else
  (j11_299 false))
def f_X8_allGo_2 : Nat → Int32 → MI → ML → Option (Bool × Mm)
  | 0, _, _, _ => none
  | n + 1, v1_1, I_2, L_3 =>
    Option.bind (f_X8_moves I_2 L_3) (fun q_4 =>
    if q_4 ≤ v1_1 then
    some (true, I_2, L_3)
    else
    Option.bind (f_X8_laysMove v1_1 46 I_2 L_3) (fun q_5 =>
    Option.bind (f_X8_goesWithMoves 46 q_5.1 q_5.2) (fun q_6 =>
    if (b2i q_6.1) = 0 then
    some (false, q_6.2.1, q_6.2.2)
    else
    bnd (v1_1 + 1 : Int32) (fun v1_7 =>
    f_X8_allGo_2 n v1_7 q_6.2.1 q_6.2.2))))
def f_X8_allGo (I : MI) (L : ML) : Option (Bool × Mm) :=
  f_X8_allGo_2 FU 0 I L
def f_X8_endsHome_11 (k0 : Int32 → MI → ML → Option (Bool × Mm)) : Nat → Int32 → Int32 → Int32 → MI → ML → Option (Bool × Mm)
  | 0, _, _, _, _, _ => none
  | n + 1, v1_3, v2_4, v3_5, I_6, L_7 =>
    if v3_5 = (-1) then
    (k0 v2_4 I_6 L_7)
    else
    bnd (v1_3 + 1 : Int32) (fun v1_8 =>
    Option.bind (f_X8_chainAt v1_8 true I_6 L_7) (fun q_9 =>
    bnd (q_9.1 : Int32) (fun v3_10 =>
    f_X8_endsHome_11 k0 n v1_8 v3_5 v3_10 q_9.2.1 q_9.2.2)))
def f_X8_endsHome (I : MI) (L : ML) : Option (Bool × Mm) :=
  Option.bind (f_X8_chainAt 0 true I L) (fun q_1 =>
  bnd (q_1.1 : Int32) (fun v3_2 =>
  f_X8_endsHome_11 (fun (v2_11 : Int32) (I_12 : MI) (L_13 : ML) =>
  if v2_11 = 1 then
  some (true, I_12, L_13)
  else
  some (false, I_12, L_13)) FU 0 (-1) v3_2 q_1.2.1 q_1.2.2))
def f_X8_allEven_4 : Nat → Int32 → Int32 → MI → ML → Option (Bool × Mm)
  | 0, _, _, _, _ => none
  | n + 1, v1_1, v2_2, I_3, L_4 =>
    Option.bind (f_X8_moves I_3 L_4) (fun q_5 =>
    if q_5 ≤ v2_2 then
    chk (isz v1_1) (some (i2z v1_1, I_3, L_4))
    else
    Option.bind (f_X8_laysMove v2_2 46 I_3 L_4) (fun q_6 =>
    if v1_1 = 0 then
    bnd (v2_2 + 1 : Int32) (fun v2_7 =>
    f_X8_allEven_4 n 0 v2_7 q_6.1 q_6.2)
    else
    Option.bind (f_X8_isEven 46 q_6.1 q_6.2) (fun q_8 =>
    if (b2i q_8) = 0 then
    bnd (v2_2 + 1 : Int32) (fun v2_9 =>
    f_X8_allEven_4 n 0 v2_9 q_6.1 q_6.2)
    else
    bnd (v2_2 + 1 : Int32) (fun v2_10 =>
    f_X8_allEven_4 n 1 v2_10 q_6.1 q_6.2))))
def f_X8_allEven (I : MI) (L : ML) : Option (Bool × Mm) :=
  f_X8_allEven_4 FU 1 0 I L
def f_X8_joins_18 (v3_3 : Int32) (v4_4 : Int32) (L : ML) (k0 : MI → Option (Bool × Mm)) : Nat → Int32 → MI → Option (Bool × Mm)
  | 0, _, _ => none
  | n + 1, v5_5, I_6 =>
    if 10 ≤ v5_5 then
    (k0 I_6)
    else
    chk (inb v5_5 10) (
    if (I_6 64 (ix v5_5)) = v4_4 then
    chk (inb v5_5 10) (bnd (up2 I_6 64 (ix v5_5) v3_3) (fun I_9 =>
    bnd (v5_5 + 1 : Int32) (fun v5_10 =>
    f_X8_joins_18 v3_3 v4_4 L k0 n v5_10 I_9)))
    else
    chk (inb v5_5 10) (
    chk (inb v5_5 10) (bnd (up2 I_6 64 (ix v5_5) (I_6 64 (ix v5_5))) (fun I_7 =>
    bnd (v5_5 + 1 : Int32) (fun v5_8 =>
    f_X8_joins_18 v3_3 v4_4 L k0 n v5_8 I_7)))))
def f_X8_joins (a1 : Int32) (a2 : Int32) (I : MI) (L : ML) : Option (Bool × Mm) :=
  chk (inb a1 10) (
  bnd ((I 64 (ix a1)) : Int32) (fun v3_1 =>
  chk (inb a2 10) (
  bnd ((I 64 (ix a2)) : Int32) (fun v4_2 =>
  f_X8_joins_18 v3_1 v4_2 L (fun (I_11 : MI) =>
  if v3_1 = v4_2 then
  some (false, I_11, L)
  else
  some (true, I_11, L)) FU 0 I))))
def f_X8_blockOf_49 (v1_19 : Int32) (v4_21 : Int32) (v5_22 : Int32) (k0 : Int32 → MI → ML → Option (Int32 × Mm)) : Nat → Int32 → Int32 → MI → ML → Option (Int32 × Mm)
  | 0, _, _, _, _ => none
  | n + 1, v3_20, v6_23, I_24, L_25 =>
    if v5_22 ≤ v6_23 then
    (k0 v3_20 I_24 L_25)
    else
    chk (inb v5_22 10) (
    chk (inb v6_23 10) (
    if (I_24 64 (ix v5_22)) = (I_24 64 (ix v6_23)) then
    chk (inb ((11 + (10 * v4_21)) + v5_22) 71) (
    chk (inb ((11 + (10 * v4_21)) + v6_23) 71) (
    Option.bind (f_X8_joins (I_24 44 (ix ((11 + (10 * v4_21)) + v5_22))) (I_24 44 (ix ((11 + (10 * v4_21)) + v6_23))) I_24 L_25) (fun q_27 =>
    bnd ((v3_20 ||| (b2i q_27.1)) : Int32) (fun v3_28 =>
    bnd (v6_23 + 1 : Int32) (fun v6_29 =>
    f_X8_blockOf_49 v1_19 v4_21 v5_22 k0 n v3_28 v6_29 q_27.2.1 q_27.2.2)))))
    else
    bnd (v6_23 + 1 : Int32) (fun v6_26 =>
    f_X8_blockOf_49 v1_19 v4_21 v5_22 k0 n v3_20 v6_26 I_24 L_25)))
def f_X8_blockOf_37 (v1_13 : Int32) (v4_15 : Int32) (k0 : Int32 → MI → ML → Option (Int32 × Mm)) : Nat → Int32 → Int32 → MI → ML → Option (Int32 × Mm)
  | 0, _, _, _, _ => none
  | n + 1, v3_14, v5_16, I_17, L_18 =>
    if (I_17 43 2) ≤ v5_16 then
    (k0 v3_14 I_17 L_18)
    else
    f_X8_blockOf_49 v1_13 v4_15 v5_16 (fun (v3_30 : Int32) (I_31 : MI) (L_32 : ML) =>
    bnd (v5_16 + 1 : Int32) (fun v5_33 =>
    f_X8_blockOf_37 v1_13 v4_15 k0 n v3_30 v5_33 I_31 L_32)) FU v3_14 0 I_17 L_18
def f_X8_blockOf_25 (v1_7 : Int32) (k0 : Int32 → MI → ML → Option (Int32 × Mm)) : Nat → Int32 → Int32 → MI → ML → Option (Int32 × Mm)
  | 0, _, _, _, _ => none
  | n + 1, v3_8, v4_9, I_10, L_11 =>
    Option.bind (f_X8_moves I_10 L_11) (fun q_12 =>
    if q_12 ≤ v4_9 then
    (k0 v3_8 I_10 L_11)
    else
    f_X8_blockOf_37 v1_7 v4_9 (fun (v3_34 : Int32) (I_35 : MI) (L_36 : ML) =>
    bnd (v4_9 + 1 : Int32) (fun v4_37 =>
    f_X8_blockOf_25 v1_7 k0 n v3_34 v4_37 I_35 L_36)) FU v3_8 0 I_10 L_11)
def f_X8_blockOf_139 (v1_43 : Int32) (I : MI) (L : ML) : Nat → Int32 → Int32 → Option (Int32 × Mm)
  | 0, _, _ => none
  | n + 1, v4_44, v5_45 =>
    if (I 43 2) ≤ v5_45 then
    some (v4_44, I, L)
    else
    chk (inb v5_45 10) (
    chk (inb v1_43 10) (
    if (I 64 (ix v5_45)) = (I 64 (ix v1_43)) then
    bnd ((v4_44 ||| (shl 1 v5_45)) : Int32) (fun v4_48 =>
    bnd (v5_45 + 1 : Int32) (fun v5_49 =>
    f_X8_blockOf_139 v1_43 I L n v4_48 v5_49))
    else
    bnd ((v4_44 ||| 0) : Int32) (fun v4_46 =>
    bnd (v5_45 + 1 : Int32) (fun v5_47 =>
    f_X8_blockOf_139 v1_43 I L n v4_46 v5_47))))
def f_X8_blockOf_16 (v1_3 : Int32) (k0 : MI → ML → Option (Int32 × Mm)) : Nat → Int32 → MI → ML → Option (Int32 × Mm)
  | 0, _, _, _ => none
  | n + 1, v3_4, I_5, L_6 =>
    if v3_4 = 0 then
    (k0 I_5 L_6)
    else
    f_X8_blockOf_25 v1_3 (fun (v3_38 : Int32) (I_39 : MI) (L_40 : ML) =>
    f_X8_blockOf_16 v1_3 k0 n v3_38 I_39 L_40) FU 0 0 I_5 L_6
def f_X8_blockOf (a1 : Int32) (a2 : Int32) (I : MI) (L : ML) : Option (Int32 × Mm) :=
  Option.bind (f_X8_isHome 64 I L) (fun q_1 =>
  Option.bind (f_X8_joins a1 a2 q_1.1 q_1.2) (fun q_2 =>
  f_X8_blockOf_16 a1 (fun (I_41 : MI) (L_42 : ML) =>
  f_X8_blockOf_139 a1 I_41 L_42 FU 0 0) FU 1 q_2.2.1 q_2.2.2))
def f_X8_isPrimitive_38 (v2_9 : Int32) (k0 : Int32 → MI → ML → Option (Bool × Mm)) : Nat → Int32 → Int32 → MI → ML → Option (Bool × Mm)
  | 0, _, _, _, _ => none
  | n + 1, v1_8, v3_10, I_11, L_12 =>
    if v2_9 ≤ v3_10 then
    (k0 v1_8 I_11 L_12)
    else
    if v1_8 = 0 then
    bnd (v3_10 + 1 : Int32) (fun v3_13 =>
    f_X8_isPrimitive_38 v2_9 k0 n 0 v3_13 I_11 L_12)
    else
    Option.bind (f_X8_blockOf v2_9 v3_10 I_11 L_12) (fun q_14 =>
    if q_14.1 = ((shl 1 (q_14.2.1 43 2)) - 1) then
    bnd (v3_10 + 1 : Int32) (fun v3_16 =>
    f_X8_isPrimitive_38 v2_9 k0 n 1 v3_16 q_14.2.1 q_14.2.2)
    else
    bnd (v3_10 + 1 : Int32) (fun v3_15 =>
    f_X8_isPrimitive_38 v2_9 k0 n 0 v3_15 q_14.2.1 q_14.2.2))
def f_X8_isPrimitive_24 : Nat → Int32 → Int32 → MI → ML → Option (Bool × Mm)
  | 0, _, _, _, _ => none
  | n + 1, v1_4, v2_5, I_6, L_7 =>
    if (I_6 43 2) ≤ v2_5 then
    chk (isz v1_4) (some (i2z v1_4, I_6, L_7))
    else
    if v1_4 = 0 then
    chk (isz v1_4) (some (i2z v1_4, I_6, L_7))
    else
    f_X8_isPrimitive_38 v2_5 (fun (v1_17 : Int32) (I_18 : MI) (L_19 : ML) =>
    bnd (v2_5 + 1 : Int32) (fun v2_20 =>
    f_X8_isPrimitive_24 n v1_17 v2_20 I_18 L_19)) FU v1_4 0 I_6 L_7
def f_X8_isPrimitive (I : MI) (L : ML) : Option (Bool × Mm) :=
  Option.bind (f_X8_orbitOf 0 I L) (fun q_1 =>
  bnd ((fun (s0_2 : Bool) =>
  bnd ((b2i s0_2) : Int32) (fun v1_3 =>
  f_X8_isPrimitive_24 FU v1_3 0 I L)) : Bool → Option (Bool × Mm)) (fun j21_315 =>
  if q_1 = ((shl 1 (I 43 2)) - 1) then
  (j21_315 true)
  else
  (j21_315 false)))
def f_X8_has (a1 : Int32) (I : MI) (L : ML) : Option (Int32 × Mm) :=
  Option.bind (f_X8_isIn (Int32.toInt64 a1) 0 3) (fun q_1 =>
  bnd ((fun (s0_2 : Bool) =>
  Option.bind (f_X8_whyHere (b2i s0_2) I L) (fun q_3 =>
  Option.bind (f_X8_is q_3 I L) (fun q_4 =>
  if (b2i q_4.1) = 0 then
  some ((-1), q_4.2.1, q_4.2.2)
  else
  if a1 = 0 then
  Option.bind (f_X8_allGo q_4.2.1 q_4.2.2) (fun q_8 =>
  if (b2i q_8.1) = 0 then
  some (0, q_8.2.1, q_8.2.2)
  else
  some (1, q_8.2.1, q_8.2.2))
  else
  if a1 = 1 then
  Option.bind (f_X8_endsHome q_4.2.1 q_4.2.2) (fun q_7 =>
  if (b2i q_7.1) = 0 then
  some (0, q_7.2.1, q_7.2.2)
  else
  some (1, q_7.2.1, q_7.2.2))
  else
  if a1 = 2 then
  Option.bind (f_X8_allEven q_4.2.1 q_4.2.2) (fun q_6 =>
  if (b2i q_6.1) = 0 then
  some (0, q_6.2.1, q_6.2.2)
  else
  some (1, q_6.2.1, q_6.2.2))
  else
  Option.bind (f_X8_isPrimitive q_4.2.1 q_4.2.2) (fun q_5 =>
  if (b2i q_5.1) = 0 then
  some (0, q_5.2.1, q_5.2.2)
  else
  some (1, q_5.2.1, q_5.2.2))))) : Bool → Option (Int32 × Mm)) (fun j19_319 =>
  if (b2i q_1) = 0 then
  (j19_319 true)
  else
  (j19_319 false)))
def f_X8_by (a1 : Int32) (I : MI) (L : ML) : Option (Int32 × Mm) :=
  Option.bind (f_X8_areMoves a1 I L) (fun q_1 =>
  bnd ((fun (s0_2 : Int32) =>
  Option.bind (f_X8_whyHere s0_2 I L) (fun q_3 =>
  Option.bind (f_X8_is q_3 I L) (fun q_4 =>
  if (b2i q_4.1) = 0 then
  some ((-1), q_4.2.1, q_4.2.2)
  else
  Option.bind (f_X8_builds 1 a1 q_4.2.1 q_4.2.2) (fun q_5 =>
  Option.bind (f_X8_orderOf 1 q_5.1 q_5.2) (fun q_6 =>
  some (q_6, q_5.1, q_5.2)))))) : Int32 → Option (Int32 × Mm)) (fun j15_320 =>
  if (b2i q_1) = 0 then
  (j15_320 2)
  else
  (j15_320 0)))
def f_X8_meet_55 : Nat → Int32 → Int32 → MI → ML → Option (Int32 × Mm)
  | 0, _, _, _, _ => none
  | n + 1, v3_9, v4_10, I_11, L_12 =>
    if (I_11 43 24) ≤ v4_10 then
    some (v3_9, I_11, L_12)
    else
    Option.bind (f_X8_laysOne v4_10 46 I_11 L_12) (fun q_13 =>
    Option.bind (f_X8_isMember 1 46 q_13.1 q_13.2) (fun q_14 =>
    if (b2i q_14.1) = 0 then
    bnd ((v3_9 + 0) : Int32) (fun v3_15 =>
    bnd (v4_10 + 1 : Int32) (fun v4_16 =>
    f_X8_meet_55 n v3_15 v4_16 q_14.2.1 q_14.2.2))
    else
    Option.bind (f_X8_isMember 2 46 q_14.2.1 q_14.2.2) (fun q_17 =>
    if (b2i q_17.1) = 0 then
    bnd ((v3_9 + 0) : Int32) (fun v3_18 =>
    bnd (v4_10 + 1 : Int32) (fun v4_19 =>
    f_X8_meet_55 n v3_18 v4_19 q_17.2.1 q_17.2.2))
    else
    bnd ((v3_9 + 1) : Int32) (fun v3_20 =>
    bnd (v4_10 + 1 : Int32) (fun v4_21 =>
    f_X8_meet_55 n v3_20 v4_21 q_17.2.1 q_17.2.2)))))
def f_X8_meet (a1 : Int32) (a2 : Int32) (I : MI) (L : ML) : Option (Int32 × Mm) :=
  Option.bind (f_X8_areMoves a1 I L) (fun q_1 =>
  bnd ((fun (s0_3 : Int32) =>
  Option.bind (f_X8_whySmall s0_3 I L) (fun q_4 =>
  Option.bind (f_X8_is q_4.1 q_4.2.1 q_4.2.2) (fun q_5 =>
  if (b2i q_5.1) = 0 then
  some ((-1), q_5.2.1, q_5.2.2)
  else
  Option.bind (f_X8_laysAll q_5.2.1 q_5.2.2) (fun q_6 =>
  Option.bind (f_X8_builds 1 a1 q_6.1 q_6.2) (fun q_7 =>
  Option.bind (f_X8_builds 2 a2 q_7.1 q_7.2) (fun q_8 =>
  f_X8_meet_55 FU 0 0 q_8.1 q_8.2)))))) : Int32 → Option (Int32 × Mm)) (fun j23_321 =>
  bnd (((j23_321 2)) : Option (Int32 × Mm)) (fun j22_322 =>
  if (b2i q_1) = 0 then
  j22_322
  else
  Option.bind (f_X8_areMoves a2 I L) (fun q_2 =>
  if (b2i q_2) = 0 then
  j22_322
  else
  (j23_321 0)))))
def f_X8_normal_58 (v1_13 : Int32) (v3_15 : Int32) (k0 : Int32 → MI → ML → Option (Int32 × Mm)) : Nat → Int32 → Int32 → MI → ML → Option (Int32 × Mm)
  | 0, _, _, _, _ => none
  | n + 1, v2_14, v4_16, I_17, L_18 =>
    Option.bind (f_X8_moves I_17 L_18) (fun q_19 =>
    if q_19 ≤ v4_16 then
    (k0 v2_14 I_17 L_18)
    else
    Option.bind (f_X8_laysMove v3_15 46 I_17 L_18) (fun q_20 =>
    Option.bind (f_X8_laysMove v4_16 47 q_20.1 q_20.2) (fun q_21 =>
    Option.bind (f_X8_turns 46 47 48 q_21.1 q_21.2) (fun q_22 =>
    if v2_14 = 0 then
    bnd (v4_16 + 1 : Int32) (fun v4_23 =>
    f_X8_normal_58 v1_13 v3_15 k0 n 0 v4_23 q_22.1 q_22.2)
    else
    Option.bind (f_X8_isMember 1 48 q_22.1 q_22.2) (fun q_24 =>
    if (b2i q_24.1) = 0 then
    bnd (v4_16 + 1 : Int32) (fun v4_25 =>
    f_X8_normal_58 v1_13 v3_15 k0 n 0 v4_25 q_24.2.1 q_24.2.2)
    else
    bnd (v4_16 + 1 : Int32) (fun v4_26 =>
    f_X8_normal_58 v1_13 v3_15 k0 n 1 v4_26 q_24.2.1 q_24.2.2))))))
def f_X8_normal_36 (v1_6 : Int32) (k0 : Int32 → MI → ML → Option (Int32 × Mm)) : Nat → Int32 → Int32 → MI → ML → Option (Int32 × Mm)
  | 0, _, _, _, _ => none
  | n + 1, v2_7, v3_8, I_9, L_10 =>
    Option.bind (f_X8_moves I_9 L_10) (fun q_11 =>
    if q_11 ≤ v3_8 then
    (k0 v2_7 I_9 L_10)
    else
    Option.bind (f_X8_bit v1_6 v3_8) (fun q_12 =>
    if (b2i q_12) = 0 then
    bnd (v3_8 + 1 : Int32) (fun v3_31 =>
    f_X8_normal_36 v1_6 k0 n v2_7 v3_31 I_9 L_10)
    else
    f_X8_normal_58 v1_6 v3_8 (fun (v2_27 : Int32) (I_28 : MI) (L_29 : ML) =>
    bnd (v3_8 + 1 : Int32) (fun v3_30 =>
    f_X8_normal_36 v1_6 k0 n v2_27 v3_30 I_28 L_29)) FU v2_7 0 I_9 L_10))
def f_X8_normal (a1 : Int32) (I : MI) (L : ML) : Option (Int32 × Mm) :=
  Option.bind (f_X8_areMoves a1 I L) (fun q_1 =>
  bnd ((fun (s0_2 : Int32) =>
  Option.bind (f_X8_whyHere s0_2 I L) (fun q_3 =>
  Option.bind (f_X8_is q_3 I L) (fun q_4 =>
  if (b2i q_4.1) = 0 then
  some ((-1), q_4.2.1, q_4.2.2)
  else
  Option.bind (f_X8_builds 1 a1 q_4.2.1 q_4.2.2) (fun q_5 =>
  f_X8_normal_36 a1 (fun (v2_32 : Int32) (I_33 : MI) (L_34 : ML) =>
  if v2_32 = 0 then
  some (0, I_33, L_34)
  else
  some (1, I_33, L_34)) FU 1 0 q_5.1 q_5.2)))) : Int32 → Option (Int32 × Mm)) (fun j15_324 =>
  if (b2i q_1) = 0 then
  (j15_324 2)
  else
  (j15_324 0)))
def f_X8_isWhole (a1 : Int32) (I : MI) (L : ML) : Option (Bool × Mm) :=
  Option.bind (f_X8_builds 1 a1 I L) (fun q_1 =>
  Option.bind (f_X8_orderOf 1 q_1.1 q_1.2) (fun q_2 =>
  Option.bind (f_X8_orderNow q_1.1 q_1.2) (fun q_3 =>
  if q_2 = q_3.1 then
  some (true, q_3.2.1, q_3.2.2)
  else
  some (false, q_3.2.1, q_3.2.2))))
def f_X8_spare_27 (v1_5 : Int32) : Nat → Int32 → Int32 → MI → ML → Option (Int32 × Mm)
  | 0, _, _, _, _ => none
  | n + 1, v2_6, v3_7, I_8, L_9 =>
    Option.bind (f_X8_moves I_8 L_9) (fun q_10 =>
    if q_10 ≤ v3_7 then
    some (v2_6, I_8, L_9)
    else
    Option.bind (f_X8_isWhole (v1_5 &&& ((shl 1 v3_7) ^^^ (-1))) I_8 L_9) (fun q_11 =>
    if (b2i q_11.1) = 0 then
    bnd ((v2_6 ||| 0) : Int32) (fun v2_12 =>
    bnd (v3_7 + 1 : Int32) (fun v3_13 =>
    f_X8_spare_27 v1_5 n v2_12 v3_13 q_11.2.1 q_11.2.2))
    else
    bnd ((v2_6 ||| (shl 1 v3_7)) : Int32) (fun v2_14 =>
    bnd (v3_7 + 1 : Int32) (fun v3_15 =>
    f_X8_spare_27 v1_5 n v2_14 v3_15 q_11.2.1 q_11.2.2))))
def f_X8_spare (I : MI) (L : ML) : Option (Int32 × Mm) :=
  Option.bind (f_X8_whyHere 0 I L) (fun q_1 =>
  Option.bind (f_X8_is q_1 I L) (fun q_2 =>
  if (b2i q_2.1) = 0 then
  some ((-1), q_2.2.1, q_2.2.2)
  else
  Option.bind (f_X8_moves q_2.2.1 q_2.2.2) (fun q_3 =>
  bnd (((shl 1 q_3) - 1) : Int32) (fun v1_4 =>
  f_X8_spare_27 v1_4 FU 0 0 q_2.2.1 q_2.2.2))))
def f_X8_fewest_25 : Nat → Int32 → Int32 → MI → ML → Option (Int32 × Mm)
  | 0, _, _, _, _ => none
  | n + 1, v1_5, v2_6, I_7, L_8 =>
    if v2_6 < 0 then
    some (v1_5, I_7, L_8)
    else
    Option.bind (f_X8_bits v2_6) (fun q_9 =>
    Option.bind (f_X8_bits v1_5) (fun q_10 =>
    if q_10 < q_9 then
    bnd (v2_6 + (-1) : Int32) (fun v2_11 =>
    f_X8_fewest_25 n v1_5 v2_11 I_7 L_8)
    else
    Option.bind (f_X8_isWhole v2_6 I_7 L_8) (fun q_12 =>
    if (b2i q_12.1) = 0 then
    bnd (v2_6 + (-1) : Int32) (fun v2_13 =>
    f_X8_fewest_25 n v1_5 v2_13 q_12.2.1 q_12.2.2)
    else
    bnd (v2_6 + (-1) : Int32) (fun v2_14 =>
    f_X8_fewest_25 n v2_6 v2_14 q_12.2.1 q_12.2.2))))
def f_X8_fewest (I : MI) (L : ML) : Option (Int32 × Mm) :=
  Option.bind (f_X8_whyHere 0 I L) (fun q_1 =>
  Option.bind (f_X8_is q_1 I L) (fun q_2 =>
  if (b2i q_2.1) = 0 then
  some ((-1), q_2.2.1, q_2.2.2)
  else
  Option.bind (f_X8_moves q_2.2.1 q_2.2.2) (fun q_3 =>
  bnd (((shl 1 q_3) - 1) : Int32) (fun v1_4 =>
  f_X8_fewest_25 FU v1_4 v1_4 q_2.2.1 q_2.2.2))))
def f_X8_holds_33 (v1_8 : Int32) (v3_10 : Int32) (L : ML) (k0 : Int32 → MI → Option (Int32 × Mm)) : Nat → Int32 → Int32 → MI → Option (Int32 × Mm)
  | 0, _, _, _ => none
  | n + 1, v2_9, v4_11, I_12 =>
    if 10 ≤ v4_11 then
    (k0 v2_9 I_12)
    else
    Option.bind (f_X8_bit v1_8 v4_11) (fun q_13 =>
    if v3_10 = 1 then
    if (b2i q_13) = 1 then
    chk (inb v2_9 10) (bnd (up2 I_12 51 (ix v2_9) v4_11) (fun I_18 =>
    bnd (v2_9 + 1 : Int32) (fun v2_19 =>
    bnd (v4_11 + 1 : Int32) (fun v4_20 =>
    f_X8_holds_33 v1_8 v3_10 L k0 n v2_19 v4_20 I_18))))
    else
    bnd (v4_11 + 1 : Int32) (fun v4_21 =>
    f_X8_holds_33 v1_8 v3_10 L k0 n v2_9 v4_21 I_12)
    else
    if (b2i q_13) = 0 then
    chk (inb v2_9 10) (bnd (up2 I_12 51 (ix v2_9) v4_11) (fun I_14 =>
    bnd (v2_9 + 1 : Int32) (fun v2_15 =>
    bnd (v4_11 + 1 : Int32) (fun v4_16 =>
    f_X8_holds_33 v1_8 v3_10 L k0 n v2_15 v4_16 I_14))))
    else
    bnd (v4_11 + 1 : Int32) (fun v4_17 =>
    f_X8_holds_33 v1_8 v3_10 L k0 n v2_9 v4_17 I_12))
def f_X8_holds_127 (v1_34 : Int32) (v3_35 : Int32) (L : ML) (k0 : MI → Option (Int32 × Mm)) : Nat → Int32 → MI → Option (Int32 × Mm)
  | 0, _, _ => none
  | n + 1, v4_36, I_37 =>
    if 10 ≤ v4_36 then
    (k0 I_37)
    else
    chk (inb v4_36 10) (
    chk (inb ((11 + (10 * v3_35)) + (I_37 46 (ix v4_36))) 71) (
    chk (inb (I_37 44 (ix ((11 + (10 * v3_35)) + (I_37 46 (ix v4_36))))) 10) (
    chk (inb v4_36 10) (bnd (up2 I_37 48 (ix v4_36) (I_37 47 (ix (I_37 44 (ix ((11 + (10 * v3_35)) + (I_37 46 (ix v4_36)))))))) (fun I_38 =>
    bnd (v4_36 + 1 : Int32) (fun v4_39 =>
    f_X8_holds_127 v1_34 v3_35 L k0 n v4_39 I_38))))))
def f_X8_holds_116 (v1_29 : Int32) (k0 : MI → ML → Option (Int32 × Mm)) : Nat → Int32 → MI → ML → Option (Int32 × Mm)
  | 0, _, _, _ => none
  | n + 1, v3_30, I_31, L_32 =>
    Option.bind (f_X8_moves I_31 L_32) (fun q_33 =>
    if q_33 ≤ v3_30 then
    (k0 I_31 L_32)
    else
    f_X8_holds_127 v1_29 v3_30 L_32 (fun (I_40 : MI) =>
    Option.bind (f_X8_adds 1 48 I_40 L_32) (fun q_41 =>
    bnd (v3_30 + 1 : Int32) (fun v3_42 =>
    f_X8_holds_116 v1_29 k0 n v3_42 q_41.1 q_41.2))) FU 0 I_31)
def f_X8_holds_26 (v1_4 : Int32) (L : ML) (k0 : MI → Option (Int32 × Mm)) : Nat → Int32 → Int32 → MI → Option (Int32 × Mm)
  | 0, _, _, _ => none
  | n + 1, v2_5, v3_6, I_7 =>
    if v3_6 < 0 then
    (k0 I_7)
    else
    f_X8_holds_33 v1_4 v3_6 L (fun (v2_22 : Int32) (I_23 : MI) =>
    bnd (v3_6 + (-1) : Int32) (fun v3_24 =>
    f_X8_holds_26 v1_4 L k0 n v2_22 v3_24 I_23)) FU v2_5 0 I_7
def f_X8_holds (a1 : Int32) (I : MI) (L : ML) : Option (Int32 × Mm) :=
  Option.bind (f_X8_isSet a1 I L) (fun q_1 =>
  bnd ((fun (s0_2 : Int32) =>
  Option.bind (f_X8_is s0_2 I L) (fun q_3 =>
  if (b2i q_3.1) = 0 then
  some ((-1), q_3.2.1, q_3.2.2)
  else
  f_X8_holds_26 a1 q_3.2.2 (fun (I_25 : MI) =>
  Option.bind (f_X8_copies 51 10 0 46 10 0 I_25 q_3.2.2) (fun q_26 =>
  Option.bind (f_X8_inverts 46 47 q_26.1 q_26.2) (fun q_27 =>
  Option.bind (f_X8_clears 1 q_27.1 q_27.2) (fun q_28 =>
  f_X8_holds_116 a1 (fun (I_43 : MI) (L_44 : ML) =>
  Option.bind (f_X8_bits a1) (fun q_45 =>
  Option.bind (f_X8_orderFrom 1 q_45 I_43 L_44) (fun q_46 =>
  some (q_46, I_43, L_44)))) FU 0 q_28.1 q_28.2)))) FU 0 1 q_3.2.1)) : Int32 → Option (Int32 × Mm)) (fun j14_331 =>
  if (b2i q_1) = 0 then
  (j14_331 2)
  else
  (j14_331 0)))
def f_X8_imageOf_4 (a0 : Nat) (v1_1 : Int32) (I : MI) (L : ML) : Nat → Int32 → Int32 → Option Int32
  | 0, _, _ => none
  | n + 1, v2_2, v3_3 =>
    if 10 ≤ v3_3 then
    some v2_2
    else
    Option.bind (f_X8_bit v1_1 v3_3) (fun q_4 =>
    if (b2i q_4) = 0 then
    bnd ((v2_2 ||| 0) : Int32) (fun v2_5 =>
    bnd (v3_3 + 1 : Int32) (fun v3_6 =>
    f_X8_imageOf_4 a0 v1_1 I L n v2_5 v3_6))
    else
    chk (inb v3_3 10) (
    bnd ((v2_2 ||| (shl 1 (I a0 (ix v3_3)))) : Int32) (fun v2_7 =>
    bnd (v3_3 + 1 : Int32) (fun v3_8 =>
    f_X8_imageOf_4 a0 v1_1 I L n v2_7 v3_8))))
def f_X8_imageOf (a0 : Nat) (a1 : Int32) (I : MI) (L : ML) : Option Int32 :=
  f_X8_imageOf_4 a0 a1 I L FU 0 0
def f_X8_keeps_34 (v1_6 : Int32) : Nat → Int32 → Int32 → MI → ML → Option (Int32 × Mm)
  | 0, _, _, _, _ => none
  | n + 1, v2_7, v3_8, I_9, L_10 =>
    if (I_9 43 24) ≤ v3_8 then
    some (v2_7, I_9, L_10)
    else
    Option.bind (f_X8_laysOne v3_8 46 I_9 L_10) (fun q_11 =>
    Option.bind (f_X8_imageOf 46 v1_6 q_11.1 q_11.2) (fun q_12 =>
    if q_12 = v1_6 then
    bnd ((v2_7 + 1) : Int32) (fun v2_15 =>
    bnd (v3_8 + 1 : Int32) (fun v3_16 =>
    f_X8_keeps_34 v1_6 n v2_15 v3_16 q_11.1 q_11.2))
    else
    bnd ((v2_7 + 0) : Int32) (fun v2_13 =>
    bnd (v3_8 + 1 : Int32) (fun v3_14 =>
    f_X8_keeps_34 v1_6 n v2_13 v3_14 q_11.1 q_11.2))))
def f_X8_keeps (a1 : Int32) (I : MI) (L : ML) : Option (Int32 × Mm) :=
  Option.bind (f_X8_isSet a1 I L) (fun q_1 =>
  bnd ((fun (s0_2 : Int32) =>
  Option.bind (f_X8_whySmall s0_2 I L) (fun q_3 =>
  Option.bind (f_X8_is q_3.1 q_3.2.1 q_3.2.2) (fun q_4 =>
  if (b2i q_4.1) = 0 then
  some ((-1), q_4.2.1, q_4.2.2)
  else
  Option.bind (f_X8_laysAll q_4.2.1 q_4.2.2) (fun q_5 =>
  f_X8_keeps_34 a1 FU 0 0 q_5.1 q_5.2)))) : Int32 → Option (Int32 × Mm)) (fun j15_341 =>
  if (b2i q_1) = 0 then
  (j15_341 2)
  else
  (j15_341 0)))
def f_X8_brings_40 (v1_7 : Int32) (v2_8 : Int32) (k0 : MI → ML → Option (Int32 × Mm)) : Nat → Int32 → MI → ML → Option (Int32 × Mm)
  | 0, _, _, _ => none
  | n + 1, v3_9, I_10, L_11 =>
    if (I_10 43 24) ≤ v3_9 then
    (k0 I_10 L_11)
    else
    Option.bind (f_X8_laysOne v3_9 46 I_10 L_11) (fun q_12 =>
    Option.bind (f_X8_imageOf 46 v1_7 q_12.1 q_12.2) (fun q_13 =>
    if q_13 = v2_8 then
    some (v3_9, q_12.1, q_12.2)
    else
    bnd (v3_9 + 1 : Int32) (fun v3_14 =>
    f_X8_brings_40 v1_7 v2_8 k0 n v3_14 q_12.1 q_12.2)))
def f_X8_brings (a1 : Int32) (a2 : Int32) (I : MI) (L : ML) : Option (Int32 × Mm) :=
  Option.bind (f_X8_isSet a1 I L) (fun q_1 =>
  bnd ((fun (s0_3 : Int32) =>
  Option.bind (f_X8_whySmall s0_3 I L) (fun q_4 =>
  Option.bind (f_X8_is q_4.1 q_4.2.1 q_4.2.2) (fun q_5 =>
  if (b2i q_5.1) = 0 then
  some ((-1), q_5.2.1, q_5.2.2)
  else
  Option.bind (f_X8_laysAll q_5.2.1 q_5.2.2) (fun q_6 =>
  f_X8_brings_40 a1 a2 (fun (I_15 : MI) (L_16 : ML) =>
  Option.bind (f_X8_refuse 5 I_15 L_16) (fun q_17 =>
  some (q_17.1, q_17.2.1, q_17.2.2))) FU 0 q_6.1 q_6.2)))) : Int32 → Option (Int32 × Mm)) (fun j23_343 =>
  bnd (((j23_343 2)) : Option (Int32 × Mm)) (fun j22_344 =>
  if (b2i q_1) = 0 then
  j22_344
  else
  Option.bind (f_X8_isSet a2 I L) (fun q_2 =>
  if (b2i q_2) = 0 then
  j22_344
  else
  (j23_343 0)))))
def f_X8_block (a1 : Int32) (a2 : Int32) (I : MI) (L : ML) : Option (Int32 × Mm) :=
  Option.bind (f_X8_isPoint a1 I L) (fun q_1 =>
  bnd ((Option.bind (f_X8_is 2 I L) (fun q_7 =>
  if (b2i q_7.1) = 0 then
  some ((-1), q_7.2.1, q_7.2.2)
  else
  Option.bind (f_X8_blockOf a1 a2 q_7.2.1 q_7.2.2) (fun q_8 =>
  some (q_8.1, q_8.2.1, q_8.2.2)))) : Option (Int32 × Mm)) (fun j17_347 =>
  if (b2i q_1) = 0 then
  j17_347
  else
  Option.bind (f_X8_isPoint a2 I L) (fun q_2 =>
  if (b2i q_2) = 0 then
  j17_347
  else
  if a1 = a2 then
  Option.bind (f_X8_is 4 I L) (fun q_5 =>
  if (b2i q_5.1) = 0 then
  some ((-1), q_5.2.1, q_5.2.2)
  else
  Option.bind (f_X8_blockOf a1 a2 q_5.2.1 q_5.2.2) (fun q_6 =>
  some (q_6.1, q_6.2.1, q_6.2.2)))
  else
  Option.bind (f_X8_is 0 I L) (fun q_3 =>
  if (b2i q_3.1) = 0 then
  some ((-1), q_3.2.1, q_3.2.2)
  else
  Option.bind (f_X8_blockOf a1 a2 q_3.2.1 q_3.2.2) (fun q_4 =>
  some (q_4.1, q_4.2.1, q_4.2.2))))))
def f_X8_anywhere_20 (I : MI) (L : ML) : Nat → Int32 → Option (Int32 × Mm)
  | 0, _ => none
  | n + 1, v1_4 =>
    if (I 43 2) ≤ v1_4 then
    some (v1_4, I, L)
    else
    Option.bind (f_X8_widthAt 0 v1_4 I L) (fun q_5 =>
    if q_5 = ((I 43 2) - v1_4) then
    bnd (v1_4 + 1 : Int32) (fun v1_6 =>
    f_X8_anywhere_20 I L n v1_6)
    else
    some (v1_4, I, L))
def f_X8_anywhere (I : MI) (L : ML) : Option (Int32 × Mm) :=
  Option.bind (f_X8_whyHere 0 I L) (fun q_1 =>
  Option.bind (f_X8_is q_1 I L) (fun q_2 =>
  if (b2i q_2.1) = 0 then
  some ((-1), q_2.2.1, q_2.2.2)
  else
  Option.bind (f_X8_builds_ q_2.2.1 q_2.2.2) (fun q_3 =>
  f_X8_anywhere_20 q_3.1 q_3.2 FU 0)))
def f_X8_fixing_38 (v1_6 : Int32) : Nat → Int32 → Int32 → MI → ML → Option (Int32 × Mm)
  | 0, _, _, _, _ => none
  | n + 1, v2_7, v3_8, I_9, L_10 =>
    if (I_9 43 24) ≤ v3_8 then
    some (v2_7, I_9, L_10)
    else
    Option.bind (f_X8_laysOne v3_8 46 I_9 L_10) (fun q_11 =>
    Option.bind (f_X8_staying 46 q_11.1 q_11.2) (fun q_12 =>
    if q_12 = v1_6 then
    bnd ((v2_7 + 1) : Int32) (fun v2_15 =>
    bnd (v3_8 + 1 : Int32) (fun v3_16 =>
    f_X8_fixing_38 v1_6 n v2_15 v3_16 q_11.1 q_11.2))
    else
    bnd ((v2_7 + 0) : Int32) (fun v2_13 =>
    bnd (v3_8 + 1 : Int32) (fun v3_14 =>
    f_X8_fixing_38 v1_6 n v2_13 v3_14 q_11.1 q_11.2))))
def f_X8_fixing (a1 : Int32) (I : MI) (L : ML) : Option (Int32 × Mm) :=
  Option.bind (f_X8_isIn (Int32.toInt64 a1) 0 10) (fun q_1 =>
  bnd ((fun (s0_2 : Bool) =>
  Option.bind (f_X8_whySmall (b2i s0_2) I L) (fun q_3 =>
  Option.bind (f_X8_is q_3.1 q_3.2.1 q_3.2.2) (fun q_4 =>
  if (b2i q_4.1) = 0 then
  some ((-1), q_4.2.1, q_4.2.2)
  else
  Option.bind (f_X8_laysAll q_4.2.1 q_4.2.2) (fun q_5 =>
  f_X8_fixing_38 a1 FU 0 0 q_5.1 q_5.2)))) : Bool → Option (Int32 × Mm)) (fun j19_349 =>
  if (b2i q_1) = 0 then
  (j19_349 true)
  else
  (j19_349 false)))
def f_X8_colours_73 (v1_13 : Int32) (v2_14 : Int64) (v4_15 : Int32) (I : MI) (L : ML) (k0 : Int64 → Option (Int64 × Mm)) : Nat → Int64 → Int32 → Option (Int64 × Mm)
  | 0, _, _ => none
  | n + 1, v5_16, v7_17 =>
    if v7_17 ≤ 0 then
    (k0 v5_16)
    else
    bnd ((v5_16 * (Int32.toInt64 v1_13)) : Int64) (fun v5_18 =>
    bnd (v7_17 + (-1) : Int32) (fun v7_19 =>
    f_X8_colours_73 v1_13 v2_14 v4_15 I L k0 n v5_18 v7_19))
def f_X8_colours_41 (v1_6 : Int32) (k0 : Int64 → MI → ML → Option (Int64 × Mm)) : Nat → Int64 → Int32 → MI → ML → Option (Int64 × Mm)
  | 0, _, _, _, _ => none
  | n + 1, v2_7, v4_8, I_9, L_10 =>
    if (I_9 43 24) ≤ v4_8 then
    (k0 v2_7 I_9 L_10)
    else
    Option.bind (f_X8_laysOne v4_8 46 I_9 L_10) (fun q_11 =>
    Option.bind (f_X8_cycles 46 q_11.1 q_11.2) (fun q_12 =>
    f_X8_colours_73 v1_6 v2_7 v4_8 q_11.1 q_11.2 (fun (v5_20 : Int64) =>
    bnd ((v2_7 + v5_20) : Int64) (fun v2_21 =>
    bnd (v4_8 + 1 : Int32) (fun v4_22 =>
    f_X8_colours_41 v1_6 k0 n v2_21 v4_22 q_11.1 q_11.2))) FU 1 q_12))
def f_X8_colours (a1 : Int32) (I : MI) (L : ML) : Option (Int64 × Mm) :=
  Option.bind (f_X8_isIn (Int32.toInt64 a1) 1 5) (fun q_1 =>
  bnd ((fun (s0_2 : Bool) =>
  Option.bind (f_X8_whySmall (b2i s0_2) I L) (fun q_3 =>
  Option.bind (f_X8_is q_3.1 q_3.2.1 q_3.2.2) (fun q_4 =>
  if (b2i q_4.1) = 0 then
  some ((-1), q_4.2.1, q_4.2.2)
  else
  Option.bind (f_X8_laysAll q_4.2.1 q_4.2.2) (fun q_5 =>
  f_X8_colours_41 a1 (fun (v2_23 : Int64) (I_24 : MI) (L_25 : ML) =>
  chk (decide (((Int32.toInt64 (I_24 43 24)) : Int64) ≠ 0)) (
  some ((v2_23 / (Int32.toInt64 (I_24 43 24))), I_24, L_25))) FU 0 0 q_5.1 q_5.2)))) : Bool → Option (Int64 × Mm)) (fun j19_351 =>
  if (b2i q_1) = 0 then
  (j19_351 true)
  else
  (j19_351 false)))
def f_X8_typeOf_25 (a1 : Nat) (v2_4 : Int64) (v4_5 : Int32) (I : MI) (L : ML) (k0 : Int64 → Option Int64) : Nat → Int64 → Int32 → Option Int64
  | 0, _, _ => none
  | n + 1, v5_6, v7_7 =>
    if v7_7 ≤ 1 then
    (k0 v5_6)
    else
    bnd ((v5_6 * 16) : Int64) (fun v5_8 =>
    bnd (v7_7 + (-1) : Int32) (fun v7_9 =>
    f_X8_typeOf_25 a1 v2_4 v4_5 I L k0 n v5_8 v7_9))
def f_X8_typeOf_5 (a1 : Nat) (I : MI) (L : ML) : Nat → Int64 → Int32 → Option Int64
  | 0, _, _ => none
  | n + 1, v2_1, v4_2 =>
    if (I 43 2) ≤ v4_2 then
    some v2_1
    else
    Option.bind (f_X8_cycleFrom a1 v4_2 I L) (fun q_3 =>
    f_X8_typeOf_25 a1 v2_1 v4_2 I L (fun (v5_10 : Int64) =>
    Option.bind (f_X8_cycleFrom a1 v4_2 I L) (fun q_11 =>
    if q_11 ≤ 0 then
    bnd ((v2_1 + 0) : Int64) (fun v2_12 =>
    bnd (v4_2 + 1 : Int32) (fun v4_13 =>
    f_X8_typeOf_5 a1 I L n v2_12 v4_13))
    else
    bnd ((v2_1 + v5_10) : Int64) (fun v2_14 =>
    bnd (v4_2 + 1 : Int32) (fun v4_15 =>
    f_X8_typeOf_5 a1 I L n v2_14 v4_15)))) FU 1 q_3)
def f_X8_typeOf (a1 : Nat) (I : MI) (L : ML) : Option Int64 :=
  f_X8_typeOf_5 a1 I L FU 0 0
def f_X8_typed_39 : Nat → Int32 → Int32 → MI → ML → Option (Int32 × Mm)
  | 0, _, _, _, _ => none
  | n + 1, v3_6, v4_7, I_8, L_9 =>
    if (I_8 43 24) ≤ v4_7 then
    some (v3_6, I_8, L_9)
    else
    Option.bind (f_X8_laysOne v4_7 46 I_8 L_9) (fun q_10 =>
    Option.bind (f_X8_typeOf 46 q_10.1 q_10.2) (fun q_11 =>
    Option.bind (f_X8_typeOf 47 q_10.1 q_10.2) (fun q_12 =>
    if (lg_cmp q_11 q_12) = 0 then
    bnd ((v3_6 + 1) : Int32) (fun v3_15 =>
    bnd (v4_7 + 1 : Int32) (fun v4_16 =>
    f_X8_typed_39 n v3_15 v4_16 q_10.1 q_10.2))
    else
    bnd ((v3_6 + 0) : Int32) (fun v3_13 =>
    bnd (v4_7 + 1 : Int32) (fun v4_14 =>
    f_X8_typed_39 n v3_13 v4_14 q_10.1 q_10.2)))))
def f_X8_typed (a1 : Int64) (I : MI) (L : ML) : Option (Int32 × Mm) :=
  Option.bind (f_X8_lies a1 47 I L) (fun q_1 =>
  bnd ((fun (s0_2 : Bool) =>
  Option.bind (f_X8_whySmall (b2i s0_2) q_1.2.1 q_1.2.2) (fun q_3 =>
  Option.bind (f_X8_is q_3.1 q_3.2.1 q_3.2.2) (fun q_4 =>
  if (b2i q_4.1) = 0 then
  some ((-1), q_4.2.1, q_4.2.2)
  else
  Option.bind (f_X8_laysAll q_4.2.1 q_4.2.2) (fun q_5 =>
  f_X8_typed_39 FU 0 0 q_5.1 q_5.2)))) : Bool → Option (Int32 × Mm)) (fun j19_359 =>
  if (b2i q_1.1) = 0 then
  (j19_359 true)
  else
  (j19_359 false)))
def f_X8_root_49 (v3_7 : Int32) (k0 : MI → ML → Option (Int32 × Mm)) : Nat → Int32 → MI → ML → Option (Int32 × Mm)
  | 0, _, _, _ => none
  | n + 1, v4_8, I_9, L_10 =>
    if (I_9 43 24) ≤ v4_8 then
    (k0 I_9 L_10)
    else
    Option.bind (f_X8_laysOne v4_8 46 I_9 L_10) (fun q_11 =>
    Option.bind (f_X8_orderOf_ 46 q_11.1 q_11.2) (fun q_12 =>
    chk (decide ((q_12 : Int32) ≠ 0)) (
    Option.bind (f_X8_powers 46 (irem v3_7 q_12) 48 q_11.1 q_11.2) (fun q_13 =>
    Option.bind (f_X8_areSame 48 47 q_13.1 q_13.2) (fun q_14 =>
    if (b2i q_14) = 0 then
    bnd (v4_8 + 1 : Int32) (fun v4_15 =>
    f_X8_root_49 v3_7 k0 n v4_15 q_13.1 q_13.2)
    else
    some (v4_8, q_13.1, q_13.2))))))
def f_X8_root (a1 : Int64) (a3 : Int32) (I : MI) (L : ML) : Option (Int32 × Mm) :=
  Option.bind (f_X8_lies a1 47 I L) (fun q_1 =>
  bnd ((fun (s0_3 : Bool) =>
  Option.bind (f_X8_whySmall (b2i s0_3) q_1.2.1 q_1.2.2) (fun q_4 =>
  Option.bind (f_X8_is q_4.1 q_4.2.1 q_4.2.2) (fun q_5 =>
  if (b2i q_5.1) = 0 then
  some ((-1), q_5.2.1, q_5.2.2)
  else
  Option.bind (f_X8_laysAll q_5.2.1 q_5.2.2) (fun q_6 =>
  f_X8_root_49 a3 (fun (I_16 : MI) (L_17 : ML) =>
  Option.bind (f_X8_refuse 5 I_16 L_17) (fun q_18 =>
  some (q_18.1, q_18.2.1, q_18.2.2))) FU 0 q_6.1 q_6.2)))) : Bool → Option (Int32 × Mm)) (fun j31_361 =>
  bnd (((j31_361 true)) : Option (Int32 × Mm)) (fun j30_362 =>
  if (b2i q_1.1) = 0 then
  j30_362
  else
  Option.bind (f_X8_isIn (Int32.toInt64 a3) 1 1000) (fun q_2 =>
  if (b2i q_2) = 0 then
  j30_362
  else
  (j31_361 false)))))
def f_X8_slightest_22 (k0 : Int32 → MI → ML → Option (Int32 × Mm)) : Nat → Int32 → Int32 → MI → ML → Option (Int32 × Mm)
  | 0, _, _, _, _ => none
  | n + 1, v1_4, v2_5, I_6, L_7 =>
    if (I_6 43 24) ≤ v2_5 then
    (k0 v1_4 I_6 L_7)
    else
    Option.bind (f_X8_laysOne v2_5 46 I_6 L_7) (fun q_8 =>
    Option.bind (f_X8_staying 46 q_8.1 q_8.2) (fun q_9 =>
    bnd (((q_8.1 43 2) - q_9) : Int32) (fun v3_10 =>
    if v1_4 = (-1) then
    bnd (v2_5 + 1 : Int32) (fun v2_11 =>
    f_X8_slightest_22 k0 n v3_10 v2_11 q_8.1 q_8.2)
    else
    if v1_4 ≤ v3_10 then
    bnd (v2_5 + 1 : Int32) (fun v2_12 =>
    f_X8_slightest_22 k0 n v1_4 v2_12 q_8.1 q_8.2)
    else
    bnd (v2_5 + 1 : Int32) (fun v2_13 =>
    f_X8_slightest_22 k0 n v3_10 v2_13 q_8.1 q_8.2))))
def f_X8_slightest (I : MI) (L : ML) : Option (Int32 × Mm) :=
  Option.bind (f_X8_whySmall 0 I L) (fun q_1 =>
  Option.bind (f_X8_is q_1.1 q_1.2.1 q_1.2.2) (fun q_2 =>
  if (b2i q_2.1) = 0 then
  some ((-1), q_2.2.1, q_2.2.2)
  else
  Option.bind (f_X8_laysAll q_2.2.1 q_2.2.2) (fun q_3 =>
  f_X8_slightest_22 (fun (v1_14 : Int32) (I_15 : MI) (L_16 : ML) =>
  Option.bind (f_X8_there v1_14 I_15 L_16) (fun q_17 =>
  some (q_17.1, q_17.2.1, q_17.2.2))) FU (-1) 1 q_3.1 q_3.2)))
def f_X8_ofOrder_31 (v1_5 : Int32) (k0 : Int32 → MI → ML → Option (Int32 × Mm)) : Nat → Int32 → Int32 → MI → ML → Option (Int32 × Mm)
  | 0, _, _, _, _ => none
  | n + 1, v2_6, v3_7, I_8, L_9 =>
    if (I_8 43 24) ≤ v3_7 then
    (k0 v2_6 I_8 L_9)
    else
    Option.bind (f_X8_laysOne v3_7 46 I_8 L_9) (fun q_10 =>
    Option.bind (f_X8_orderOf_ 46 q_10.1 q_10.2) (fun q_11 =>
    if q_11 = v1_5 then
    bnd ((v2_6 + 1) : Int32) (fun v2_14 =>
    bnd (v3_7 + 1 : Int32) (fun v3_15 =>
    f_X8_ofOrder_31 v1_5 k0 n v2_14 v3_15 q_10.1 q_10.2))
    else
    bnd ((v2_6 + 0) : Int32) (fun v2_12 =>
    bnd (v3_7 + 1 : Int32) (fun v3_13 =>
    f_X8_ofOrder_31 v1_5 k0 n v2_12 v3_13 q_10.1 q_10.2))))
def f_X8_ofOrder (a1 : Int32) (I : MI) (L : ML) : Option (Int32 × Mm) :=
  bnd ((fun (s0_1 : Bool) =>
  Option.bind (f_X8_whySmall (b2i s0_1) I L) (fun q_2 =>
  Option.bind (f_X8_is q_2.1 q_2.2.1 q_2.2.2) (fun q_3 =>
  if (b2i q_3.1) = 0 then
  some ((-1), q_3.2.1, q_3.2.2)
  else
  Option.bind (f_X8_laysAll q_3.2.1 q_3.2.2) (fun q_4 =>
  f_X8_ofOrder_31 a1 (fun (v2_16 : Int32) (I_17 : MI) (L_18 : ML) =>
  if v2_16 = 0 then
  Option.bind (f_X8_refuse 5 I_17 L_18) (fun q_19 =>
  some (q_19.1, q_19.2.1, q_19.2.2))
  else
  some (v2_16, I_17, L_18)) FU 0 0 q_4.1 q_4.2)))) : Bool → Option (Int32 × Mm)) (fun j12_367 =>
  if a1 < 1 then
  (j12_367 true)
  else
  (j12_367 false))
def f_X8_turn (a1 : Int32) (I : MI) (L : ML) : Option (Int32 × Mm) :=
  Option.bind (f_X8_isStep a1 I L) (fun q_1 =>
  bnd ((fun (s0_2 : Int32) =>
  Option.bind (f_X8_is s0_2 I L) (fun q_3 =>
  if (b2i q_3.1) = 0 then
  some ((-1), q_3.2.1, q_3.2.2)
  else
  Option.bind (f_X8_remembers q_3.2.1 q_3.2.2) (fun q_4 =>
  Option.bind (f_X8_laysStand 46 q_4.1 q_4.2) (fun q_5 =>
  Option.bind (f_X8_laysStep a1 47 q_5.1 q_5.2) (fun q_6 =>
  Option.bind (f_X8_makes 46 47 48 q_6.1 q_6.2) (fun q_7 =>
  Option.bind (f_X8_copies 48 10 0 44 71 1 q_7.1 q_7.2) (fun q_8 =>
  Option.bind (f_X8_staying 48 q_8.1 q_8.2) (fun q_9 =>
  some (q_9, q_8.1, q_8.2))))))))) : Int32 → Option (Int32 × Mm)) (fun j14_370 =>
  if (b2i q_1) = 0 then
  (j14_370 2)
  else
  (j14_370 0)))
def f_X8_place (a1 : Int64) (I : MI) (L : ML) : Option (Int32 × Mm) :=
  Option.bind (f_X8_lies a1 46 I L) (fun q_1 =>
  bnd ((b2i q_1.1) : Int32) (fun v3_2 =>
  Option.bind (f_X8_laysStand 47 q_1.2.1 q_1.2.2) (fun q_3 =>
  bnd ((fun (s0_5 : Int32) =>
  Option.bind (f_X8_is s0_5 q_3.1 q_3.2) (fun q_6 =>
  if (b2i q_6.1) = 0 then
  some ((-1), q_6.2.1, q_6.2.2)
  else
  Option.bind (f_X8_remembers q_6.2.1 q_6.2.2) (fun q_7 =>
  Option.bind (f_X8_copies 46 10 0 44 71 1 q_7.1 q_7.2) (fun q_8 =>
  Option.bind (f_X8_followedOf 46 q_8.1 q_8.2) (fun q_9 =>
  some (q_9.1, q_9.2.1, q_9.2.2)))))) : Int32 → Option (Int32 × Mm)) (fun j46_371 =>
  if v3_2 = 0 then
  (j46_371 1)
  else
  Option.bind (f_X8_areSame 46 47 q_3.1 q_3.2) (fun q_4 =>
  if (b2i q_4) = 0 then
  (j46_371 0)
  else
  (j46_371 4))))))
def f_X8_home (I : MI) (L : ML) : Option (Int32 × Mm) :=
  Option.bind (f_X8_laysStand 46 I L) (fun q_1 =>
  bnd ((fun (s0_3 : Int32) =>
  Option.bind (f_X8_is s0_3 q_1.1 q_1.2) (fun q_4 =>
  if (b2i q_4.1) = 0 then
  some ((-1), q_4.2.1, q_4.2.2)
  else
  Option.bind (f_X8_remembers q_4.2.1 q_4.2.2) (fun q_5 =>
  Option.bind (f_X8_isHome 47 q_5.1 q_5.2) (fun q_6 =>
  Option.bind (f_X8_copies 47 10 0 44 71 1 q_6.1 q_6.2) (fun q_7 =>
  Option.bind (f_X8_staying 46 q_7.1 q_7.2) (fun q_8 =>
  some (((q_7.1 43 2) - q_8), q_7.1, q_7.2))))))) : Int32 → Option (Int32 × Mm)) (fun j35_372 =>
  if (q_1.1 43 2) = 0 then
  (j35_372 5)
  else
  Option.bind (f_X8_stays 46 q_1.1 q_1.2) (fun q_2 =>
  if (b2i q_2) = 0 then
  (j35_372 0)
  else
  (j35_372 4))))
def f_X8_add (a1 : Int64) (I : MI) (L : ML) : Option (Int32 × Mm) :=
  Option.bind (f_X8_lies a1 46 I L) (fun q_1 =>
  bnd ((fun (s0_3 : Int32) =>
  Option.bind (f_X8_is s0_3 q_1.2.1 q_1.2.2) (fun q_4 =>
  if (b2i q_4.1) = 0 then
  some ((-1), q_4.2.1, q_4.2.2)
  else
  Option.bind (f_X8_remembers q_4.2.1 q_4.2.2) (fun q_5 =>
  Option.bind (f_X8_moves q_5.1 q_5.2) (fun q_6 =>
  Option.bind (f_X8_copies 46 10 0 44 71 (11 + (10 * q_6)) q_5.1 q_5.2) (fun q_7 =>
  chk (inb 0 71) (
  chk (inb 0 71) (bnd (up2 q_7.1 44 (ix 0) ((q_7.1 44 (ix 0)) + 1)) (fun I_8 =>
  bnd (up2 I_8 43 20 0) (fun I_9 =>
  Option.bind (f_X8_orderNow I_9 q_7.2) (fun q_10 =>
  some (q_10.1, q_10.2.1, q_10.2.2))))))))))) : Int32 → Option (Int32 × Mm)) (fun j31_373 =>
  if (b2i q_1.1) = 0 then
  (j31_373 1)
  else
  Option.bind (f_X8_moves q_1.2.1 q_1.2.2) (fun q_2 =>
  if q_2 = 6 then
  (j31_373 3)
  else
  (j31_373 0))))
def f_X8_drop_34 (L : ML) (k0 : MI → Option (Int32 × Mm)) : Nat → Int32 → MI → Option (Int32 × Mm)
  | 0, _, _ => none
  | n + 1, v2_6, I_7 =>
    if 61 ≤ v2_6 then
    (k0 I_7)
    else
    chk (inb (v2_6 + 10) 71) (
    chk (inb v2_6 71) (bnd (up2 I_7 44 (ix v2_6) (I_7 44 (ix (v2_6 + 10)))) (fun I_8 =>
    bnd (v2_6 + 1 : Int32) (fun v2_9 =>
    f_X8_drop_34 L k0 n v2_9 I_8))))
def f_X8_drop (a1 : Int32) (I : MI) (L : ML) : Option (Int32 × Mm) :=
  Option.bind (f_X8_isMove a1 I L) (fun q_1 =>
  bnd ((fun (s0_2 : Int32) =>
  Option.bind (f_X8_is s0_2 I L) (fun q_3 =>
  if (b2i q_3.1) = 0 then
  some ((-1), q_3.2.1, q_3.2.2)
  else
  Option.bind (f_X8_remembers q_3.2.1 q_3.2.2) (fun q_4 =>
  bnd ((11 + (10 * a1)) : Int32) (fun v2_5 =>
  f_X8_drop_34 q_4.2 (fun (I_10 : MI) =>
  chk (inb 0 71) (
  chk (inb 0 71) (bnd (up2 I_10 44 (ix 0) ((I_10 44 (ix 0)) - 1)) (fun I_11 =>
  bnd (up2 I_11 43 20 0) (fun I_12 =>
  Option.bind (f_X8_orderNow I_12 q_4.2) (fun q_13 =>
  some (q_13.1, q_13.2.1, q_13.2.2))))))) FU v2_5 q_4.1)))) : Int32 → Option (Int32 × Mm)) (fun j14_374 =>
  if (b2i q_1) = 0 then
  (j14_374 2)
  else
  (j14_374 0)))
def f_X8_undo_33 (L : ML) (k0 : MI → Option (Int32 × Mm)) : Nat → Int32 → MI → Option (Int32 × Mm)
  | 0, _, _ => none
  | n + 1, v1_4, I_5 =>
    if 71 ≤ v1_4 then
    (k0 I_5)
    else
    chk (inb ((71 * (I_5 43 3)) + v1_4) 852) (
    chk (inb v1_4 71) (bnd (up2 I_5 44 (ix v1_4) (I_5 45 (ix ((71 * (I_5 43 3)) + v1_4)))) (fun I_6 =>
    bnd (v1_4 + 1 : Int32) (fun v1_7 =>
    f_X8_undo_33 L k0 n v1_7 I_6))))
def f_X8_undo (I : MI) (L : ML) : Option (Int32 × Mm) :=
  bnd ((fun (s0_1 : Int32) =>
  Option.bind (f_X8_is s0_1 I L) (fun q_2 =>
  if (b2i q_2.1) = 0 then
  some ((-1), q_2.2.1, q_2.2.2)
  else
  bnd (up2 q_2.2.1 43 3 ((q_2.2.1 43 3) - 1)) (fun I_3 =>
  f_X8_undo_33 q_2.2.2 (fun (I_8 : MI) =>
  bnd (up2 I_8 43 20 0) (fun I_9 =>
  some ((I_9 43 3), I_9, q_2.2.2))) FU 0 I_3))) : Int32 → Option (Int32 × Mm)) (fun j13_377 =>
  if (I 43 3) = 0 then
  (j13_377 5)
  else
  (j13_377 0))
def f_X8_writes (a1 : Int32) (I : MI) (L : ML) : Option Mm :=
  chk (inb (I 43 28) 40) (bnd (up2 I 65 (ix (I 43 28)) (vp_nar .byte (i2b a1))) (fun I_1 =>
  bnd (up2 I_1 43 28 ((I_1 43 28) + 1)) (fun I_2 =>
  some (I_2, L))))
def f_X8_print_78 (v3_12 : Int32) (k0 : MI → ML → Option (Int32 × Mm)) : Nat → Int32 → MI → ML → Option (Int32 × Mm)
  | 0, _, _, _ => none
  | n + 1, v4_13, I_14, L_15 =>
    if v4_13 = v3_12 then
    (k0 I_14 L_15)
    else
    Option.bind (f_X8_writes 32 I_14 L_15) (fun q_16 =>
    Option.bind (f_X8_writes (48 + v4_13) q_16.1 q_16.2) (fun q_17 =>
    chk (inb v4_13 10) (
    bnd ((q_17.1 46 (ix v4_13)) : Int32) (fun v4_18 =>
    f_X8_print_78 v3_12 k0 n v4_18 q_17.1 q_17.2))))
def f_X8_print_33 (k0 : MI → ML → Option (Int32 × Mm)) : Nat → Int32 → MI → ML → Option (Int32 × Mm)
  | 0, _, _, _ => none
  | n + 1, v3_5, I_6, L_7 =>
    if (I_6 43 2) ≤ v3_5 then
    (k0 I_6 L_7)
    else
    Option.bind (f_X8_cycleFrom 46 v3_5 I_6 L_7) (fun q_8 =>
    if 2 ≤ q_8 then
    Option.bind (f_X8_writes 40 I_6 L_7) (fun q_9 =>
    Option.bind (f_X8_writes (48 + v3_5) q_9.1 q_9.2) (fun q_10 =>
    chk (inb v3_5 10) (
    bnd ((q_10.1 46 (ix v3_5)) : Int32) (fun v4_11 =>
    f_X8_print_78 v3_5 (fun (I_19 : MI) (L_20 : ML) =>
    Option.bind (f_X8_writes 41 I_19 L_20) (fun q_21 =>
    bnd (v3_5 + 1 : Int32) (fun v3_22 =>
    f_X8_print_33 k0 n v3_22 q_21.1 q_21.2))) FU v4_11 q_10.1 q_10.2))))
    else
    bnd (v3_5 + 1 : Int32) (fun v3_23 =>
    f_X8_print_33 k0 n v3_23 I_6 L_7))
def f_X8_print (a1 : Int64) (I : MI) (L : ML) : Option (Int32 × Mm) :=
  Option.bind (f_X8_lies a1 46 I L) (fun q_1 =>
  bnd ((fun (s0_2 : Bool) =>
  Option.bind (f_X8_is (b2i s0_2) q_1.2.1 q_1.2.2) (fun q_3 =>
  if (b2i q_3.1) = 0 then
  some ((-1), q_3.2.1, q_3.2.2)
  else
  bnd (up2 q_3.2.1 43 28 0) (fun I_4 =>
  f_X8_print_33 (fun (I_24 : MI) (L_25 : ML) =>
  if (I_24 43 28) = 0 then
  Option.bind (f_X8_writes 40 I_24 L_25) (fun q_26 =>
  Option.bind (f_X8_writes 41 q_26.1 q_26.2) (fun q_27 =>
  some ((q_27.1 43 28), q_27.1, q_27.2)))
  else
  some ((I_24 43 28), I_24, L_25)) FU 0 I_4 q_3.2.2))) : Bool → Option (Int32 × Mm)) (fun j18_380 =>
  if (b2i q_1.1) = 0 then
  (j18_380 true)
  else
  (j18_380 false)))
def f_X8_out (a1 : Int32) (I : MI) (L : ML) : Option (Int32 × Mm) :=
  if 0 ≤ a1 then
  if a1 < (I 43 28) then
  Option.bind (f_X8_is 0 I L) (fun q_1 =>
  if (b2i q_1.1) = 0 then
  some ((-1), q_1.2.1, q_1.2.2)
  else
  chk (inb a1 40) (
  some ((q_1.2.1 65 (ix a1)), q_1.2.1, q_1.2.2)))
  else
  Option.bind (f_X8_is 5 I L) (fun q_2 =>
  if (b2i q_2.1) = 0 then
  some ((-1), q_2.2.1, q_2.2.2)
  else
  chk (inb a1 40) (
  some ((q_2.2.1 65 (ix a1)), q_2.2.1, q_2.2.2)))
  else
  Option.bind (f_X8_is 1 I L) (fun q_3 =>
  if (b2i q_3.1) = 0 then
  some ((-1), q_3.2.1, q_3.2.2)
  else
  chk (inb a1 40) (
  some ((q_3.2.1 65 (ix a1)), q_3.2.1, q_3.2.2)))
def f_X8_feeds_3 (v1_1 : Int32) (L : ML) : Nat → Int32 → MI → Option Mm
  | 0, _, _ => none
  | n + 1, v2_2, I_3 =>
    if v2_2 < 0 then
    some (I_3, L)
    else
    chk (inb (I_3 43 30) 400) (bnd (up2 I_3 66 (ix (I_3 43 30)) (vp_nar .byte (i2b (shr v1_1 v2_2)))) (fun I_4 =>
    bnd (up2 I_4 43 30 ((I_4 43 30) + 1)) (fun I_5 =>
    bnd (v2_2 + (-8) : Int32) (fun v2_6 =>
    f_X8_feeds_3 v1_1 L n v2_6 I_5))))
def f_X8_feeds (a1 : Int32) (I : MI) (L : ML) : Option Mm :=
  f_X8_feeds_3 a1 L FU 24 I
def f_X8_feed (a1 : Int32) (a2 : Int32) (a3 : Int32) (a4 : Int32) (a5 : Int32) (I : MI) (L : ML) : Option (Int32 × Mm) :=
  bnd (up2 I 43 1 0) (fun I_1 =>
  if ((I_1 43 30) + 20) ≤ 400 then
  Option.bind (f_X8_feeds a1 I_1 L) (fun q_2 =>
  Option.bind (f_X8_feeds a2 q_2.1 q_2.2) (fun q_3 =>
  Option.bind (f_X8_feeds a3 q_3.1 q_3.2) (fun q_4 =>
  Option.bind (f_X8_feeds a4 q_4.1 q_4.2) (fun q_5 =>
  Option.bind (f_X8_feeds a5 q_5.1 q_5.2) (fun q_6 =>
  some ((q_6.1 43 30), q_6.1, q_6.2))))))
  else
  some ((-1), I_1, L))
def f_X8_isOf (a1 : Int32) (a2 : Int32) (a3 : Int32) (I : MI) (L : ML) : Option Bool :=
  if (I 43 39) ≤ a1 then
  some false
  else
  chk (inb a1 400) (
  Option.bind (f_X8_isIn (Int32.toInt64 (I 66 (ix a1))) (Int32.toInt64 a2) (Int32.toInt64 a3)) (fun q_1 =>
  if (b2i q_1) = 0 then
  some false
  else
  some true))
def f_X8_good (I : MI) (L : ML) : Option Bool :=
  if (I 43 33) = 0 then
  some true
  else
  some false
def f_X8_isSign (a1 : Int32) (I : MI) (L : ML) : Option Bool :=
  Option.bind (f_X8_good I L) (fun q_1 =>
  if (b2i q_1) = 0 then
  some false
  else
  if (I 43 39) ≤ (I 43 35) then
  some false
  else
  chk (inb (I 43 35) 400) (
  if (I 66 (ix (I 43 35))) = a1 then
  some true
  else
  some false))
def f_X8_reads_296 (L : ML) (k0 : MI → Option Mm) : Nat → MI → Option Mm
  | 0, _ => none
  | n + 1, I_15 =>
    Option.bind (f_X8_isOf (I_15 43 36) 48 57 I_15 L) (fun q_16 =>
    if (b2i q_16) = 0 then
    (k0 I_15)
    else
    if 2 ≤ ((I_15 43 36) - (I_15 43 35)) then
    bnd (up2 I_15 43 38 (I_15 43 38)) (fun I_17 =>
    bnd (up2 I_17 43 36 ((I_17 43 36) + 1)) (fun I_18 =>
    f_X8_reads_296 L k0 n I_18))
    else
    chk (inb (I_15 43 36) 400) (
    bnd (up2 I_15 43 38 (((10 * (I_15 43 38)) + (I_15 66 (ix (I_15 43 36)))) - 48)) (fun I_19 =>
    bnd (up2 I_19 43 36 ((I_19 43 36) + 1)) (fun I_20 =>
    f_X8_reads_296 L k0 n I_20))))
def f_X8_reads_169 (k0 : MI → ML → Option Mm) : Nat → MI → ML → Option Mm
  | 0, _, _ => none
  | n + 1, I_26, L_27 =>
    Option.bind (f_X8_isOf (I_26 43 36) 97 122 I_26 L_27) (fun q_28 =>
    if (b2i q_28) = 0 then
    (k0 I_26 L_27)
    else
    if 8 ≤ ((I_26 43 36) - (I_26 43 35)) then
    bnd (up2 L_27 43 42 0) (fun L_29 =>
    bnd (up2 I_26 43 36 ((I_26 43 36) + 1)) (fun I_30 =>
    f_X8_reads_169 k0 n I_30 L_29))
    else
    chk (inb (I_26 43 36) 400) (
    bnd (up2 L_27 43 42 (((27 * (L_27 43 42)) + (Int32.toInt64 (I_26 66 (ix (I_26 43 36))))) - 96)) (fun L_31 =>
    bnd (up2 I_26 43 36 ((I_26 43 36) + 1)) (fun I_32 =>
    f_X8_reads_169 k0 n I_32 L_31))))
def f_X8_reads_8 (L : ML) (k0 : MI → Option Mm) : Nat → MI → Option Mm
  | 0, _ => none
  | n + 1, I_2 =>
    Option.bind (f_X8_isOf (I_2 43 35) 32 32 I_2 L) (fun q_3 =>
    if (b2i q_3) = 0 then
    Option.bind (f_X8_isOf (I_2 43 35) 10 10 I_2 L) (fun q_5 =>
    if (b2i q_5) = 0 then
    (k0 I_2)
    else
    bnd (up2 I_2 43 35 ((I_2 43 35) + 1)) (fun I_6 =>
    f_X8_reads_8 L k0 n I_6))
    else
    bnd (up2 I_2 43 35 ((I_2 43 35) + 1)) (fun I_4 =>
    f_X8_reads_8 L k0 n I_4))
def f_X8_reads (I : MI) (L : ML) : Option Mm :=
  bnd (up2 I 43 35 (I 43 36)) (fun I_1 =>
  f_X8_reads_8 L (fun (I_7 : MI) =>
  bnd (up2 I_7 43 36 ((I_7 43 35) + 1)) (fun I_8 =>
  bnd ((fun (s0_9 : Int32) =>
  bnd (up2 I_8 43 37 s0_9) (fun I_10 =>
  Option.bind (f_X8_isOf (I_10 43 35) 97 122 I_10 L) (fun q_11 =>
  if (b2i q_11) = 0 then
  Option.bind (f_X8_isOf (I_10 43 35) 48 57 I_10 L) (fun q_12 =>
  if (b2i q_12) = 0 then
  some (I_10, L)
  else
  bnd (up2 I_10 43 38 0) (fun I_13 =>
  bnd (up2 I_13 43 36 (I_13 43 35)) (fun I_14 =>
  f_X8_reads_296 L (fun (I_21 : MI) =>
  if ((I_21 43 36) - (I_21 43 35)) ≤ 2 then
  bnd (up2 I_21 43 37 2) (fun I_22 =>
  some (I_22, L))
  else
  bnd (up2 I_21 43 37 4) (fun I_23 =>
  some (I_23, L))) FU I_14)))
  else
  bnd (up2 L 43 42 0) (fun L_24 =>
  bnd (up2 I_10 43 36 (I_10 43 35)) (fun I_25 =>
  f_X8_reads_169 (fun (I_33 : MI) (L_34 : ML) =>
  if ((I_33 43 36) - (I_33 43 35)) ≤ 8 then
  bnd (up2 I_33 43 37 1) (fun I_35 =>
  some (I_35, L_34))
  else
  bnd (up2 I_33 43 37 4) (fun I_36 =>
  some (I_36, L_34))) FU I_25 L_24))))) : Int32 → Option Mm) (fun j138_388 =>
  if (I_8 43 35) < (I_8 43 39) then
  chk (inb (I_8 43 35) 400) (
  bnd (((j138_388 3)) : Option Mm) (fun j133_389 =>
  if (I_8 66 (ix (I_8 43 35))) = 40 then
  j133_389
  else
  chk (inb (I_8 43 35) 400) (
  if (I_8 66 (ix (I_8 43 35))) = 41 then
  j133_389
  else
  chk (inb (I_8 43 35) 400) (
  if (I_8 66 (ix (I_8 43 35))) = 59 then
  j133_389
  else
  chk (inb (I_8 43 35) 400) (
  if (I_8 66 (ix (I_8 43 35))) = 39 then
  j133_389
  else
  (j138_388 4))))))
  else
  (j138_388 0)))) FU I_1)
def f_X8_must (a1 : Bool) (a2 : Int32) (I : MI) (L : ML) : Option Mm :=
  if (b2i a1) = 0 then
  if (I 43 33) ≤ 0 then
  if a2 = 2 then
  if (I 43 37) = 4 then
  bnd (up2 I 43 33 1) (fun I_5 =>
  bnd (up2 I_5 43 34 (I_5 43 35)) (fun I_6 =>
  some (I_6, L)))
  else
  bnd (up2 I 43 33 a2) (fun I_3 =>
  bnd (up2 I_3 43 34 (I_3 43 35)) (fun I_4 =>
  some (I_4, L)))
  else
  bnd (up2 I 43 33 a2) (fun I_1 =>
  bnd (up2 I_1 43 34 (I_1 43 35)) (fun I_2 =>
  some (I_2, L)))
  else
  some (I, L)
  else
  some (I, L)
def f_X8_goesOn (I : MI) (L : ML) : Option Mm :=
  Option.bind (f_X8_good I L) (fun q_1 =>
  if (b2i q_1) = 0 then
  some (I, L)
  else
  Option.bind (f_X8_reads I L) (fun q_2 =>
  some (q_2.1, q_2.2)))
def f_X8_isWord (a1 : Int64) (I : MI) (L : ML) : Option Bool :=
  Option.bind (f_X8_good I L) (fun q_1 =>
  if (b2i q_1) = 0 then
  some false
  else
  if (I 43 37) = 1 then
  if (lg_cmp (L 43 42) a1) = 0 then
  some true
  else
  some false
  else
  some false)
def f_X8_isName (I : MI) (L : ML) : Option Bool :=
  Option.bind (f_X8_good I L) (fun q_1 =>
  if (b2i q_1) = 0 then
  some false
  else
  if (I 43 37) = 1 then
  if (lg_cmp (L 43 42) 237742039) = 0 then
  some false
  else
  if (lg_cmp (L 43 42) 267413) = 0 then
  some false
  else
  if (lg_cmp (L 43 42) 464134) = 0 then
  some false
  else
  some true
  else
  some false)
def f_X8_nameNow_2 (I : MI) (L : ML) : Nat → Int32 → Option Int32
  | 0, _ => none
  | n + 1, v1_1 =>
    if (I 43 41) ≤ v1_1 then
    some (-1)
    else
    chk (inb v1_1 6) (
    if (lg_cmp (L 67 (ix v1_1)) (L 43 42)) = 0 then
    some v1_1
    else
    bnd (v1_1 + 1 : Int32) (fun v1_2 =>
    f_X8_nameNow_2 I L n v1_2))
def f_X8_nameNow (I : MI) (L : ML) : Option Int32 :=
  f_X8_nameNow_2 I L FU 0
def f_X8_takesNew (I : MI) (L : ML) : Option Mm :=
  bnd ((fun (s0_1 : Bool) =>
  Option.bind (f_X8_must s0_1 5 I L) (fun q_2 =>
  Option.bind (f_X8_goesOn q_2.1 q_2.2) (fun q_3 =>
  Option.bind (f_X8_isName q_3.1 q_3.2) (fun q_4 =>
  Option.bind (f_X8_must q_4 2 q_3.1 q_3.2) (fun q_5 =>
  Option.bind (f_X8_nameNow q_5.1 q_5.2) (fun q_6 =>
  bnd ((fun (s0_7 : Bool) =>
  Option.bind (f_X8_must s0_7 4 q_5.1 q_5.2) (fun q_8 =>
  Option.bind (f_X8_good q_8.1 q_8.2) (fun q_9 =>
  if (b2i q_9) = 0 then
  some (q_8.1, q_8.2)
  else
  chk (inb (q_8.1 43 41) 6) (bnd (up2 q_8.2 67 (ix (q_8.1 43 41)) (q_8.2 43 42)) (fun L_10 =>
  Option.bind (f_X8_isHome 48 q_8.1 L_10) (fun q_11 =>
  Option.bind (f_X8_reads q_11.1 q_11.2) (fun q_12 =>
  some (q_12.1, q_12.2)))))))) : Bool → Option Mm) (fun j46_396 =>
  if q_6 = (-1) then
  (j46_396 true)
  else
  (j46_396 false)))))))) : Bool → Option Mm) (fun j15_395 =>
  if 6 ≤ (I 43 41) then
  (j15_395 false)
  else
  (j15_395 true))
def f_X8_readsPoints (I : MI) (L : ML) : Option Mm :=
  bnd ((fun (s0_1 : Bool) =>
  Option.bind (f_X8_must s0_1 2 I L) (fun q_2 =>
  Option.bind (f_X8_goesOn q_2.1 q_2.2) (fun q_3 =>
  bnd ((fun (s0_4 : Bool) =>
  Option.bind (f_X8_must s0_4 2 q_3.1 q_3.2) (fun q_5 =>
  Option.bind (f_X8_isIn (Int32.toInt64 (q_5.1 43 38)) 2 10) (fun q_6 =>
  Option.bind (f_X8_must q_6 3 q_5.1 q_5.2) (fun q_7 =>
  Option.bind (f_X8_good q_7.1 q_7.2) (fun q_8 =>
  if (b2i q_8) = 0 then
  Option.bind (f_X8_goesOn q_7.1 q_7.2) (fun q_9 =>
  some (q_9.1, q_9.2))
  else
  bnd (up2 q_7.1 43 40 (q_7.1 43 38)) (fun I_10 =>
  Option.bind (f_X8_goesOn I_10 q_7.2) (fun q_11 =>
  some (q_11.1, q_11.2)))))))) : Bool → Option Mm) (fun j35_398 =>
  if (q_3.1 43 37) = 2 then
  (j35_398 true)
  else
  (j35_398 false))))) : Bool → Option Mm) (fun j13_397 =>
  if (I 43 40) = 0 then
  (j13_397 true)
  else
  (j13_397 false))
def f_X8_readsCycle_22 (k0 : Int32 → Int32 → Int32 → MI → ML → Option (Int32 × Mm)) : Nat → Int32 → Int32 → Int32 → MI → ML → Option (Int32 × Mm)
  | 0, _, _, _, _, _ => none
  | n + 1, v2_4, v3_5, v4_6, I_7, L_8 =>
    Option.bind (f_X8_good I_7 L_8) (fun q_9 =>
    if (b2i q_9) = 0 then
    (k0 v2_4 v3_5 v4_6 I_7 L_8)
    else
    bnd ((bnd ((fun (s0_10 : Bool) =>
    Option.bind (f_X8_must s0_10 2 I_7 L_8) (fun q_11 =>
    bnd ((fun (s0_12 : Bool) =>
    Option.bind (f_X8_must s0_12 3 q_11.1 q_11.2) (fun q_13 =>
    Option.bind (f_X8_bit v2_4 (q_13.1 43 38)) (fun q_14 =>
    bnd ((fun (s0_15 : Bool) =>
    Option.bind (f_X8_must s0_15 4 q_13.1 q_13.2) (fun q_16 =>
    Option.bind (f_X8_good q_16.1 q_16.2) (fun q_17 =>
    if (b2i q_17) = 0 then
    some (v2_4, q_16.1, q_16.2)
    else
    bnd ((v2_4 ||| (shl 1 (q_16.1 43 38))) : Int32) (fun v2_18 =>
    if v3_5 = (-1) then
    bnd ((q_16.1 43 38) : Int32) (fun v3_22 =>
    bnd ((q_16.1 43 38) : Int32) (fun v4_23 =>
    Option.bind (f_X8_reads q_16.1 q_16.2) (fun q_24 =>
    f_X8_readsCycle_22 k0 n v2_18 v3_22 v4_23 q_24.1 q_24.2)))
    else
    chk (inb v4_6 10) (bnd (up2 q_16.1 48 (ix v4_6) (q_16.1 43 38)) (fun I_19 =>
    bnd ((I_19 43 38) : Int32) (fun v4_20 =>
    Option.bind (f_X8_reads I_19 q_16.2) (fun q_21 =>
    f_X8_readsCycle_22 k0 n v2_18 v3_5 v4_20 q_21.1 q_21.2)))))))) : Bool → Option (Int32 × Mm)) (fun j98_404 =>
    if (b2i q_14) = 0 then
    (j98_404 true)
    else
    (j98_404 false))))) : Bool → Option (Int32 × Mm)) (fun j77_403 =>
    if (q_11.1 43 40) ≤ (q_11.1 43 38) then
    (j77_403 false)
    else
    (j77_403 true)))) : Bool → Option (Int32 × Mm)) (fun j56_402 =>
    if (I_7 43 37) = 2 then
    (j56_402 true)
    else
    (j56_402 false))) : Option (Int32 × Mm)) (fun j42_401 =>
    if v3_5 = (-1) then
    j42_401
    else
    if (I_7 43 37) = 2 then
    j42_401
    else
    (k0 v2_4 v3_5 v4_6 I_7 L_8)))
def f_X8_readsCycle (a1 : Int32) (I : MI) (L : ML) : Option (Int32 × Mm) :=
  Option.bind (f_X8_isSign 40 I L) (fun q_1 =>
  Option.bind (f_X8_must q_1 2 I L) (fun q_2 =>
  Option.bind (f_X8_goesOn q_2.1 q_2.2) (fun q_3 =>
  f_X8_readsCycle_22 (fun (v2_25 : Int32) (v3_26 : Int32) (v4_27 : Int32) (I_28 : MI) (L_29 : ML) =>
  Option.bind (f_X8_good I_28 L_29) (fun q_30 =>
  if (b2i q_30) = 0 then
  Option.bind (f_X8_isSign 41 I_28 L_29) (fun q_31 =>
  Option.bind (f_X8_must q_31 2 I_28 L_29) (fun q_32 =>
  Option.bind (f_X8_goesOn q_32.1 q_32.2) (fun q_33 =>
  some (v2_25, q_33.1, q_33.2))))
  else
  chk (inb v4_27 10) (bnd (up2 I_28 48 (ix v4_27) v3_26) (fun I_34 =>
  Option.bind (f_X8_isSign 41 I_34 L_29) (fun q_35 =>
  Option.bind (f_X8_must q_35 2 I_34 L_29) (fun q_36 =>
  Option.bind (f_X8_goesOn q_36.1 q_36.2) (fun q_37 =>
  some (v2_25, q_37.1, q_37.2)))))))) FU a1 (-1) (-1) q_3.1 q_3.2)))
def f_X8_readsMove_10 : Nat → Int32 → MI → ML → Option Mm
  | 0, _, _, _ => none
  | n + 1, v1_4, I_5, L_6 =>
    Option.bind (f_X8_isSign 40 I_5 L_6) (fun q_7 =>
    if (b2i q_7) = 0 then
    some (I_5, L_6)
    else
    Option.bind (f_X8_readsCycle v1_4 I_5 L_6) (fun q_8 =>
    bnd (q_8.1 : Int32) (fun v1_9 =>
    f_X8_readsMove_10 n v1_9 q_8.2.1 q_8.2.2)))
def f_X8_readsMove (I : MI) (L : ML) : Option Mm :=
  Option.bind (f_X8_takesNew I L) (fun q_1 =>
  Option.bind (f_X8_readsCycle 0 q_1.1 q_1.2) (fun q_2 =>
  bnd (q_2.1 : Int32) (fun v1_3 =>
  f_X8_readsMove_10 FU v1_3 q_2.2.1 q_2.2.2)))
def f_X8_readsItem (I : MI) (L : ML) : Option Mm :=
  Option.bind (f_X8_isName I L) (fun q_1 =>
  Option.bind (f_X8_must q_1 2 I L) (fun q_2 =>
  Option.bind (f_X8_nameNow q_2.1 q_2.2) (fun q_3 =>
  bnd ((fun (s0_4 : Bool) =>
  Option.bind (f_X8_must s0_4 4 q_2.1 q_2.2) (fun q_5 =>
  Option.bind (f_X8_good q_5.1 q_5.2) (fun q_6 =>
  if (b2i q_6) = 0 then
  some (q_5.1, q_5.2)
  else
  Option.bind (f_X8_reads q_5.1 q_5.2) (fun q_7 =>
  Option.bind (f_X8_copies 68 60 (10 * q_3) 46 10 0 q_7.1 q_7.2) (fun q_8 =>
  Option.bind (f_X8_copies 46 10 0 47 10 0 q_8.1 q_8.2) (fun q_9 =>
  Option.bind (f_X8_isSign 39 q_9.1 q_9.2) (fun q_10 =>
  bnd ((fun (I_13 : MI) (L_14 : ML) =>
  Option.bind (f_X8_copies 48 10 0 46 10 0 I_13 L_14) (fun q_15 =>
  Option.bind (f_X8_makes 46 47 48 q_15.1 q_15.2) (fun q_16 =>
  some (q_16.1, q_16.2)))) : MI → ML → Option Mm) (fun j94_407 =>
  if (b2i q_10) = 0 then
  (j94_407 q_9.1 q_9.2)
  else
  Option.bind (f_X8_inverts 46 47 q_9.1 q_9.2) (fun q_11 =>
  Option.bind (f_X8_reads q_11.1 q_11.2) (fun q_12 =>
  (j94_407 q_12.1 q_12.2))))))))))) : Bool → Option Mm) (fun j25_406 =>
  if q_3 = (-1) then
  (j25_406 false)
  else
  (j25_406 true)))))
def f_X8_readsWord_8 : Nat → MI → ML → Option Mm
  | 0, _, _ => none
  | n + 1, I_3, L_4 =>
    Option.bind (f_X8_isName I_3 L_4) (fun q_5 =>
    if (b2i q_5) = 0 then
    some (I_3, L_4)
    else
    Option.bind (f_X8_readsItem I_3 L_4) (fun q_6 =>
    f_X8_readsWord_8 n q_6.1 q_6.2))
def f_X8_readsWord (I : MI) (L : ML) : Option Mm :=
  Option.bind (f_X8_takesNew I L) (fun q_1 =>
  Option.bind (f_X8_readsItem q_1.1 q_1.2) (fun q_2 =>
  f_X8_readsWord_8 FU q_2.1 q_2.2))
def f_X8_line (I : MI) (L : ML) : Option Mm :=
  Option.bind (f_X8_isWord 237742039 I L) (fun q_1 =>
  if (b2i q_1) = 0 then
  Option.bind (f_X8_isWord 267413 I L) (fun q_2 =>
  bnd ((fun (s0_4 : Bool) =>
  Option.bind (f_X8_must s0_4 2 I L) (fun q_5 =>
  Option.bind (f_X8_good q_5.1 q_5.2) (fun q_6 =>
  if (b2i q_6) = 0 then
  some (q_5.1, q_5.2)
  else
  Option.bind (f_X8_isWord 267413 q_5.1 q_5.2) (fun q_7 =>
  bnd ((fun (I_10 : MI) (L_11 : ML) =>
  Option.bind (f_X8_good I_10 L_11) (fun q_12 =>
  bnd ((fun (I_14 : MI) (L_15 : ML) =>
  Option.bind (f_X8_good I_14 L_15) (fun q_16 =>
  if (b2i q_16) = 0 then
  bnd (up2 I_14 43 41 ((I_14 43 41) + 0)) (fun I_17 =>
  some (I_17, L_15))
  else
  bnd (up2 I_14 43 41 ((I_14 43 41) + 1)) (fun I_18 =>
  some (I_18, L_15)))) : MI → ML → Option Mm) (fun j107_413 =>
  if (b2i q_12) = 0 then
  (j107_413 I_10 L_11)
  else
  Option.bind (f_X8_copies 48 10 0 68 60 (10 * (I_10 43 41)) I_10 L_11) (fun q_13 =>
  (j107_413 q_13.1 q_13.2))))) : MI → ML → Option Mm) (fun j81_412 =>
  if (b2i q_7) = 0 then
  Option.bind (f_X8_readsWord q_5.1 q_5.2) (fun q_8 =>
  (j81_412 q_8.1 q_8.2))
  else
  Option.bind (f_X8_readsMove q_5.1 q_5.2) (fun q_9 =>
  (j81_412 q_9.1 q_9.2))))))) : Bool → Option Mm) (fun j48_409 =>
  bnd (((j48_409 false)) : Option Mm) (fun j47_410 =>
  bnd ((if (I 43 40) ≤ 0 then
  j47_410
  else
  (j48_409 true)) : Option Mm) (fun j36_411 =>
  if (b2i q_2) = 0 then
  Option.bind (f_X8_isWord 464134 I L) (fun q_3 =>
  if (b2i q_3) = 0 then
  j47_410
  else
  j36_411)
  else
  j36_411))))
  else
  Option.bind (f_X8_readsPoints I L) (fun q_19 =>
  some (q_19.1, q_19.2)))
def f_X8_load_179 (L : ML) (k0 : MI → Option (Int32 × Mm)) : Nat → Int32 → MI → Option (Int32 × Mm)
  | 0, _, _ => none
  | n + 1, v2_27, I_28 =>
    if (10 * (I_28 43 41)) ≤ v2_27 then
    (k0 I_28)
    else
    chk (inb v2_27 60) (
    chk (inb (11 + v2_27) 71) (bnd (up2 I_28 44 (ix (11 + v2_27)) (I_28 68 (ix v2_27))) (fun I_29 =>
    bnd (v2_27 + 1 : Int32) (fun v2_30 =>
    f_X8_load_179 L k0 n v2_30 I_29))))
def f_X8_load_57 (k0 : MI → ML → Option (Int32 × Mm)) : Nat → MI → ML → Option (Int32 × Mm)
  | 0, _, _ => none
  | n + 1, I_10, L_11 =>
    Option.bind (f_X8_good I_10 L_11) (fun q_12 =>
    if (b2i q_12) = 0 then
    (k0 I_10 L_11)
    else
    if (I_10 43 37) = 0 then
    (k0 I_10 L_11)
    else
    Option.bind (f_X8_line I_10 L_11) (fun q_13 =>
    Option.bind (f_X8_isSign 59 q_13.1 q_13.2) (fun q_14 =>
    Option.bind (f_X8_must q_14 2 q_13.1 q_13.2) (fun q_15 =>
    Option.bind (f_X8_goesOn q_15.1 q_15.2) (fun q_16 =>
    f_X8_load_57 k0 n q_16.1 q_16.2)))))
def f_X8_load (a1 : Int32) (I : MI) (L : ML) : Option (Int32 × Mm) :=
  Option.bind (f_X8_isIn (Int32.toInt64 a1) 0 (Int32.toInt64 (I 43 30))) (fun q_1 =>
  bnd ((fun (s0_2 : Bool) =>
  Option.bind (f_X8_is (b2i s0_2) I L) (fun q_3 =>
  if (b2i q_3.1) = 0 then
  some ((-1), q_3.2.1, q_3.2.2)
  else
  bnd (up2 q_3.2.1 43 39 a1) (fun I_4 =>
  bnd (up2 I_4 43 36 0) (fun I_5 =>
  bnd (up2 I_5 43 33 0) (fun I_6 =>
  bnd (up2 I_6 43 41 0) (fun I_7 =>
  bnd (up2 I_7 43 40 0) (fun I_8 =>
  Option.bind (f_X8_reads I_8 q_3.2.2) (fun q_9 =>
  f_X8_load_57 (fun (I_17 : MI) (L_18 : ML) =>
  bnd (up2 I_17 43 30 0) (fun I_19 =>
  bnd (up2 I_19 43 31 (I_19 43 33)) (fun I_20 =>
  bnd ((fun (s0_21 : Int32) =>
  bnd (up2 I_20 43 32 s0_21) (fun I_22 =>
  if (I_22 43 33) ≤ 0 then
  bnd (up2 I_22 43 2 (I_22 43 40)) (fun I_23 =>
  chk (inb 0 71) (bnd (up2 I_23 44 (ix 0) (I_23 43 41)) (fun I_24 =>
  Option.bind (f_X8_isHome 46 I_24 L_18) (fun q_25 =>
  Option.bind (f_X8_copies 46 10 0 44 71 1 q_25.1 q_25.2) (fun q_26 =>
  f_X8_load_179 q_26.2 (fun (I_31 : MI) =>
  bnd (up2 I_31 43 3 0) (fun I_32 =>
  bnd (up2 I_32 43 20 0) (fun I_33 =>
  some ((I_33 43 41), I_33, q_26.2)))) FU 0 q_26.1)))))
  else
  Option.bind (f_X8_refuse 9 I_22 L_18) (fun q_34 =>
  some (q_34.1, q_34.2.1, q_34.2.2)))) : Int32 → Option (Int32 × Mm)) (fun j122_417 =>
  if (I_20 43 33) ≤ 0 then
  (j122_417 (-1))
  else
  (j122_417 (I_20 43 34)))))) FU q_9.1 q_9.2)))))))) : Bool → Option (Int32 × Mm)) (fun j20_414 =>
  if (b2i q_1) = 0 then
  (j20_414 true)
  else
  (j20_414 false)))
def f_X8_fault (a1 : Int32) (I : MI) (L : ML) : Option (Int32 × Mm) :=
  bnd (up2 I 43 1 0) (fun I_1 =>
  if a1 = 0 then
  some ((I_1 43 31), I_1, L)
  else
  if a1 = 1 then
  some ((I_1 43 32), I_1, L)
  else
  some ((-1), I_1, L))
