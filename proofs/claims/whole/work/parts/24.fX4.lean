def f_X4_widen_43 (rm : Nat) (c1 : Nat) (v2_10 : Int32) (v3_11 : Int32) (v4_12 : Int32) (v5_13 : Int32) (v6_14 : Int64) (v8_15 : Int64) (I : MI) (k0 : ML → Option Mm) : Nat → Int32 → Int32 → ML → Option Mm
  | 0, _, _, _ => none
  | n + 1, v10_16, v11_17, L_18 =>
    if (I 69 11) ≤ v11_17 then
    (k0 L_18)
    else
    if (I 69 0) ≤ v10_16 then
    (k0 L_18)
    else
    Option.bind (f_X6_image v8_15 v11_17) (fun q_19 =>
    if ((shr v3_11 q_19) &&& 1) = 0 then
    bnd (v11_17 + 1 : Int32) (fun v11_20 =>
    f_X4_widen_43 rm c1 v2_10 v3_11 v4_12 v5_13 v6_14 v8_15 I k0 n v10_16 v11_20 L_18)
    else
    Option.bind (f_X0_carrier c1 v2_10 q_19 I L_18) (fun q_21 =>
    Option.bind (f_X6_compose q_21 v6_14 (I 69 11)) (fun q_22 =>
    chk (inb v10_16 rm) (bnd (up2 L_18 72 (ix v10_16) q_22) (fun L_23 =>
    bnd (v10_16 + 1 : Int32) (fun v10_24 =>
    bnd (v11_17 + 1 : Int32) (fun v11_25 =>
    f_X4_widen_43 rm c1 v2_10 v3_11 v4_12 v5_13 v6_14 v8_15 I k0 n v10_24 v11_25 L_23)))))))
def f_X4_widen_8 (rm : Nat) (c1 : Nat) (v2_2 : Int32) (v3_3 : Int32) (v4_4 : Int32) (I : MI) (k0 : ML → Option Mm) : Nat → Int32 → ML → Option Mm
  | 0, _, _ => none
  | n + 1, v5_5, L_6 =>
    if v5_5 < 0 then
    (k0 L_6)
    else
    chk (inb v5_5 rm) (
    bnd ((L_6 72 (ix v5_5)) : Int64) (fun v6_7 =>
    Option.bind (f_X6_invert v6_7 (I 69 11)) (fun q_8 =>
    bnd ((v5_5 * v4_4) : Int32) (fun v10_9 =>
    f_X4_widen_43 rm c1 v2_2 v3_3 v4_4 v5_5 v6_7 q_8 I (fun (L_26 : ML) =>
    bnd (v5_5 + (-1) : Int32) (fun v5_27 =>
    f_X4_widen_8 rm c1 v2_2 v3_3 v4_4 I k0 n v5_27 L_26)) FU v10_9 0 L_6))))
def f_X4_widen (rm : Nat) (c1 : Nat) (a2 : Int32) (a3 : Int32) (a4 : Int32) (I : MI) (L : ML) : Option Mm :=
  bnd (((I 69 1) - 1) : Int32) (fun v5_1 =>
  f_X4_widen_8 rm c1 a2 a3 a4 I (fun (L_28 : ML) =>
  bnd (up2 I 69 1 ((I 69 1) * a4)) (fun I_29 =>
  some (I_29, L_28))) FU v5_1 L)
def f_X4_fill_40 (rm : Nat) (c1 : Nat) : Nat → Int32 → MI → ML → Option Mm
  | 0, _, _, _ => none
  | n + 1, v3_8, I_9, L_10 =>
    if (I_9 69 11) ≤ v3_8 then
    some (I_9, L_10)
    else
    Option.bind (f_X0_reachedAt c1 v3_8 I_9 L_10) (fun q_11 =>
    Option.bind (f_J6_bitCount_0f7a4 q_11) (fun q_12 =>
    if q_12 ≤ 1 then
    bnd (v3_8 + 1 : Int32) (fun v3_13 =>
    f_X4_fill_40 rm c1 n v3_13 I_9 L_10)
    else
    if (I_9 69 0) < ((I_9 69 1) * q_12) then
    bnd (v3_8 + 1 : Int32) (fun v3_14 =>
    f_X4_fill_40 rm c1 n v3_14 I_9 L_10)
    else
    Option.bind (f_X4_widen rm c1 v3_8 q_11 q_12 I_9 L_10) (fun q_15 =>
    bnd (v3_8 + 1 : Int32) (fun v3_16 =>
    f_X4_fill_40 rm c1 n v3_16 q_15.1 q_15.2))))
def f_X4_fill (rm : Nat) (c1 : Nat) (a2 : Int32) (I : MI) (L : ML) : Option Mm :=
  bnd (up2 I 69 11 a2) (fun I_1 =>
  bnd (up2 I_1 69 13 0) (fun I_2 =>
  bnd (up2 I_2 69 14 0) (fun I_3 =>
  bnd (up2 I_3 69 15 0) (fun I_4 =>
  Option.bind (f_X6_identity (I_4 69 11)) (fun q_5 =>
  chk (inb 0 rm) (bnd (up2 L 72 (ix 0) q_5) (fun L_6 =>
  bnd (up2 I_4 69 1 1) (fun I_7 =>
  f_X4_fill_40 rm c1 FU 0 I_7 L_6))))))))
def f_X4_find_13 (rm : Nat) (v1_2 : Int64) (I : MI) (L : ML) : Nat → Int32 → Int32 → Int32 → Option Int32
  | 0, _, _, _ => none
  | n + 1, v3_3, v4_4, v5_5 =>
    if 32 ≤ v5_5 then
    some (-1)
    else
    if v4_4 < v3_3 then
    some (-1)
    else
    bnd ((ushr (v3_3 + v4_4) 1) : Int32) (fun v6_6 =>
    chk (inb v6_6 rm) (
    bnd ((L 72 (ix v6_6)) : Int64) (fun v7_7 =>
    if (lg_cmp v7_7 v1_2) = 0 then
    some v6_6
    else
    if 0 ≤ (lg_cmp v7_7 v1_2) then
    bnd ((v6_6 - 1) : Int32) (fun v4_8 =>
    bnd (v5_5 + 1 : Int32) (fun v5_9 =>
    f_X4_find_13 rm v1_2 I L n v3_3 v4_8 v5_9))
    else
    bnd ((v6_6 + 1) : Int32) (fun v3_10 =>
    bnd (v5_5 + 1 : Int32) (fun v5_11 =>
    f_X4_find_13 rm v1_2 I L n v3_10 v4_4 v5_11)))))
def f_X4_find (rm : Nat) (a1 : Int64) (I : MI) (L : ML) : Option Int32 :=
  bnd (((I 69 1) - 1) : Int32) (fun v4_1 =>
  f_X4_find_13 rm a1 I L FU 0 v4_1 0)
def f_X4_followMove_3 (rm : Nat) (a3 : Nat) (a4 : Nat) (v1_1 : Int64) (L : ML) : Nat → Int32 → MI → Option Mm
  | 0, _, _ => none
  | n + 1, v5_2, I_3 =>
    if (I_3 69 1) ≤ v5_2 then
    some (I_3, L)
    else
    chk (inb v5_2 rm) (
    Option.bind (f_X6_compose (L 72 (ix v5_2)) v1_1 (I_3 69 11)) (fun q_4 =>
    Option.bind (f_X4_find rm q_4 I_3 L) (fun q_5 =>
    if q_5 < 0 then
    bnd (v5_2 + 1 : Int32) (fun v5_6 =>
    f_X4_followMove_3 rm a3 a4 v1_1 L n v5_6 I_3)
    else
    chk (inb v5_2 rm) (bnd (up2 I_3 a3 (ix v5_2) q_5) (fun I_7 =>
    chk (inb q_5 rm) (bnd (up2 I_7 a4 (ix q_5) v5_2) (fun I_8 =>
    bnd (v5_2 + 1 : Int32) (fun v5_9 =>
    f_X4_followMove_3 rm a3 a4 v1_1 L n v5_9 I_8))))))))
def f_X4_followMove (rm : Nat) (a1 : Int64) (a3 : Nat) (a4 : Nat) (I : MI) (L : ML) : Option Mm :=
  f_X4_followMove_3 rm a3 a4 a1 L FU 0 I
def f_X4_reachFrom_5 (rm : Nat) (v1_1 : Int32) (L : ML) : Nat → Int32 → Int32 → MI → Option (Int32 × Mm)
  | 0, _, _, _ => none
  | n + 1, v3_2, v4_3, I_4 =>
    if (I_4 69 12) ≤ v4_3 then
    some (v3_2, I_4, L)
    else
    if (I_4 69 1) ≤ v3_2 then
    some (v3_2, I_4, L)
    else
    chk (inb v4_3 12) (
    chk (inb v1_1 rm) (
    bnd ((I_4 (77 + ix v4_3) (ix v1_1)) : Int32) (fun v5_6 =>
    chk (inb v5_6 rm) (
    if (I_4 70 (ix v5_6)) = (-1) then
    chk (inb v1_1 rm) (
    chk (inb v5_6 rm) (bnd (up2 I_4 70 (ix v5_6) ((I_4 70 (ix v1_1)) + 1)) (fun I_8 =>
    chk (inb v5_6 rm) (bnd (up2 I_8 74 (ix v5_6) v4_3) (fun I_9 =>
    chk (inb v3_2 rm) (bnd (up2 I_9 75 (ix v3_2) v5_6) (fun I_10 =>
    bnd (v3_2 + 1 : Int32) (fun v3_11 =>
    bnd (v4_3 + 1 : Int32) (fun v4_12 =>
    f_X4_reachFrom_5 rm v1_1 L n v3_11 v4_12 I_10)))))))))
    else
    bnd (v4_3 + 1 : Int32) (fun v4_7 =>
    f_X4_reachFrom_5 rm v1_1 L n v3_2 v4_7 I_4)))))
def f_X4_reachFrom (rm : Nat) (a1 : Int32) (a2 : Int32) (I : MI) (L : ML) : Option (Int32 × Mm) :=
  f_X4_reachFrom_5 rm a1 L FU a2 0 I
def f_X4_measure_95 (rm : Nat) (a1 : Nat) (k0 : Int32 → MI → ML → Option Mm) : Nat → Int32 → Int32 → MI → ML → Option Mm
  | 0, _, _, _, _ => none
  | n + 1, v3_19, v4_20, I_21, L_22 =>
    if v3_19 ≤ v4_20 then
    (k0 v3_19 I_21 L_22)
    else
    if (I_21 69 1) ≤ v4_20 then
    (k0 v3_19 I_21 L_22)
    else
    chk (inb v4_20 rm) (
    Option.bind (f_X4_reachFrom rm (I_21 75 (ix v4_20)) v3_19 I_21 L_22) (fun q_23 =>
    bnd (q_23.1 : Int32) (fun v3_24 =>
    bnd (v4_20 + 1 : Int32) (fun v4_25 =>
    f_X4_measure_95 rm a1 k0 n v3_24 v4_25 q_23.2.1 q_23.2.2))))
def f_X4_measure_55 (rm : Nat) (a1 : Nat) (L : ML) (k0 : MI → Option Mm) : Nat → Int32 → MI → Option Mm
  | 0, _, _ => none
  | n + 1, v3_12, I_13 =>
    if (I_13 69 1) ≤ v3_12 then
    (k0 I_13)
    else
    chk (inb v3_12 rm) (bnd (up2 I_13 70 (ix v3_12) (-1)) (fun I_14 =>
    bnd (v3_12 + 1 : Int32) (fun v3_15 =>
    f_X4_measure_55 rm a1 L k0 n v3_15 I_14)))
def f_X4_measure_17 (rm : Nat) (a1 : Nat) (v2_2 : Int32) (k0 : MI → ML → Option Mm) : Nat → Int32 → MI → ML → Option Mm
  | 0, _, _, _ => none
  | n + 1, v3_3, I_4, L_5 =>
    if v2_2 ≤ v3_3 then
    (k0 I_4 L_5)
    else
    chk (inb v3_3 6) (
    chk (inb (2 * v3_3) 12) (
    chk (inb ((2 * v3_3) + 1) 12) (
    Option.bind (f_X4_followMove rm (L_5 a1 (ix v3_3)) (77 + ix (2 * v3_3)) (77 + ix ((2 * v3_3) + 1)) I_4 L_5) (fun q_8 =>
    bnd (v3_3 + 1 : Int32) (fun v3_9 =>
    f_X4_measure_17 rm a1 v2_2 k0 n v3_9 q_8.1 q_8.2)))))
def f_X4_measure (rm : Nat) (a1 : Nat) (a2 : Int32) (I : MI) (L : ML) : Option Mm :=
  if (I 69 13) = 0 then
  bnd (up2 I 69 12 (2 * a2)) (fun I_1 =>
  f_X4_measure_17 rm a1 a2 (fun (I_10 : MI) (L_11 : ML) =>
  f_X4_measure_55 rm a1 L_11 (fun (I_16 : MI) =>
  chk (inb 0 rm) (bnd (up2 I_16 70 (ix 0) 0) (fun I_17 =>
  chk (inb 0 rm) (bnd (up2 I_17 75 (ix 0) 0) (fun I_18 =>
  f_X4_measure_95 rm a1 (fun (v3_26 : Int32) (I_27 : MI) (L_28 : ML) =>
  chk (inb (v3_26 - 1) rm) (
  chk (inb (I_27 75 (ix (v3_26 - 1))) rm) (
  bnd (up2 I_27 69 2 (I_27 70 (ix (I_27 75 (ix (v3_26 - 1)))))) (fun I_29 =>
  bnd (up2 I_29 69 13 1) (fun I_30 =>
  some (I_30, L_28)))))) FU 1 0 I_18 L_11))))) FU 0 I_10) FU 0 I_1 L)
  else
  some (I, L)
def f_X4_gatherKin_42 (rm : Nat) (a2 : Nat) (v3_7 : Int32) (v5_9 : Int32) (L : ML) (k0 : Int32 → MI → Option Mm) : Nat → Int32 → Int32 → MI → Option Mm
  | 0, _, _, _ => none
  | n + 1, v4_8, v6_10, I_11 =>
    if 6 ≤ v6_10 then
    (k0 v4_8 I_11)
    else
    if ((shr v3_7 v6_10) &&& 1) = 0 then
    bnd (v6_10 + 1 : Int32) (fun v6_21 =>
    f_X4_gatherKin_42 rm a2 v3_7 v5_9 L k0 n v4_8 v6_21 I_11)
    else
    chk (inb v5_9 rm) (
    chk (inb (I_11 75 (ix v5_9)) rm) (
    chk (inb v6_10 6) (
    Option.bind (f_X6_conjugate (L 72 (ix (I_11 75 (ix v5_9)))) (L a2 (ix v6_10)) (I_11 69 11)) (fun q_12 =>
    Option.bind (f_X4_find rm q_12 I_11 L) (fun q_13 =>
    if q_13 < 0 then
    bnd (v6_10 + 1 : Int32) (fun v6_14 =>
    f_X4_gatherKin_42 rm a2 v3_7 v5_9 L k0 n v4_8 v6_14 I_11)
    else
    chk (inb q_13 rm) (
    if (I_11 71 (ix q_13)) = (-1) then
    if (I_11 69 0) ≤ v4_8 then
    bnd (v6_10 + 1 : Int32) (fun v6_16 =>
    f_X4_gatherKin_42 rm a2 v3_7 v5_9 L k0 n v4_8 v6_16 I_11)
    else
    chk (inb q_13 rm) (bnd (up2 I_11 71 (ix q_13) (I_11 69 3)) (fun I_17 =>
    chk (inb v4_8 rm) (bnd (up2 I_17 75 (ix v4_8) q_13) (fun I_18 =>
    bnd (v4_8 + 1 : Int32) (fun v4_19 =>
    bnd (v6_10 + 1 : Int32) (fun v6_20 =>
    f_X4_gatherKin_42 rm a2 v3_7 v5_9 L k0 n v4_19 v6_20 I_18))))))
    else
    bnd (v6_10 + 1 : Int32) (fun v6_15 =>
    f_X4_gatherKin_42 rm a2 v3_7 v5_9 L k0 n v4_8 v6_15 I_11)))))))
def f_X4_gatherKin_23 (rm : Nat) (a2 : Nat) (v3_3 : Int32) (L : ML) : Nat → Int32 → Int32 → MI → Option Mm
  | 0, _, _, _ => none
  | n + 1, v4_4, v5_5, I_6 =>
    if v4_4 ≤ v5_5 then
    some (I_6, L)
    else
    if (I_6 69 1) ≤ v5_5 then
    some (I_6, L)
    else
    f_X4_gatherKin_42 rm a2 v3_3 v5_5 L (fun (v4_22 : Int32) (I_23 : MI) =>
    bnd (v5_5 + 1 : Int32) (fun v5_24 =>
    f_X4_gatherKin_23 rm a2 v3_3 L n v4_22 v5_24 I_23)) FU v4_4 0 I_6
def f_X4_gatherKin (rm : Nat) (a1 : Int32) (a2 : Nat) (a3 : Int32) (I : MI) (L : ML) : Option Mm :=
  chk (inb a1 rm) (bnd (up2 I 71 (ix a1) (I 69 3)) (fun I_1 =>
  chk (inb 0 rm) (bnd (up2 I_1 75 (ix 0) a1) (fun I_2 =>
  f_X4_gatherKin_23 rm a2 a3 L FU 1 0 I_2))))
def f_X4_sort_38 (rm : Nat) (a1 : Nat) (v2_8 : Int32) (k0 : MI → ML → Option Mm) : Nat → Int32 → MI → ML → Option Mm
  | 0, _, _, _ => none
  | n + 1, v3_9, I_10, L_11 =>
    if (I_10 69 1) ≤ v3_9 then
    (k0 I_10 L_11)
    else
    chk (inb v3_9 rm) (
    if (I_10 71 (ix v3_9)) = (-1) then
    Option.bind (f_X4_gatherKin rm v3_9 a1 v2_8 I_10 L_11) (fun q_13 =>
    bnd (up2 q_13.1 69 3 ((q_13.1 69 3) + 1)) (fun I_14 =>
    bnd (v3_9 + 1 : Int32) (fun v3_15 =>
    f_X4_sort_38 rm a1 v2_8 k0 n v3_15 I_14 q_13.2)))
    else
    bnd (v3_9 + 1 : Int32) (fun v3_12 =>
    f_X4_sort_38 rm a1 v2_8 k0 n v3_12 I_10 L_11))
def f_X4_sort_10 (rm : Nat) (a1 : Nat) (v2_1 : Int32) (L : ML) (k0 : MI → Option Mm) : Nat → Int32 → MI → Option Mm
  | 0, _, _ => none
  | n + 1, v3_2, I_3 =>
    if (I_3 69 1) ≤ v3_2 then
    (k0 I_3)
    else
    chk (inb v3_2 rm) (bnd (up2 I_3 71 (ix v3_2) (-1)) (fun I_4 =>
    bnd (v3_2 + 1 : Int32) (fun v3_5 =>
    f_X4_sort_10 rm a1 v2_1 L k0 n v3_5 I_4)))
def f_X4_sort (rm : Nat) (a1 : Nat) (a2 : Int32) (I : MI) (L : ML) : Option Mm :=
  if (I 69 14) = 0 then
  f_X4_sort_10 rm a1 a2 L (fun (I_6 : MI) =>
  bnd (up2 I_6 69 3 0) (fun I_7 =>
  f_X4_sort_38 rm a1 a2 (fun (I_16 : MI) (L_17 : ML) =>
  bnd (up2 I_16 69 14 1) (fun I_18 =>
  some (I_18, L_17))) FU 0 I_7 L)) FU 0 I
  else
  some (I, L)
def f_X4_shapeAll_10 (rm : Nat) (I : MI) (k0 : ML → Option Mm) : Nat → Int32 → ML → Option Mm
  | 0, _, _ => none
  | n + 1, v1_1, L_2 =>
    if (I 69 1) ≤ v1_1 then
    (k0 L_2)
    else
    chk (inb v1_1 rm) (
    Option.bind (f_X6_shape (L_2 72 (ix v1_1)) (I 69 11)) (fun q_3 =>
    chk (inb v1_1 rm) (bnd (up2 L_2 73 (ix v1_1) q_3) (fun L_4 =>
    bnd (v1_1 + 1 : Int32) (fun v1_5 =>
    f_X4_shapeAll_10 rm I k0 n v1_5 L_4)))))
def f_X4_shapeAll (rm : Nat) (I : MI) (L : ML) : Option Mm :=
  if (I 69 15) = 0 then
  f_X4_shapeAll_10 rm I (fun (L_6 : ML) =>
  bnd (up2 I 69 15 1) (fun I_7 =>
  some (I_7, L_6))) FU 0 L
  else
  some (I, L)
def f_X4_nextCentral_18 (rm : Nat) (a2 : Nat) (v3_3 : Int32) (v4_4 : Int32) (I : MI) (L : ML) (k0 : Int32 → Option Int32) : Nat → Int32 → Int32 → Option Int32
  | 0, _, _ => none
  | n + 1, v5_5, v6_6 =>
    if 6 ≤ v6_6 then
    (k0 v5_5)
    else
    if v5_5 = 0 then
    (k0 v5_5)
    else
    if ((shr v3_3 v6_6) &&& 1) = 0 then
    bnd (v6_6 + 1 : Int32) (fun v6_7 =>
    f_X4_nextCentral_18 rm a2 v3_3 v4_4 I L k0 n 1 v6_7)
    else
    chk (inb v4_4 rm) (
    chk (inb v6_6 6) (
    Option.bind (f_X6_commute (L 72 (ix v4_4)) (L a2 (ix v6_6)) (I 69 11)) (fun q_8 =>
    if (b2i q_8) = 0 then
    bnd (v6_6 + 1 : Int32) (fun v6_9 =>
    f_X4_nextCentral_18 rm a2 v3_3 v4_4 I L k0 n 0 v6_9)
    else
    bnd (v6_6 + 1 : Int32) (fun v6_10 =>
    f_X4_nextCentral_18 rm a2 v3_3 v4_4 I L k0 n 1 v6_10))))
def f_X4_nextCentral_3 (rm : Nat) (a2 : Nat) (v3_1 : Int32) (I : MI) (L : ML) : Nat → Int32 → Option Int32
  | 0, _ => none
  | n + 1, v4_2 =>
    if (I 69 1) ≤ v4_2 then
    some (-1)
    else
    f_X4_nextCentral_18 rm a2 v3_1 v4_2 I L (fun (v5_11 : Int32) =>
    if v5_11 = 0 then
    bnd (v4_2 + 1 : Int32) (fun v4_12 =>
    f_X4_nextCentral_3 rm a2 v3_1 I L n v4_12)
    else
    some v4_2) FU 1 0
def f_X4_nextCentral (rm : Nat) (a1 : Int32) (a2 : Nat) (a3 : Int32) (I : MI) (L : ML) : Option Int32 :=
  f_X4_nextCentral_3 rm a2 a3 I L FU a1
def f_X4_turnAt (rm : Nat) (a1 : Int32) (I : MI) (L : ML) : Option Int64 :=
  if a1 < 0 then
  some (-1)
  else
  if (I 69 1) ≤ a1 then
  some (-1)
  else
  chk (inb a1 rm) (
  some (L 72 (ix a1)))
def f_X4_countDeep_4 (rm : Nat) (v1_1 : Int32) (I : MI) (L : ML) : Nat → Int32 → Int32 → Option Int32
  | 0, _, _ => none
  | n + 1, v2_2, v3_3 =>
    if (I 69 1) ≤ v3_3 then
    some v2_2
    else
    chk (inb v3_3 rm) (
    if (I 70 (ix v3_3)) = v1_1 then
    bnd (v2_2 + 1 : Int32) (fun v2_5 =>
    bnd (v3_3 + 1 : Int32) (fun v3_6 =>
    f_X4_countDeep_4 rm v1_1 I L n v2_5 v3_6))
    else
    bnd (v3_3 + 1 : Int32) (fun v3_4 =>
    f_X4_countDeep_4 rm v1_1 I L n v2_2 v3_4))
def f_X4_countDeep (rm : Nat) (a1 : Int32) (I : MI) (L : ML) : Option Int32 :=
  f_X4_countDeep_4 rm a1 I L FU 0 0
def f_X4_firstDeep_2 (rm : Nat) (v1_1 : Int32) (I : MI) (L : ML) : Nat → Int32 → Option Int32
  | 0, _ => none
  | n + 1, v2_2 =>
    if (I 69 1) ≤ v2_2 then
    some (-1)
    else
    chk (inb v2_2 rm) (
    if (I 70 (ix v2_2)) = v1_1 then
    some v2_2
    else
    bnd (v2_2 + 1 : Int32) (fun v2_3 =>
    f_X4_firstDeep_2 rm v1_1 I L n v2_3))
def f_X4_firstDeep (rm : Nat) (a1 : Int32) (I : MI) (L : ML) : Option Int32 :=
  f_X4_firstDeep_2 rm a1 I L FU 0
def f_X4_sumOfDepths_4 (rm : Nat) (I : MI) (L : ML) : Nat → Int32 → Int32 → Option Int32
  | 0, _, _ => none
  | n + 1, v1_1, v2_2 =>
    if (I 69 1) ≤ v2_2 then
    some v1_1
    else
    chk (inb v2_2 rm) (
    bnd ((v1_1 + (I 70 (ix v2_2))) : Int32) (fun v1_3 =>
    bnd (v2_2 + 1 : Int32) (fun v2_4 =>
    f_X4_sumOfDepths_4 rm I L n v1_3 v2_4)))
def f_X4_sumOfDepths (rm : Nat) (I : MI) (L : ML) : Option Int32 :=
  f_X4_sumOfDepths_4 rm I L FU 0 0
def f_X4_stepsCloser_4 (rm : Nat) (v1_1 : Int32) (I : MI) (L : ML) : Nat → Int32 → Int32 → Option Int32
  | 0, _, _ => none
  | n + 1, v2_2, v3_3 =>
    if (I 69 12) ≤ v3_3 then
    some v2_2
    else
    chk (inb v3_3 12) (
    chk (inb v1_1 rm) (
    chk (inb (I (77 + ix v3_3) (ix v1_1)) rm) (
    chk (inb v1_1 rm) (
    if (I 70 (ix v1_1)) ≤ (I 70 (ix (I (77 + ix v3_3) (ix v1_1)))) then
    bnd (v3_3 + 1 : Int32) (fun v3_5 =>
    f_X4_stepsCloser_4 rm v1_1 I L n v2_2 v3_5)
    else
    bnd ((v2_2 ||| (shl 1 v3_3)) : Int32) (fun v2_6 =>
    bnd (v3_3 + 1 : Int32) (fun v3_7 =>
    f_X4_stepsCloser_4 rm v1_1 I L n v2_6 v3_7))))))
def f_X4_stepsCloser (rm : Nat) (a1 : Int32) (I : MI) (L : ML) : Option Int32 :=
  f_X4_stepsCloser_4 rm a1 I L FU 0 0
def f_X4_stepOfWay_12 (rm : Nat) (v2_2 : Int32) (I : MI) (L : ML) (k0 : Int32 → Option Int32) : Nat → Int32 → Int32 → Option Int32
  | 0, _, _ => none
  | n + 1, v3_3, v4_4 =>
    if v4_4 ≤ v2_2 then
    (k0 v3_3)
    else
    chk (inb v3_3 rm) (
    chk (inb ((I 74 (ix v3_3)) ^^^ 1) 12) (
    chk (inb v3_3 rm) (
    bnd ((I (77 + ix ((I 74 (ix v3_3)) ^^^ 1)) (ix v3_3)) : Int32) (fun v3_6 =>
    bnd (v4_4 + (-1) : Int32) (fun v4_7 =>
    f_X4_stepOfWay_12 rm v2_2 I L k0 n v3_6 v4_7)))))
def f_X4_stepOfWay (rm : Nat) (a1 : Int32) (a2 : Int32) (I : MI) (L : ML) : Option Int32 :=
  chk (inb a1 rm) (
  bnd (((I 70 (ix a1)) - 1) : Int32) (fun v4_1 =>
  f_X4_stepOfWay_12 rm a2 I L (fun (v3_8 : Int32) =>
  chk (inb v3_8 rm) (
  some (I 74 (ix v3_8)))) FU a1 v4_1))
def f_X4_countKin_4 (rm : Nat) (v1_1 : Int32) (I : MI) (L : ML) : Nat → Int32 → Int32 → Option Int32
  | 0, _, _ => none
  | n + 1, v2_2, v3_3 =>
    if (I 69 1) ≤ v3_3 then
    some v2_2
    else
    chk (inb v3_3 rm) (
    chk (inb v1_1 rm) (
    if (I 71 (ix v3_3)) = (I 71 (ix v1_1)) then
    bnd (v2_2 + 1 : Int32) (fun v2_5 =>
    bnd (v3_3 + 1 : Int32) (fun v3_6 =>
    f_X4_countKin_4 rm v1_1 I L n v2_5 v3_6))
    else
    bnd (v3_3 + 1 : Int32) (fun v3_4 =>
    f_X4_countKin_4 rm v1_1 I L n v2_2 v3_4)))
def f_X4_countKin (rm : Nat) (a1 : Int32) (I : MI) (L : ML) : Option Int32 :=
  f_X4_countKin_4 rm a1 I L FU 0 0
def f_X4_takesInto_3 (rm : Nat) (v1_1 : Int64) (v3_2 : Int32) (v4_3 : Int32) (I : MI) (L : ML) : Nat → Int32 → Option Bool
  | 0, _ => none
  | n + 1, v5_4 =>
    if (I 69 11) ≤ v5_4 then
    some true
    else
    if ((shr v3_2 v5_4) &&& 1) = 0 then
    bnd (v5_4 + 1 : Int32) (fun v5_5 =>
    f_X4_takesInto_3 rm v1_1 v3_2 v4_3 I L n v5_5)
    else
    Option.bind (f_X6_image v1_1 v5_4) (fun q_6 =>
    if ((shr v4_3 q_6) &&& 1) = 0 then
    some false
    else
    bnd (v5_4 + 1 : Int32) (fun v5_7 =>
    f_X4_takesInto_3 rm v1_1 v3_2 v4_3 I L n v5_7))
def f_X4_takesInto (rm : Nat) (a1 : Int64) (a3 : Int32) (a4 : Int32) (I : MI) (L : ML) : Option Bool :=
  f_X4_takesInto_3 rm a1 a3 a4 I L FU 0
def f_X4_countKeeping_4 (rm : Nat) (v1_1 : Int32) (I : MI) (L : ML) : Nat → Int32 → Int32 → Option Int32
  | 0, _, _ => none
  | n + 1, v2_2, v3_3 =>
    if (I 69 1) ≤ v3_3 then
    some v2_2
    else
    chk (inb v3_3 rm) (
    Option.bind (f_X4_takesInto rm (L 72 (ix v3_3)) v1_1 v1_1 I L) (fun q_4 =>
    if (b2i q_4) = 0 then
    bnd (v3_3 + 1 : Int32) (fun v3_5 =>
    f_X4_countKeeping_4 rm v1_1 I L n v2_2 v3_5)
    else
    bnd (v2_2 + 1 : Int32) (fun v2_6 =>
    bnd (v3_3 + 1 : Int32) (fun v3_7 =>
    f_X4_countKeeping_4 rm v1_1 I L n v2_6 v3_7))))
def f_X4_countKeeping (rm : Nat) (a1 : Int32) (I : MI) (L : ML) : Option Int32 :=
  f_X4_countKeeping_4 rm a1 I L FU 0 0
def f_X4_firstBringing_15 (rm : Nat) (v1_3 : Int32) (v2_4 : Int32) (I : MI) (L : ML) : Nat → Int32 → Option Int32
  | 0, _ => none
  | n + 1, v3_5 =>
    if (I 69 1) ≤ v3_5 then
    some (-1)
    else
    chk (inb v3_5 rm) (
    Option.bind (f_X4_takesInto rm (L 72 (ix v3_5)) v1_3 v2_4 I L) (fun q_6 =>
    if (b2i q_6) = 0 then
    bnd (v3_5 + 1 : Int32) (fun v3_7 =>
    f_X4_firstBringing_15 rm v1_3 v2_4 I L n v3_7)
    else
    some v3_5))
def f_X4_firstBringing (rm : Nat) (a1 : Int32) (a2 : Int32) (I : MI) (L : ML) : Option Int32 :=
  Option.bind (f_J6_bitCount_0f7a4 a1) (fun q_1 =>
  Option.bind (f_J6_bitCount_0f7a4 a2) (fun q_2 =>
  if q_1 = q_2 then
  f_X4_firstBringing_15 rm a1 a2 I L FU 0
  else
  some (-1)))
def f_X4_firstRoot_18 (rm : Nat) (v1_4 : Int64) (v3_5 : Int32) (v4_6 : Int32) (I : MI) (L : ML) (k0 : Int32 → Option Int32) : Nat → Int32 → Int32 → Option Int32
  | 0, _, _ => none
  | n + 1, v5_7, v6_8 =>
    if (I 69 11) ≤ v6_8 then
    (k0 v5_7)
    else
    if v5_7 = 0 then
    (k0 v5_7)
    else
    chk (inb v4_6 rm) (
    Option.bind (f_X6_imageOfPower (L 72 (ix v4_6)) v6_8 v3_5) (fun q_9 =>
    Option.bind (f_X6_image v1_4 v6_8) (fun q_10 =>
    if q_9 = q_10 then
    bnd (v6_8 + 1 : Int32) (fun v6_12 =>
    f_X4_firstRoot_18 rm v1_4 v3_5 v4_6 I L k0 n 1 v6_12)
    else
    bnd (v6_8 + 1 : Int32) (fun v6_11 =>
    f_X4_firstRoot_18 rm v1_4 v3_5 v4_6 I L k0 n 0 v6_11))))
def f_X4_firstRoot_3 (rm : Nat) (v1_1 : Int64) (v3_2 : Int32) (I : MI) (L : ML) : Nat → Int32 → Option Int32
  | 0, _ => none
  | n + 1, v4_3 =>
    if (I 69 1) ≤ v4_3 then
    some (-1)
    else
    f_X4_firstRoot_18 rm v1_1 v3_2 v4_3 I L (fun (v5_13 : Int32) =>
    if v5_13 = 0 then
    bnd (v4_3 + 1 : Int32) (fun v4_14 =>
    f_X4_firstRoot_3 rm v1_1 v3_2 I L n v4_14)
    else
    some v4_3) FU 1 0
def f_X4_firstRoot (rm : Nat) (a1 : Int64) (a3 : Int32) (I : MI) (L : ML) : Option Int32 :=
  f_X4_firstRoot_3 rm a1 a3 I L FU 0
def f_X4_countStaying_4 (rm : Nat) (v1_1 : Int32) (I : MI) (L : ML) : Nat → Int32 → Int32 → Option Int32
  | 0, _, _ => none
  | n + 1, v2_2, v3_3 =>
    if (I 69 1) ≤ v3_3 then
    some v2_2
    else
    chk (inb v3_3 rm) (
    Option.bind (f_X6_staying (L 73 (ix v3_3))) (fun q_4 =>
    if q_4 = v1_1 then
    bnd (v2_2 + 1 : Int32) (fun v2_6 =>
    bnd (v3_3 + 1 : Int32) (fun v3_7 =>
    f_X4_countStaying_4 rm v1_1 I L n v2_6 v3_7))
    else
    bnd (v3_3 + 1 : Int32) (fun v3_5 =>
    f_X4_countStaying_4 rm v1_1 I L n v2_2 v3_5)))
def f_X4_countStaying (rm : Nat) (a1 : Int32) (I : MI) (L : ML) : Option Int32 :=
  f_X4_countStaying_4 rm a1 I L FU 0 0
def f_X4_countShaped_5 (rm : Nat) (v1_1 : Int64) (I : MI) (L : ML) : Nat → Int32 → Int32 → Option Int32
  | 0, _, _ => none
  | n + 1, v3_2, v4_3 =>
    if (I 69 1) ≤ v4_3 then
    some v3_2
    else
    chk (inb v4_3 rm) (
    if (lg_cmp (L 73 (ix v4_3)) v1_1) = 0 then
    bnd (v3_2 + 1 : Int32) (fun v3_5 =>
    bnd (v4_3 + 1 : Int32) (fun v4_6 =>
    f_X4_countShaped_5 rm v1_1 I L n v3_5 v4_6))
    else
    bnd (v4_3 + 1 : Int32) (fun v4_4 =>
    f_X4_countShaped_5 rm v1_1 I L n v3_2 v4_4))
def f_X4_countShaped (rm : Nat) (a1 : Int64) (I : MI) (L : ML) : Option Int32 :=
  f_X4_countShaped_5 rm a1 I L FU 0 0
def f_X4_countPeriod_4 (rm : Nat) (v1_1 : Int32) (I : MI) (L : ML) : Nat → Int32 → Int32 → Option Int32
  | 0, _, _ => none
  | n + 1, v2_2, v3_3 =>
    if (I 69 1) ≤ v3_3 then
    some v2_2
    else
    chk (inb v3_3 rm) (
    Option.bind (f_X6_period (L 73 (ix v3_3))) (fun q_4 =>
    if q_4 = v1_1 then
    bnd (v2_2 + 1 : Int32) (fun v2_6 =>
    bnd (v3_3 + 1 : Int32) (fun v3_7 =>
    f_X4_countPeriod_4 rm v1_1 I L n v2_6 v3_7))
    else
    bnd (v3_3 + 1 : Int32) (fun v3_5 =>
    f_X4_countPeriod_4 rm v1_1 I L n v2_2 v3_5)))
def f_X4_countPeriod (rm : Nat) (a1 : Int32) (I : MI) (L : ML) : Option Int32 :=
  f_X4_countPeriod_4 rm a1 I L FU 0 0
def f_X4_fewestMoved_4 (rm : Nat) (I : MI) (L : ML) : Nat → Int32 → Int32 → Option Int32
  | 0, _, _ => none
  | n + 1, v1_1, v2_2 =>
    if (I 69 1) ≤ v2_2 then
    some v1_1
    else
    chk (inb v2_2 rm) (
    Option.bind (f_X6_staying (L 73 (ix v2_2))) (fun q_3 =>
    bnd (((I 69 11) - q_3) : Int32) (fun v3_4 =>
    if v3_4 ≤ 0 then
    bnd (v2_2 + 1 : Int32) (fun v2_5 =>
    f_X4_fewestMoved_4 rm I L n v1_1 v2_5)
    else
    if v1_1 = 0 then
    bnd (v2_2 + 1 : Int32) (fun v2_6 =>
    f_X4_fewestMoved_4 rm I L n v3_4 v2_6)
    else
    if v1_1 ≤ v3_4 then
    bnd (v2_2 + 1 : Int32) (fun v2_7 =>
    f_X4_fewestMoved_4 rm I L n v1_1 v2_7)
    else
    bnd (v2_2 + 1 : Int32) (fun v2_8 =>
    f_X4_fewestMoved_4 rm I L n v3_4 v2_8))))
def f_X4_fewestMoved (rm : Nat) (I : MI) (L : ML) : Option Int32 :=
  f_X4_fewestMoved_4 rm I L FU 0 0
def f_X4_countColourings_32 (rm : Nat) (v1_5 : Int32) (v2_6 : Int64) (v4_7 : Int32) (v7_9 : Int32) (I : MI) (L : ML) (k0 : Int64 → Option Int64) : Nat → Int64 → Int32 → Option Int64
  | 0, _, _ => none
  | n + 1, v5_8, v8_10 =>
    if v7_9 ≤ v8_10 then
    (k0 v5_8)
    else
    bnd ((v5_8 * (Int32.toInt64 v1_5)) : Int64) (fun v5_11 =>
    bnd (v8_10 + 1 : Int32) (fun v8_12 =>
    f_X4_countColourings_32 rm v1_5 v2_6 v4_7 v7_9 I L k0 n v5_11 v8_12))
def f_X4_countColourings_5 (rm : Nat) (v1_1 : Int32) (I : MI) (L : ML) (k0 : Int64 → Option Int64) : Nat → Int64 → Int32 → Option Int64
  | 0, _, _ => none
  | n + 1, v2_2, v4_3 =>
    if (I 69 1) ≤ v4_3 then
    (k0 v2_2)
    else
    chk (inb v4_3 rm) (
    Option.bind (f_X6_cycles (L 73 (ix v4_3))) (fun q_4 =>
    f_X4_countColourings_32 rm v1_1 v2_2 v4_3 q_4 I L (fun (v5_13 : Int64) =>
    bnd ((v2_2 + v5_13) : Int64) (fun v2_14 =>
    bnd (v4_3 + 1 : Int32) (fun v4_15 =>
    f_X4_countColourings_5 rm v1_1 I L k0 n v2_14 v4_15))) FU 1 0))
def f_X4_countColourings (rm : Nat) (a1 : Int32) (I : MI) (L : ML) : Option Int64 :=
  f_X4_countColourings_5 rm a1 I L (fun (v2_16 : Int64) =>
  if (I 69 1) ≤ 0 then
  some 0
  else
  chk (decide (((Int32.toInt64 (I 69 1)) : Int64) ≠ 0)) (
  some (v2_16 / (Int32.toInt64 (I 69 1))))) FU 0 0
