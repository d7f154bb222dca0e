def f_X1_forget (db : Nat) (I : MI) (L : ML) : Option Mm :=
  bnd (up2 I db 4 0) (fun I_1 =>
  some (I_1, L))
def f_X1_takeMakers_18 (db : Nat) (c1 : Nat) (I : MI) : Nat → Int32 → ML → Option Mm
  | 0, _, _ => none
  | n + 1, v2_3, L_4 =>
    if (I db 2) ≤ v2_3 then
    some (I, L_4)
    else
    Option.bind (f_X0_maker c1 v2_3 I L_4) (fun q_5 =>
    chk (inb v2_3 16) (bnd (up2 L_4 (db + 2) (ix v2_3) q_5) (fun L_6 =>
    bnd (v2_3 + 1 : Int32) (fun v2_7 =>
    f_X1_takeMakers_18 db c1 I n v2_7 L_6))))
def f_X1_takeMakers (db : Nat) (c1 : Nat) (I : MI) (L : ML) : Option Mm :=
  Option.bind (f_X0_countMakers c1 I L) (fun q_1 =>
  bnd (up2 I db 2 (imin q_1 16)) (fun I_2 =>
  f_X1_takeMakers_18 db c1 I_2 FU 0 L))
def f_X1_descend_44 (db : Nat) (c1 : Nat) (c2 : Nat) (a3 : Bool) (v4_10 : Int32) (v5_11 : Int32) (v6_12 : Int32) (k0 : MI → ML → Option Mm) : Nat → Int32 → MI → ML → Option Mm
  | 0, _, _, _ => none
  | n + 1, v7_13, I_14, L_15 =>
    if v5_11 ≤ v7_13 then
    (k0 I_14 L_15)
    else
    bnd ((fun (s0_17 : Int64) =>
    chk (inb v6_12 16) (
    Option.bind (f_X6_commutatorOf (L_15 (db + 2) (ix v6_12)) s0_17 v4_10) (fun q_18 =>
    Option.bind (f_X0_grow c2 q_18 I_14 L_15) (fun q_19 =>
    bnd (v7_13 + 1 : Int32) (fun v7_20 =>
    f_X1_descend_44 db c1 c2 a3 v4_10 v5_11 v6_12 k0 n v7_20 q_19.2.1 q_19.2.2))))) : Int64 → Option Mm) (fun j71_61 =>
    if (b2i a3) = 0 then
    chk (inb v7_13 16) (
    (j71_61 (L_15 (db + 2) (ix v7_13))))
    else
    Option.bind (f_X0_maker c1 v7_13 I_14 L_15) (fun q_16 =>
    (j71_61 q_16)))
def f_X1_descend_126 (db : Nat) (c1 : Nat) (c2 : Nat) (a3 : Bool) (v4_32 : Int32) (v5_33 : Int32) (v6_34 : Int32) (k0 : MI → ML → Option Mm) : Nat → Int32 → MI → ML → Option Mm
  | 0, _, _, _ => none
  | n + 1, v7_35, I_36, L_37 =>
    if v5_33 ≤ v7_35 then
    (k0 I_36 L_37)
    else
    bnd ((fun (s0_39 : Int64) =>
    Option.bind (f_X0_maker c2 v6_34 I_36 L_37) (fun q_40 =>
    Option.bind (f_X6_conjugate q_40 s0_39 v4_32) (fun q_41 =>
    Option.bind (f_X0_grow c2 q_41 I_36 L_37) (fun q_42 =>
    bnd (v7_35 + 1 : Int32) (fun v7_43 =>
    f_X1_descend_126 db c1 c2 a3 v4_32 v5_33 v6_34 k0 n v7_43 q_42.2.1 q_42.2.2))))) : Int64 → Option Mm) (fun j153_65 =>
    if (b2i a3) = 0 then
    chk (inb v7_35 16) (
    (j153_65 (L_37 (db + 2) (ix v7_35))))
    else
    Option.bind (f_X0_maker c1 v7_35 I_36 L_37) (fun q_38 =>
    (j153_65 q_38)))
def f_X1_descend_107 (db : Nat) (c1 : Nat) (c2 : Nat) (a3 : Bool) (v4_26 : Int32) (v5_27 : Int32) : Nat → Int32 → MI → ML → Option Mm
  | 0, _, _, _ => none
  | n + 1, v6_28, I_29, L_30 =>
    Option.bind (f_X0_countMakers c2 I_29 L_30) (fun q_31 =>
    if q_31 ≤ v6_28 then
    some (I_29, L_30)
    else
    if 16 ≤ v6_28 then
    some (I_29, L_30)
    else
    f_X1_descend_126 db c1 c2 a3 v4_26 v5_27 v6_28 (fun (I_44 : MI) (L_45 : ML) =>
    bnd (v6_28 + 1 : Int32) (fun v6_46 =>
    f_X1_descend_107 db c1 c2 a3 v4_26 v5_27 n v6_46 I_44 L_45)) FU 0 I_29 L_30)
def f_X1_descend_32 (db : Nat) (c1 : Nat) (c2 : Nat) (a3 : Bool) (v4_5 : Int32) (v5_6 : Int32) (k0 : MI → ML → Option Mm) : Nat → Int32 → MI → ML → Option Mm
  | 0, _, _, _ => none
  | n + 1, v6_7, I_8, L_9 =>
    if (I_8 db 2) ≤ v6_7 then
    (k0 I_8 L_9)
    else
    f_X1_descend_44 db c1 c2 a3 v4_5 v5_6 v6_7 (fun (I_21 : MI) (L_22 : ML) =>
    bnd (v6_7 + 1 : Int32) (fun v6_23 =>
    f_X1_descend_32 db c1 c2 a3 v4_5 v5_6 k0 n v6_23 I_21 L_22)) FU 0 I_8 L_9
def f_X1_descend (db : Nat) (c1 : Nat) (c2 : Nat) (a3 : Bool) (I : MI) (L : ML) : Option Mm :=
  bnd ((I c1 0) : Int32) (fun v4_1 =>
  bnd ((fun (s0_3 : Int32) =>
  Option.bind (f_X0_start c2 v4_1 I L) (fun q_4 =>
  f_X1_descend_32 db c1 c2 a3 v4_1 s0_3 (fun (I_24 : MI) (L_25 : ML) =>
  f_X1_descend_107 db c1 c2 a3 v4_1 s0_3 FU 0 I_24 L_25) FU 0 q_4.1 q_4.2)) : Int32 → Option Mm) (fun j21_56 =>
  if (b2i a3) = 0 then
  (j21_56 (I db 2))
  else
  Option.bind (f_X0_countMakers c1 I L) (fun q_2 =>
  (j21_56 q_2))))
def f_X1_know_31 (db : Nat) (c1 : Nat) (c2 : Nat) (a3 : Bool) (k0 : MI → ML → Option Mm) : Nat → Int32 → MI → ML → Option Mm
  | 0, _, _, _ => none
  | n + 1, v4_5, I_6, L_7 =>
    if v4_5 = 0 then
    (k0 I_6 L_7)
    else
    if 32 ≤ (I_6 db 3) then
    (k0 I_6 L_7)
    else
    Option.bind (f_X1_descend db c1 c2 a3 I_6 L_7) (fun q_8 =>
    Option.bind (f_X1_takeMakers db c2 q_8.1 q_8.2) (fun q_9 =>
    Option.bind (f_X0_size c2 q_9.1 q_9.2) (fun q_10 =>
    chk (inb (q_9.1 db 3) 32) (bnd (up2 q_9.1 (db + 1) (ix (q_9.1 db 3)) q_10) (fun I_11 =>
    chk (inb (I_11 db 3) 32) (
    chk (inb ((I_11 db 3) - 1) 32) (
    bnd ((fun (s0_12 : Bool) =>
    bnd ((b2i s0_12) : Int32) (fun v4_13 =>
    if v4_13 = 0 then
    bnd (up2 I_11 db 3 ((I_11 db 3) + 0)) (fun I_14 =>
    f_X1_know_31 db c1 c2 a3 k0 n v4_13 I_14 q_9.2)
    else
    bnd (up2 I_11 db 3 ((I_11 db 3) + 1)) (fun I_15 =>
    f_X1_know_31 db c1 c2 a3 k0 n v4_13 I_15 q_9.2))) : Bool → Option Mm) (fun j101_68 =>
    if (I_11 (db + 1) (ix ((I_11 db 3) - 1))) ≤ (I_11 (db + 1) (ix (I_11 db 3))) then
    (j101_68 false)
    else
    (j101_68 true)))))))))
def f_X1_know (db : Nat) (c1 : Nat) (c2 : Nat) (a3 : Bool) (I : MI) (L : ML) : Option Mm :=
  if (I db 4) = 0 then
  Option.bind (f_X1_takeMakers db c1 I L) (fun q_1 =>
  Option.bind (f_X0_size c1 q_1.1 q_1.2) (fun q_2 =>
  chk (inb 0 32) (bnd (up2 q_1.1 (db + 1) (ix 0) q_2) (fun I_3 =>
  bnd (up2 I_3 db 3 1) (fun I_4 =>
  f_X1_know_31 db c1 c2 a3 (fun (I_16 : MI) (L_17 : ML) =>
  bnd (up2 I_16 db 4 1) (fun I_18 =>
  some (I_18, L_17))) FU 1 I_4 q_1.2)))))
  else
  some (I, L)
def f_X1_sizeAt (db : Nat) (a1 : Int32) (I : MI) (L : ML) : Option Int32 :=
  if a1 < 0 then
  some 0
  else
  if (I db 3) ≤ a1 then
  some 0
  else
  chk (inb a1 32) (
  some (I (db + 1) (ix a1)))
def f_X1_endsAtHome (db : Nat) (I : MI) (L : ML) : Option Bool :=
  Option.bind (f_X1_sizeAt db ((I db 3) - 1) I L) (fun q_1 =>
  if q_1 = 1 then
  some true
  else
  some false)
def f_X3_forget (I : MI) (L : ML) : Option Mm :=
  bnd (up2 I 37 0 0) (fun I_1 =>
  some (I_1, L))
def f_X3_loseOldest (I : MI) (L : ML) : Option Mm :=
  chk (acok 1 0 11 12 12) (bnd (acopy L 39 39 1 0 11) (fun L_1 =>
  chk (acok 1 0 11 12 12) (bnd (acopy I 40 40 1 0 11) (fun I_2 =>
  chk (acok 6 0 66 72 72) (bnd (acopy L_1 41 41 6 0 66) (fun L_3 =>
  bnd (up2 I_2 37 0 11) (fun I_4 =>
  some (I_4, L_3))))))))
def f_X3_keep_37 (a3 : Nat) (I : MI) (k0 : ML → Option Mm) : Nat → Int32 → ML → Option Mm
  | 0, _, _ => none
  | n + 1, v5_6, L_7 =>
    if 6 ≤ v5_6 then
    (k0 L_7)
    else
    if 6 ≤ v5_6 then
    (k0 L_7)
    else
    chk (inb v5_6 6) (
    chk (inb (((I 37 0) * 6) + v5_6) 72) (bnd (up2 L_7 41 (ix (((I 37 0) * 6) + v5_6)) (L_7 a3 (ix v5_6))) (fun L_8 =>
    bnd (v5_6 + 1 : Int32) (fun v5_9 =>
    f_X3_keep_37 a3 I k0 n v5_9 L_8))))
def f_X3_keep (a1 : Int64) (a3 : Nat) (a4 : Int32) (I : MI) (L : ML) : Option Mm :=
  bnd ((fun (I_2 : MI) (L_3 : ML) =>
  chk (inb (I_2 37 0) 12) (bnd (up2 L_3 39 (ix (I_2 37 0)) a1) (fun L_4 =>
  chk (inb (I_2 37 0) 12) (bnd (up2 I_2 40 (ix (I_2 37 0)) a4) (fun I_5 =>
  f_X3_keep_37 a3 I_5 (fun (L_10 : ML) =>
  bnd (up2 I_5 37 0 ((I_5 37 0) + 1)) (fun I_11 =>
  some (I_11, L_10))) FU 0 L_4))))) : MI → ML → Option Mm) (fun j13_69 =>
  if (I 37 0) < 12 then
  (j13_69 I L)
  else
  Option.bind (f_X3_loseOldest I L) (fun q_1 =>
  (j13_69 q_1.1 q_1.2)))
def f_X3_goBack_46 (I : MI) : Nat → Int32 → ML → Option Mm
  | 0, _, _ => none
  | n + 1, v1_4, L_5 =>
    if 6 ≤ v1_4 then
    some (I, L_5)
    else
    chk (inb (((I 37 0) * 6) + v1_4) 72) (
    chk (inb v1_4 6) (bnd (up2 L_5 38 (ix v1_4) (L_5 41 (ix (((I 37 0) * 6) + v1_4)))) (fun L_6 =>
    bnd (v1_4 + 1 : Int32) (fun v1_7 =>
    f_X3_goBack_46 I n v1_7 L_6))))
def f_X3_goBack (I : MI) (L : ML) : Option Mm :=
  if 0 < (I 37 0) then
  bnd (up2 I 37 0 ((I 37 0) - 1)) (fun I_1 =>
  chk (inb (I_1 37 0) 12) (
  bnd (up2 L 37 1 (L 39 (ix (I_1 37 0)))) (fun L_2 =>
  chk (inb (I_1 37 0) 12) (
  bnd (up2 I_1 37 2 (I_1 40 (ix (I_1 37 0)))) (fun I_3 =>
  f_X3_goBack_46 I_3 FU 0 L_2)))))
  else
  some (I, L)
