def f_X0_start_15 (cb : Nat) : Nat → Int32 → MI → ML → Option Mm
  | 0, _, _, _ => none
  | n + 1, v2_4, I_5, L_6 =>
    if (I_5 cb 0) ≤ v2_4 then
    some (I_5, L_6)
    else
    bnd (((v2_4 * 16) + v2_4) : Int32) (fun v3_7 =>
    chk (inb v2_4 10) (bnd (up2 I_5 (cb + 1) (ix v2_4) (shl 1 v2_4)) (fun I_8 =>
    chk (inb v3_7 160) (bnd (up2 L_6 (cb + 2) (ix v3_7) (L_6 cb 1)) (fun L_9 =>
    chk (inb v3_7 160) (bnd (up2 L_9 (cb + 3) (ix v3_7) (L_9 cb 1)) (fun L_10 =>
    chk (inb v3_7 160) (bnd (up2 I_8 (cb + 6) (ix v3_7) 0) (fun I_11 =>
    chk (inb v2_4 10) (bnd (up2 I_11 (cb + 5) (ix v2_4) 0) (fun I_12 =>
    bnd (v2_4 + 1 : Int32) (fun v2_13 =>
    f_X0_start_15 cb n v2_13 I_12 L_10))))))))))))
def f_X0_start (cb : Nat) (a1 : Int32) (I : MI) (L : ML) : Option Mm :=
  bnd (up2 I cb 0 a1) (fun I_1 =>
  Option.bind (f_X6_identity a1) (fun q_2 =>
  bnd (up2 L cb 1 q_2) (fun L_3 =>
  f_X0_start_15 cb FU 0 I_1 L_3)))
def f_X0_sift_6 (cb : Nat) (I : MI) (L : ML) : Nat → Int64 → Int32 → Option Int64
  | 0, _, _ => none
  | n + 1, v4_1, v6_2 =>
    if (I cb 0) ≤ v6_2 then
    some v4_1
    else
    if (lg_cmp v4_1 (L cb 1)) = 0 then
    some v4_1
    else
    Option.bind (f_X6_image v4_1 v6_2) (fun q_3 =>
    chk (inb v6_2 10) (
    if ((shr (I (cb + 1) (ix v6_2)) q_3) &&& 1) = 0 then
    some v4_1
    else
    if q_3 = v6_2 then
    bnd (v6_2 + 1 : Int32) (fun v6_4 =>
    f_X0_sift_6 cb I L n v4_1 v6_4)
    else
    chk (inb ((v6_2 * 16) + q_3) 160) (
    Option.bind (f_X6_compose v4_1 (L (cb + 3) (ix ((v6_2 * 16) + q_3))) (I cb 0)) (fun q_5 =>
    bnd (v6_2 + 1 : Int32) (fun v6_6 =>
    f_X0_sift_6 cb I L n q_5 v6_6)))))
def f_X0_sift (cb : Nat) (a1 : Int64) (a3 : Int32) (I : MI) (L : ML) : Option Int64 :=
  f_X0_sift_6 cb I L FU a1 a3
def f_X0_firstMoved_2 (cb : Nat) (v1_1 : Int64) (I : MI) (L : ML) : Nat → Int32 → Option Int32
  | 0, _ => none
  | n + 1, v3_2 =>
    if (I cb 0) ≤ v3_2 then
    some (I cb 0)
    else
    Option.bind (f_X6_image v1_1 v3_2) (fun q_3 =>
    if q_3 = v3_2 then
    bnd (v3_2 + 1 : Int32) (fun v3_4 =>
    f_X0_firstMoved_2 cb v1_1 I L n v3_4)
    else
    some v3_2)
def f_X0_firstMoved (cb : Nat) (a1 : Int64) (I : MI) (L : ML) : Option Int32 :=
  f_X0_firstMoved_2 cb a1 I L FU 0
def f_X0_insert_19 (cb : Nat) (v1_3 : Int64) (v4_4 : Int32) : Nat → Int32 → MI → ML → Option (Int32 × Mm)
  | 0, _, _, _ => none
  | n + 1, v5_5, I_6, L_7 =>
    if v4_4 < v5_5 then
    some (v4_4, I_6, L_7)
    else
    chk (inb v5_5 10) (
    if 16 ≤ (I_6 (cb + 5) (ix v5_5)) then
    bnd (v5_5 + 1 : Int32) (fun v5_8 =>
    f_X0_insert_19 cb v1_3 v4_4 n v5_8 I_6 L_7)
    else
    chk (inb v5_5 10) (
    chk (inb ((v5_5 * 16) + (I_6 (cb + 5) (ix v5_5))) 160) (bnd (up2 L_7 (cb + 4) (ix ((v5_5 * 16) + (I_6 (cb + 5) (ix v5_5)))) v1_3) (fun L_9 =>
    chk (inb v5_5 10) (
    chk (inb v5_5 10) (bnd (up2 I_6 (cb + 5) (ix v5_5) ((I_6 (cb + 5) (ix v5_5)) + 1)) (fun I_10 =>
    bnd (v5_5 + 1 : Int32) (fun v5_11 =>
    f_X0_insert_19 cb v1_3 v4_4 n v5_11 I_10 L_9))))))))
def f_X0_insert (cb : Nat) (a1 : Int64) (a3 : Int32) (I : MI) (L : ML) : Option (Int32 × Mm) :=
  Option.bind (f_X0_firstMoved cb a1 I L) (fun q_1 =>
  bnd ((imin q_1 ((I cb 0) - 1)) : Int32) (fun v4_2 =>
  f_X0_insert_19 cb a1 v4_2 FU a3 I L))
def f_X0_untried_2 (cb : Nat) (v1_1 : Int32) (I : MI) (L : ML) : Nat → Int32 → Option Int32
  | 0, _ => none
  | n + 1, v2_2 =>
    if (I cb 0) ≤ v2_2 then
    some (-1)
    else
    chk (inb v1_1 10) (
    if ((shr (I (cb + 1) (ix v1_1)) v2_2) &&& 1) = 0 then
    bnd (v2_2 + 1 : Int32) (fun v2_3 =>
    f_X0_untried_2 cb v1_1 I L n v2_3)
    else
    chk (inb ((v1_1 * 16) + v2_2) 160) (
    chk (inb v1_1 10) (
    if (I (cb + 5) (ix v1_1)) ≤ (I (cb + 6) (ix ((v1_1 * 16) + v2_2))) then
    bnd (v2_2 + 1 : Int32) (fun v2_4 =>
    f_X0_untried_2 cb v1_1 I L n v2_4)
    else
    some v2_2)))
def f_X0_untried (cb : Nat) (a1 : Int32) (I : MI) (L : ML) : Option Int32 :=
  f_X0_untried_2 cb a1 I L FU a1
def f_X0_tryMaker (cb : Nat) (a1 : Int32) (a2 : Int32) (I : MI) (L : ML) : Option (Int64 × Mm) :=
  bnd (((a1 * 16) + a2) : Int32) (fun v3_1 =>
  chk (inb v3_1 160) (
  chk (inb ((a1 * 16) + (I (cb + 6) (ix v3_1))) 160) (
  bnd ((L (cb + 4) (ix ((a1 * 16) + (I (cb + 6) (ix v3_1))))) : Int64) (fun v4_2 =>
  chk (inb v3_1 160) (
  chk (inb v3_1 160) (bnd (up2 I (cb + 6) (ix v3_1) ((I (cb + 6) (ix v3_1)) + 1)) (fun I_3 =>
  Option.bind (f_X6_image v4_2 a2) (fun q_4 =>
  bnd (((a1 * 16) + q_4) : Int32) (fun v7_5 =>
  chk (inb v3_1 160) (
  Option.bind (f_X6_compose (L (cb + 2) (ix v3_1)) v4_2 (I_3 cb 0)) (fun q_6 =>
  chk (inb a1 10) (
  if ((shr (I_3 (cb + 1) (ix a1)) q_4) &&& 1) = 0 then
  chk (inb a1 10) (
  chk (inb a1 10) (bnd (up2 I_3 (cb + 1) (ix a1) ((I_3 (cb + 1) (ix a1)) ||| (shl 1 q_4))) (fun I_9 =>
  chk (inb v7_5 160) (bnd (up2 L (cb + 2) (ix v7_5) q_6) (fun L_10 =>
  Option.bind (f_X6_invert q_6 (I_9 cb 0)) (fun q_11 =>
  chk (inb v7_5 160) (bnd (up2 L_10 (cb + 3) (ix v7_5) q_11) (fun L_12 =>
  chk (inb v7_5 160) (bnd (up2 I_9 (cb + 6) (ix v7_5) 0) (fun I_13 =>
  some ((L_12 cb 1), I_13, L_12)))))))))))
  else
  chk (inb v7_5 160) (
  if (lg_cmp q_6 (L (cb + 2) (ix v7_5))) = 0 then
  some ((L cb 1), I_3, L)
  else
  chk (inb v7_5 160) (
  Option.bind (f_X6_compose q_6 (L (cb + 3) (ix v7_5)) (I_3 cb 0)) (fun q_7 =>
  Option.bind (f_X0_sift cb q_7 (a1 + 1) I_3 L) (fun q_8 =>
  some (q_8, I_3, L)))))))))))))))))
def f_X0_grow_29 (cb : Nat) : Nat → Int32 → Int32 → MI → ML → Option (Bool × Mm)
  | 0, _, _, _, _ => none
  | n + 1, v5_4, v6_5, I_6, L_7 =>
    if 100000 ≤ v6_5 then
    some (true, I_6, L_7)
    else
    if v5_4 < 0 then
    some (true, I_6, L_7)
    else
    Option.bind (f_X0_untried cb v5_4 I_6 L_7) (fun q_8 =>
    if 0 ≤ q_8 then
    Option.bind (f_X0_tryMaker cb v5_4 q_8 I_6 L_7) (fun q_9 =>
    bnd (q_9.1 : Int64) (fun v3_10 =>
    if (lg_cmp v3_10 (q_9.2.2 cb 1)) = 0 then
    bnd (v6_5 + 1 : Int32) (fun v6_11 =>
    f_X0_grow_29 cb n v5_4 v6_11 q_9.2.1 q_9.2.2)
    else
    Option.bind (f_X0_insert cb v3_10 (v5_4 + 1) q_9.2.1 q_9.2.2) (fun q_12 =>
    bnd (q_12.1 : Int32) (fun v5_13 =>
    bnd (v6_5 + 1 : Int32) (fun v6_14 =>
    f_X0_grow_29 cb n v5_13 v6_14 q_12.2.1 q_12.2.2)))))
    else
    bnd (v5_4 + (-1) : Int32) (fun v5_15 =>
    bnd (v6_5 + 1 : Int32) (fun v6_16 =>
    f_X0_grow_29 cb n v5_15 v6_16 I_6 L_7)))
def f_X0_grow (cb : Nat) (a1 : Int64) (I : MI) (L : ML) : Option (Bool × Mm) :=
  Option.bind (f_X0_sift cb a1 0 I L) (fun q_1 =>
  if (lg_cmp q_1 (L cb 1)) = 0 then
  some (false, I, L)
  else
  Option.bind (f_X0_insert cb q_1 0 I L) (fun q_2 =>
  bnd (q_2.1 : Int32) (fun v5_3 =>
  f_X0_grow_29 cb FU v5_3 0 q_2.2.1 q_2.2.2)))
def f_X0_gather_11 (cb : Nat) (a1 : Nat) (v2_2 : Int32) : Nat → Int32 → Int32 → MI → ML → Option (Int32 × Mm)
  | 0, _, _, _, _ => none
  | n + 1, v4_3, v5_4, I_5, L_6 =>
    if 6 ≤ v5_4 then
    some (v4_3, I_5, L_6)
    else
    if ((shr v2_2 v5_4) &&& 1) = 0 then
    bnd (v5_4 + 1 : Int32) (fun v5_7 =>
    f_X0_gather_11 cb a1 v2_2 n v4_3 v5_7 I_5 L_6)
    else
    chk (inb v5_4 6) (
    Option.bind (f_X0_grow cb (L_6 a1 (ix v5_4)) I_5 L_6) (fun q_8 =>
    if (b2i q_8.1) = 0 then
    bnd (v5_4 + 1 : Int32) (fun v5_9 =>
    f_X0_gather_11 cb a1 v2_2 n v4_3 v5_9 q_8.2.1 q_8.2.2)
    else
    bnd ((v4_3 ||| (shl 1 v5_4)) : Int32) (fun v4_10 =>
    bnd (v5_4 + 1 : Int32) (fun v5_11 =>
    f_X0_gather_11 cb a1 v2_2 n v4_10 v5_11 q_8.2.1 q_8.2.2))))
def f_X0_gather (cb : Nat) (a1 : Nat) (a2 : Int32) (a3 : Int32) (I : MI) (L : ML) : Option (Int32 × Mm) :=
  Option.bind (f_X0_start cb a3 I L) (fun q_1 =>
  f_X0_gather_11 cb a1 a2 FU 0 0 q_1.1 q_1.2)
def f_X0_countMakers (cb : Nat) (I : MI) (L : ML) : Option Int32 :=
  chk (inb 0 10) (
  some (I (cb + 5) (ix 0)))
def f_X0_maker (cb : Nat) (a1 : Int32) (I : MI) (L : ML) : Option Int64 :=
  if a1 < 0 then
  some (L cb 1)
  else
  if 16 ≤ a1 then
  some (L cb 1)
  else
  chk (inb a1 160) (
  some (L (cb + 4) (ix a1)))
def f_X0_sizeFrom_4 (cb : Nat) (I : MI) (L : ML) : Nat → Int32 → Int32 → Option Int32
  | 0, _, _ => none
  | n + 1, v2_1, v3_2 =>
    if (I cb 0) ≤ v3_2 then
    some v2_1
    else
    chk (inb v3_2 10) (
    Option.bind (f_J6_bitCount_0f7a4 (I (cb + 1) (ix v3_2))) (fun q_3 =>
    bnd ((v2_1 * q_3) : Int32) (fun v2_4 =>
    bnd (v3_2 + 1 : Int32) (fun v3_5 =>
    f_X0_sizeFrom_4 cb I L n v2_4 v3_5))))
def f_X0_sizeFrom (cb : Nat) (a1 : Int32) (I : MI) (L : ML) : Option Int32 :=
  f_X0_sizeFrom_4 cb I L FU 1 a1
def f_X0_size (cb : Nat) (I : MI) (L : ML) : Option Int32 :=
  Option.bind (f_X0_sizeFrom cb 0 I L) (fun q_1 =>
  some q_1)
def f_X0_contains (cb : Nat) (a1 : Int64) (I : MI) (L : ML) : Option Bool :=
  Option.bind (f_X0_sift cb a1 0 I L) (fun q_1 =>
  if (lg_cmp q_1 (L cb 1)) = 0 then
  some true
  else
  some false)
def f_X0_follow (cb : Nat) (a1 : Int64) (I : MI) (L : ML) : Option Int32 :=
  Option.bind (f_X0_sift cb a1 0 I L) (fun q_1 =>
  Option.bind (f_X0_firstMoved cb q_1 I L) (fun q_2 =>
  some q_2))
def f_X0_reachedAt (cb : Nat) (a1 : Int32) (I : MI) (L : ML) : Option Int32 :=
  if a1 < 0 then
  some 0
  else
  if (I cb 0) ≤ a1 then
  some 0
  else
  chk (inb a1 10) (
  some (I (cb + 1) (ix a1)))
def f_X0_countHeld_4 (cb : Nat) (I : MI) (L : ML) : Nat → Int32 → Int32 → Option Int32
  | 0, _, _ => none
  | n + 1, v1_1, v2_2 =>
    if (I cb 0) ≤ v2_2 then
    some v1_1
    else
    chk (inb v2_2 10) (
    Option.bind (f_J6_bitCount_0f7a4 (I (cb + 1) (ix v2_2))) (fun q_3 =>
    if q_3 ≤ 1 then
    bnd (v2_2 + 1 : Int32) (fun v2_4 =>
    f_X0_countHeld_4 cb I L n v1_1 v2_4)
    else
    bnd (v1_1 + 1 : Int32) (fun v1_5 =>
    bnd (v2_2 + 1 : Int32) (fun v2_6 =>
    f_X0_countHeld_4 cb I L n v1_5 v2_6))))
def f_X0_countHeld (cb : Nat) (I : MI) (L : ML) : Option Int32 :=
  f_X0_countHeld_4 cb I L FU 0 0
def f_X0_heldPoint_4 (cb : Nat) (v1_1 : Int32) (I : MI) (L : ML) : Nat → Int32 → Int32 → Option Int32
  | 0, _, _ => none
  | n + 1, v2_2, v3_3 =>
    if (I cb 0) ≤ v3_3 then
    some (-1)
    else
    chk (inb v3_3 10) (
    Option.bind (f_J6_bitCount_0f7a4 (I (cb + 1) (ix v3_3))) (fun q_4 =>
    if q_4 ≤ 1 then
    bnd (v3_3 + 1 : Int32) (fun v3_5 =>
    f_X0_heldPoint_4 cb v1_1 I L n v2_2 v3_5)
    else
    if v2_2 = v1_1 then
    some v3_3
    else
    bnd (v2_2 + 1 : Int32) (fun v2_6 =>
    bnd (v3_3 + 1 : Int32) (fun v3_7 =>
    f_X0_heldPoint_4 cb v1_1 I L n v2_6 v3_7))))
def f_X0_heldPoint (cb : Nat) (a1 : Int32) (I : MI) (L : ML) : Option Int32 :=
  f_X0_heldPoint_4 cb a1 I L FU 0 0
def f_X0_countFree_2 (cb : Nat) (I : MI) (L : ML) : Nat → Int32 → Option Int32
  | 0, _ => none
  | n + 1, v1_1 =>
    if (I cb 0) ≤ v1_1 then
    some v1_1
    else
    chk (inb v1_1 10) (
    Option.bind (f_J6_bitCount_0f7a4 (I (cb + 1) (ix v1_1))) (fun q_2 =>
    if q_2 = ((I cb 0) - v1_1) then
    bnd (v1_1 + 1 : Int32) (fun v1_3 =>
    f_X0_countFree_2 cb I L n v1_3)
    else
    some v1_1))
def f_X0_countFree (cb : Nat) (I : MI) (L : ML) : Option Int32 :=
  f_X0_countFree_2 cb I L FU 0
def f_X0_carrier (cb : Nat) (a1 : Int32) (a2 : Int32) (I : MI) (L : ML) : Option Int64 :=
  chk (inb ((a1 * 16) + a2) 160) (
  some (L (cb + 2) (ix ((a1 * 16) + a2))))
def f_X0_sourceOf_16 (cb : Nat) (v1_2 : Int32) (v4_3 : Int32) (v5_4 : Int64) (I : MI) (L : ML) : Nat → Int32 → Int32 → Option Int32
  | 0, _, _ => none
  | n + 1, v7_5, v8_6 =>
    if (I cb 0) ≤ v8_6 then
    some v1_2
    else
    Option.bind (f_X6_image v5_4 v8_6) (fun q_7 =>
    chk (inb v1_2 10) (
    if ((shr (I (cb + 1) (ix v1_2)) q_7) &&& 1) = 0 then
    bnd (v8_6 + 1 : Int32) (fun v8_8 =>
    f_X0_sourceOf_16 cb v1_2 v4_3 v5_4 I L n v7_5 v8_8)
    else
    if v7_5 = v4_3 then
    some q_7
    else
    bnd (v7_5 + 1 : Int32) (fun v7_9 =>
    bnd (v8_6 + 1 : Int32) (fun v8_10 =>
    f_X0_sourceOf_16 cb v1_2 v4_3 v5_4 I L n v7_9 v8_10))))
def f_X0_sourceOf (cb : Nat) (a1 : Int32) (a2 : Int64) (a4 : Int32) (I : MI) (L : ML) : Option Int32 :=
  Option.bind (f_X6_invert a2 (I cb 0)) (fun q_1 =>
  f_X0_sourceOf_16 cb a1 a4 q_1 I L FU 0 0)
def f_X0_pick_11 (cb : Nat) (I : MI) (L : ML) : Nat → Int64 → Int32 → Int32 → Option Int64
  | 0, _, _, _ => none
  | n + 1, v2_2, v4_3, v5_4 =>
    if (I cb 0) ≤ v5_4 then
    some v2_2
    else
    Option.bind (f_X0_sizeFrom cb (v5_4 + 1) I L) (fun q_5 =>
    if q_5 ≤ 0 then
    bnd (v5_4 + 1 : Int32) (fun v5_6 =>
    f_X0_pick_11 cb I L n v2_2 v4_3 v5_6)
    else
    chk (inb v5_4 10) (
    Option.bind (f_J6_bitCount_0f7a4 (I (cb + 1) (ix v5_4))) (fun q_7 =>
    if q_7 ≤ 1 then
    bnd (v5_4 + 1 : Int32) (fun v5_8 =>
    f_X0_pick_11 cb I L n v2_2 v4_3 v5_8)
    else
    chk (decide ((q_5 : Int32) ≠ 0)) (
    Option.bind (f_X0_sourceOf cb v5_4 v2_2 (v4_3 / q_5) I L) (fun q_9 =>
    chk (decide ((q_5 : Int32) ≠ 0)) (
    bnd ((irem v4_3 q_5) : Int32) (fun v4_10 =>
    chk (inb ((v5_4 * 16) + q_9) 160) (
    Option.bind (f_X6_compose (L (cb + 2) (ix ((v5_4 * 16) + q_9))) v2_2 (I cb 0)) (fun q_11 =>
    bnd (v5_4 + 1 : Int32) (fun v5_12 =>
    f_X0_pick_11 cb I L n q_11 v4_10 v5_12))))))))))
def f_X0_pick (cb : Nat) (a1 : Int32) (I : MI) (L : ML) : Option Int64 :=
  bnd ((L cb 1) : Int64) (fun v2_1 =>
  f_X0_pick_11 cb I L FU v2_1 a1 0)
def f_X0_countSources_6 (cb : Nat) (v1_1 : Int32) (v2_2 : Int64) (v4_3 : Int32) (I : MI) (L : ML) : Nat → Int32 → Int32 → Option Int32
  | 0, _, _ => none
  | n + 1, v5_4, v6_5 =>
    if v4_3 ≤ v6_5 then
    some v5_4
    else
    chk (inb v1_1 10) (
    Option.bind (f_X6_image v2_2 v6_5) (fun q_6 =>
    bnd ((v5_4 + ((shr (I (cb + 1) (ix v1_1)) q_6) &&& 1)) : Int32) (fun v5_7 =>
    bnd (v6_5 + 1 : Int32) (fun v6_8 =>
    f_X0_countSources_6 cb v1_1 v2_2 v4_3 I L n v5_7 v6_8))))
def f_X0_countSources (cb : Nat) (a1 : Int32) (a2 : Int64) (a4 : Int32) (I : MI) (L : ML) : Option Int32 :=
  f_X0_countSources_6 cb a1 a2 a4 I L FU 0 0
def f_X0_placeOf_11 (cb : Nat) (v1_2 : Int64) (I : MI) (L : ML) : Nat → Int64 → Int32 → Int32 → Option Int32
  | 0, _, _, _ => none
  | n + 1, v3_3, v5_4, v6_5 =>
    if (I cb 0) ≤ v6_5 then
    some v5_4
    else
    Option.bind (f_X6_image v1_2 v6_5) (fun q_6 =>
    Option.bind (f_X6_invert v3_3 (I cb 0)) (fun q_7 =>
    Option.bind (f_X6_image q_7 q_6) (fun q_8 =>
    chk (inb v6_5 10) (
    if ((shr (I (cb + 1) (ix v6_5)) q_8) &&& 1) = 0 then
    some (-1)
    else
    Option.bind (f_X0_countSources cb v6_5 q_7 q_6 I L) (fun q_9 =>
    Option.bind (f_X0_sizeFrom cb (v6_5 + 1) I L) (fun q_10 =>
    bnd ((v5_4 + (q_9 * q_10)) : Int32) (fun v5_11 =>
    chk (inb ((v6_5 * 16) + q_8) 160) (
    Option.bind (f_X6_compose (L (cb + 2) (ix ((v6_5 * 16) + q_8))) v3_3 (I cb 0)) (fun q_12 =>
    bnd (v6_5 + 1 : Int32) (fun v6_13 =>
    f_X0_placeOf_11 cb v1_2 I L n q_12 v5_11 v6_13))))))))))
def f_X0_placeOf (cb : Nat) (a1 : Int64) (I : MI) (L : ML) : Option Int32 :=
  bnd ((L cb 1) : Int64) (fun v3_1 =>
  f_X0_placeOf_11 cb a1 I L FU v3_1 0 0)
