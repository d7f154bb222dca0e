def f_X7_status (I : MI) (L : ML) : Option Int32 :=
  some (I 0 6)
def f_X7_feed (a1 : Int32) (a2 : Int32) (a3 : Int32) (a4 : Int32) (a5 : Int32) (I : MI) (L : ML) : Option (Int32 × Mm) :=
  Option.bind (f_X5_hasRoom 20 I L) (fun q_1 =>
  if (b2i q_1) = 0 then
  some ((-1), I, L)
  else
  Option.bind (f_X5_append a1 I L) (fun q_2 =>
  Option.bind (f_X5_append a2 q_2.1 q_2.2) (fun q_3 =>
  Option.bind (f_X5_append a3 q_3.1 q_3.2) (fun q_4 =>
  Option.bind (f_X5_append a4 q_4.1 q_4.2) (fun q_5 =>
  Option.bind (f_X5_append a5 q_5.1 q_5.2) (fun q_6 =>
  some ((q_6.1 1 1), q_6.1, q_6.2)))))))
def f_X7_refuse (a1 : Int32) (I : MI) (L : ML) : Option (Int32 × Mm) :=
  bnd (up2 I 0 6 a1) (fun I_1 =>
  some ((-1), I_1, L))
def f_X7_tell (a1 : Int32) (I : MI) (L : ML) : Option (Int32 × Mm) :=
  bnd (up2 I 0 6 0) (fun I_1 =>
  some (a1, I_1, L))
def f_X7_load (a1 : Int32) (I : MI) (L : ML) : Option (Int32 × Mm) :=
  if a1 < 0 then
  Option.bind (f_X7_refuse 1 I L) (fun q_1 =>
  some (q_1.1, q_1.2.1, q_1.2.2))
  else
  if a1 ≤ (I 1 1) then
  Option.bind (f_X5_parse a1 I L) (fun q_2 =>
  if (b2i q_2.1) = 0 then
  Option.bind (f_X7_refuse 9 q_2.2.1 q_2.2.2) (fun q_8 =>
  some (q_8.1, q_8.2.1, q_8.2.2))
  else
  Option.bind (f_X2_become (q_2.2.1 1 7) 3 (q_2.2.1 1 8) q_2.2.1 q_2.2.2) (fun q_3 =>
  Option.bind (f_X6_identity (q_3.1 1 7)) (fun q_4 =>
  bnd (up2 q_3.2 0 5 q_4) (fun L_5 =>
  Option.bind (f_X3_forget q_3.1 L_5) (fun q_6 =>
  Option.bind (f_X7_tell (q_6.1 1 8) q_6.1 q_6.2) (fun q_7 =>
  some (q_7.1, q_7.2.1, q_7.2.2)))))))
  else
  Option.bind (f_X7_refuse 1 I L) (fun q_9 =>
  some (q_9.1, q_9.2.1, q_9.2.2))
def f_X7_fault (a1 : Int32) (I : MI) (L : ML) : Option Int32 :=
  if a1 = 0 then
  some (I 1 14)
  else
  if a1 = 1 then
  some (I 1 15)
  else
  some (-1)
def f_X7_isHome (a1 : Int64) (I : MI) (L : ML) : Option Bool :=
  Option.bind (f_X6_identity (I 6 0)) (fun q_1 =>
  if (lg_cmp a1 q_1) = 0 then
  some true
  else
  some false)
def f_X7_many (a1 : Int32) (I : MI) (L : ML) : Option (Int32 × Mm) :=
  if a1 = 0 then
  Option.bind (f_X7_tell (I 6 0) I L) (fun q_1 =>
  some (q_1.1, q_1.2.1, q_1.2.2))
  else
  if a1 = 1 then
  Option.bind (f_X7_tell (I 6 1) I L) (fun q_2 =>
  some (q_2.1, q_2.2.1, q_2.2.2))
  else
  if a1 = 2 then
  Option.bind (f_X7_tell (I 37 0) I L) (fun q_3 =>
  some (q_3.1, q_3.2.1, q_3.2.2))
  else
  if a1 = 3 then
  Option.bind (f_X7_isHome (L 0 5) I L) (fun q_4 =>
  if (b2i q_4) = 0 then
  Option.bind (f_X7_tell 0 I L) (fun q_5 =>
  some (q_5.1, q_5.2.1, q_5.2.2))
  else
  Option.bind (f_X7_tell 1 I L) (fun q_6 =>
  some (q_6.1, q_6.2.1, q_6.2.2)))
  else
  Option.bind (f_X7_refuse 1 I L) (fun q_7 =>
  some (q_7.1, q_7.2.1, q_7.2.2))
def f_X7_tellTurn (a1 : Int64) (I : MI) (L : ML) : Option (Int64 × Mm) :=
  bnd (up2 I 0 6 0) (fun I_1 =>
  Option.bind (f_X6_toNumber a1 (I_1 6 0)) (fun q_2 =>
  some (q_2, I_1, L)))
def f_X7_step (a1 : Int32) (I : MI) (L : ML) : Option (Int64 × Mm) :=
  Option.bind (f_X2_hasStep a1 I L) (fun q_1 =>
  if (b2i q_1) = 0 then
  Option.bind (f_X7_refuse 2 I L) (fun q_4 =>
  some ((Int32.toInt64 q_4.1), q_4.2.1, q_4.2.2))
  else
  Option.bind (f_X2_turnOf a1 I L) (fun q_2 =>
  Option.bind (f_X7_tellTurn q_2 I L) (fun q_3 =>
  some (q_3.1, q_3.2.1, q_3.2.2))))
def f_X7_stand (I : MI) (L : ML) : Option (Int64 × Mm) :=
  if (I 6 0) = 0 then
  Option.bind (f_X7_refuse 5 I L) (fun q_2 =>
  some ((Int32.toInt64 q_2.1), q_2.2.1, q_2.2.2))
  else
  Option.bind (f_X7_tellTurn (L 0 5) I L) (fun q_1 =>
  some (q_1.1, q_1.2.1, q_1.2.2))
def f_X7_read (a1 : Int64) (I : MI) (L : ML) : Option Int64 :=
  Option.bind (f_X6_fromNumber a1 (I 6 0)) (fun q_1 =>
  some q_1)
def f_X7_takes (a1 : Int64) (a3 : Int32) (I : MI) (L : ML) : Option (Int32 × Mm) :=
  Option.bind (f_X7_read a1 I L) (fun q_1 =>
  if 0 ≤ (lg_cmp q_1 0) then
  Option.bind (f_X2_hasPoint a3 I L) (fun q_2 =>
  if (b2i q_2) = 0 then
  Option.bind (f_X7_refuse 2 I L) (fun q_5 =>
  some (q_5.1, q_5.2.1, q_5.2.2))
  else
  Option.bind (f_X6_image q_1 a3) (fun q_3 =>
  Option.bind (f_X7_tell q_3 I L) (fun q_4 =>
  some (q_4.1, q_4.2.1, q_4.2.2))))
  else
  Option.bind (f_X7_refuse 1 I L) (fun q_6 =>
  some (q_6.1, q_6.2.1, q_6.2.2)))
def f_X7_product (a1 : Int64) (a3 : Int64) (I : MI) (L : ML) : Option (Int64 × Mm) :=
  Option.bind (f_X7_read a1 I L) (fun q_1 =>
  Option.bind (f_X7_read a3 I L) (fun q_2 =>
  if (lg_cmp q_1 0) < 0 then
  Option.bind (f_X7_refuse 1 I L) (fun q_3 =>
  some ((Int32.toInt64 q_3.1), q_3.2.1, q_3.2.2))
  else
  if 0 ≤ (lg_cmp q_2 0) then
  Option.bind (f_X6_compose q_1 q_2 (I 6 0)) (fun q_4 =>
  Option.bind (f_X7_tellTurn q_4 I L) (fun q_5 =>
  some (q_5.1, q_5.2.1, q_5.2.2)))
  else
  Option.bind (f_X7_refuse 1 I L) (fun q_6 =>
  some ((Int32.toInt64 q_6.1), q_6.2.1, q_6.2.2))))
def f_X7_inverse (a1 : Int64) (I : MI) (L : ML) : Option (Int64 × Mm) :=
  Option.bind (f_X7_read a1 I L) (fun q_1 =>
  if 0 ≤ (lg_cmp q_1 0) then
  Option.bind (f_X6_invert q_1 (I 6 0)) (fun q_2 =>
  Option.bind (f_X7_tellTurn q_2 I L) (fun q_3 =>
  some (q_3.1, q_3.2.1, q_3.2.2)))
  else
  Option.bind (f_X7_refuse 1 I L) (fun q_4 =>
  some ((Int32.toInt64 q_4.1), q_4.2.1, q_4.2.2)))
def f_X7_power (a1 : Int64) (a3 : Int32) (I : MI) (L : ML) : Option (Int64 × Mm) :=
  Option.bind (f_X7_read a1 I L) (fun q_1 =>
  if (lg_cmp q_1 0) < 0 then
  Option.bind (f_X7_refuse 1 I L) (fun q_2 =>
  some ((Int32.toInt64 q_2.1), q_2.2.1, q_2.2.2))
  else
  if a3 < (-1000) then
  Option.bind (f_X7_refuse 1 I L) (fun q_3 =>
  some ((Int32.toInt64 q_3.1), q_3.2.1, q_3.2.2))
  else
  if a3 ≤ 1000 then
  Option.bind (f_X6_raise q_1 a3 (I 6 0)) (fun q_4 =>
  Option.bind (f_X7_tellTurn q_4 I L) (fun q_5 =>
  some (q_5.1, q_5.2.1, q_5.2.2)))
  else
  Option.bind (f_X7_refuse 1 I L) (fun q_6 =>
  some ((Int32.toInt64 q_6.1), q_6.2.1, q_6.2.2)))
def f_X7_about (a1 : Int64) (a3 : Int32) (I : MI) (L : ML) : Option (Int32 × Mm) :=
  Option.bind (f_X7_read a1 I L) (fun q_1 =>
  if 0 ≤ (lg_cmp q_1 0) then
  Option.bind (f_X6_shape q_1 (I 6 0)) (fun q_2 =>
  if a3 = 0 then
  Option.bind (f_X6_period q_2) (fun q_3 =>
  Option.bind (f_X7_tell q_3 I L) (fun q_4 =>
  some (q_4.1, q_4.2.1, q_4.2.2)))
  else
  if a3 = 1 then
  Option.bind (f_X6_cycles q_2) (fun q_5 =>
  Option.bind (f_X7_tell q_5 I L) (fun q_6 =>
  some (q_6.1, q_6.2.1, q_6.2.2)))
  else
  if a3 = 2 then
  Option.bind (f_X6_staying q_2) (fun q_7 =>
  Option.bind (f_X7_tell q_7 I L) (fun q_8 =>
  some (q_8.1, q_8.2.1, q_8.2.2)))
  else
  if a3 = 3 then
  Option.bind (f_X6_isEven q_1 (I 6 0)) (fun q_9 =>
  if (b2i q_9) = 0 then
  Option.bind (f_X7_tell 0 I L) (fun q_10 =>
  some (q_10.1, q_10.2.1, q_10.2.2))
  else
  Option.bind (f_X7_tell 1 I L) (fun q_11 =>
  some (q_11.1, q_11.2.1, q_11.2.2)))
  else
  if a3 = 4 then
  Option.bind (f_X6_moved q_1 (I 6 0)) (fun q_12 =>
  Option.bind (f_X7_tell q_12 I L) (fun q_13 =>
  some (q_13.1, q_13.2.1, q_13.2.2)))
  else
  Option.bind (f_X7_refuse 1 I L) (fun q_14 =>
  some (q_14.1, q_14.2.1, q_14.2.2)))
  else
  Option.bind (f_X7_refuse 1 I L) (fun q_15 =>
  some (q_15.1, q_15.2.1, q_15.2.2)))
def f_X7_orbit (a1 : Int32) (I : MI) (L : ML) : Option (Int32 × Mm) :=
  Option.bind (f_X2_hasPoint a1 I L) (fun q_1 =>
  if (b2i q_1) = 0 then
  Option.bind (f_X7_refuse 2 I L) (fun q_4 =>
  some (q_4.1, q_4.2.1, q_4.2.2))
  else
  Option.bind (f_X2_reachedFrom a1 I L) (fun q_2 =>
  Option.bind (f_X7_tell q_2 I L) (fun q_3 =>
  some (q_3.1, q_3.2.1, q_3.2.2))))
def f_X7_orbits (I : MI) (L : ML) : Option (Int32 × Mm) :=
  if (I 6 0) = 0 then
  Option.bind (f_X7_refuse 5 I L) (fun q_3 =>
  some (q_3.1, q_3.2.1, q_3.2.2))
  else
  Option.bind (f_X2_countOrbits I L) (fun q_1 =>
  Option.bind (f_X7_tell q_1 I L) (fun q_2 =>
  some (q_2.1, q_2.2.1, q_2.2.2)))
def f_X7_base (a1 : Int32) (I : MI) (L : ML) : Option (Int32 × Mm) :=
  if (-1) ≤ a1 then
  if (I 6 0) = 0 then
  Option.bind (f_X7_refuse 5 I L) (fun q_6 =>
  some (q_6.1, q_6.2.1, q_6.2.2))
  else
  if a1 = (-1) then
  Option.bind (f_X0_countHeld 8 I L) (fun q_4 =>
  Option.bind (f_X7_tell q_4 I L) (fun q_5 =>
  some (q_5.1, q_5.2.1, q_5.2.2)))
  else
  Option.bind (f_X0_heldPoint 8 a1 I L) (fun q_1 =>
  if 0 ≤ q_1 then
  Option.bind (f_X7_tell q_1 I L) (fun q_2 =>
  some (q_2.1, q_2.2.1, q_2.2.2))
  else
  Option.bind (f_X7_refuse 5 I L) (fun q_3 =>
  some (q_3.1, q_3.2.1, q_3.2.2)))
  else
  Option.bind (f_X7_refuse 1 I L) (fun q_7 =>
  some (q_7.1, q_7.2.1, q_7.2.2))
def f_X7_level (a1 : Int32) (I : MI) (L : ML) : Option (Int32 × Mm) :=
  if 0 ≤ a1 then
  if (I 6 0) = 0 then
  Option.bind (f_X7_refuse 5 I L) (fun q_5 =>
  some (q_5.1, q_5.2.1, q_5.2.2))
  else
  Option.bind (f_X0_heldPoint 8 a1 I L) (fun q_1 =>
  if 0 ≤ q_1 then
  Option.bind (f_X0_reachedAt 8 q_1 I L) (fun q_2 =>
  Option.bind (f_X7_tell q_2 I L) (fun q_3 =>
  some (q_3.1, q_3.2.1, q_3.2.2)))
  else
  Option.bind (f_X7_refuse 5 I L) (fun q_4 =>
  some (q_4.1, q_4.2.1, q_4.2.2)))
  else
  Option.bind (f_X7_refuse 1 I L) (fun q_6 =>
  some (q_6.1, q_6.2.1, q_6.2.2))
def f_X7_order (I : MI) (L : ML) : Option (Int32 × Mm) :=
  if (I 6 0) = 0 then
  Option.bind (f_X7_refuse 5 I L) (fun q_3 =>
  some (q_3.1, q_3.2.1, q_3.2.2))
  else
  Option.bind (f_X2_size I L) (fun q_1 =>
  Option.bind (f_X7_tell q_1 I L) (fun q_2 =>
  some (q_2.1, q_2.2.1, q_2.2.2)))
def f_X7_member (a1 : Int64) (I : MI) (L : ML) : Option (Int32 × Mm) :=
  Option.bind (f_X7_read a1 I L) (fun q_1 =>
  if 0 ≤ (lg_cmp q_1 0) then
  Option.bind (f_X0_contains 8 q_1 I L) (fun q_2 =>
  if (b2i q_2) = 0 then
  Option.bind (f_X7_tell 0 I L) (fun q_3 =>
  some (q_3.1, q_3.2.1, q_3.2.2))
  else
  Option.bind (f_X7_tell 1 I L) (fun q_4 =>
  some (q_4.1, q_4.2.1, q_4.2.2)))
  else
  Option.bind (f_X7_refuse 1 I L) (fun q_5 =>
  some (q_5.1, q_5.2.1, q_5.2.2)))
def f_X7_followed (a1 : Int64) (I : MI) (L : ML) : Option (Int32 × Mm) :=
  Option.bind (f_X7_read a1 I L) (fun q_1 =>
  if 0 ≤ (lg_cmp q_1 0) then
  Option.bind (f_X0_follow 8 q_1 I L) (fun q_2 =>
  Option.bind (f_X7_tell q_2 I L) (fun q_3 =>
  some (q_3.1, q_3.2.1, q_3.2.2)))
  else
  Option.bind (f_X7_refuse 1 I L) (fun q_4 =>
  some (q_4.1, q_4.2.1, q_4.2.2)))
def f_X7_nth (a1 : Int32) (I : MI) (L : ML) : Option (Int64 × Mm) :=
  if 0 ≤ a1 then
  if (I 6 0) = 0 then
  Option.bind (f_X7_refuse 5 I L) (fun q_1 =>
  some ((Int32.toInt64 q_1.1), q_1.2.1, q_1.2.2))
  else
  Option.bind (f_X2_size I L) (fun q_2 =>
  if a1 < q_2 then
  Option.bind (f_X0_pick 8 a1 I L) (fun q_3 =>
  Option.bind (f_X7_tellTurn q_3 I L) (fun q_4 =>
  some (q_4.1, q_4.2.1, q_4.2.2)))
  else
  Option.bind (f_X7_refuse 5 I L) (fun q_5 =>
  some ((Int32.toInt64 q_5.1), q_5.2.1, q_5.2.2)))
  else
  Option.bind (f_X7_refuse 1 I L) (fun q_6 =>
  some ((Int32.toInt64 q_6.1), q_6.2.1, q_6.2.2))
def f_X7_rank (a1 : Int64) (I : MI) (L : ML) : Option (Int32 × Mm) :=
  Option.bind (f_X7_read a1 I L) (fun q_1 =>
  if 0 ≤ (lg_cmp q_1 0) then
  Option.bind (f_X0_placeOf 8 q_1 I L) (fun q_2 =>
  if 0 ≤ q_2 then
  Option.bind (f_X7_tell q_2 I L) (fun q_3 =>
  some (q_3.1, q_3.2.1, q_3.2.2))
  else
  Option.bind (f_X7_refuse 6 I L) (fun q_4 =>
  some (q_4.1, q_4.2.1, q_4.2.2)))
  else
  Option.bind (f_X7_refuse 1 I L) (fun q_5 =>
  some (q_5.1, q_5.2.1, q_5.2.2)))
def f_X7_hurdle (I : MI) (L : ML) : Option Int32 :=
  if (I 6 0) = 0 then
  some 5
  else
  Option.bind (f_X2_size I L) (fun q_1 =>
  if q_1 ≤ 5040 then
  some 0
  else
  some 3)
def f_X7_tellWay (rm : Nat) (a1 : Int64) (a3 : Int32) (I : MI) (L : ML) : Option ((Int32 × Mm) × Nat) :=
  Option.bind (f_X7_hurdle I L) (fun q_1 =>
  if q_1 = 0 then
  Option.bind (f_X2_measured rm I L) (fun q_2 => chk (decide (q_2.2 ≤ 5040)) (
  chk (decide (q_2.2 ≠ 0)) (Option.bind (f_X4_find q_2.2 a1 q_2.1.1 q_2.1.2) (fun q_4 =>
  if 0 ≤ q_4 then
  if a3 = (-1) then
  chk (inb q_4 q_2.2) (
  Option.bind (f_X7_tell (q_2.1.1 70 (ix q_4)) q_2.1.1 q_2.1.2) (fun q_8 =>
  some ((q_8.1, q_8.2.1, q_8.2.2), q_2.2)))
  else
  chk (inb q_4 q_2.2) (
  if a3 < (q_2.1.1 70 (ix q_4)) then
  Option.bind (f_X4_stepOfWay q_2.2 q_4 a3 q_2.1.1 q_2.1.2) (fun q_5 =>
  Option.bind (f_X7_tell q_5 q_2.1.1 q_2.1.2) (fun q_6 =>
  some ((q_6.1, q_6.2.1, q_6.2.2), q_2.2)))
  else
  Option.bind (f_X7_refuse 5 q_2.1.1 q_2.1.2) (fun q_7 =>
  some ((q_7.1, q_7.2.1, q_7.2.2), q_2.2)))
  else
  Option.bind (f_X7_refuse 6 q_2.1.1 q_2.1.2) (fun q_9 =>
  some ((q_9.1, q_9.2.1, q_9.2.2), q_2.2))))))
  else
  Option.bind (f_X7_refuse q_1 I L) (fun q_10 =>
  some ((q_10.1, q_10.2.1, q_10.2.2), rm)))
def f_X7_way (rm : Nat) (a1 : Int64) (a3 : Int32) (I : MI) (L : ML) : Option ((Int32 × Mm) × Nat) :=
  Option.bind (f_X7_read a1 I L) (fun q_1 =>
  if (lg_cmp q_1 0) < 0 then
  Option.bind (f_X7_refuse 1 I L) (fun q_2 =>
  some ((q_2.1, q_2.2.1, q_2.2.2), rm))
  else
  if (-1) ≤ a3 then
  Option.bind (f_X7_tellWay rm q_1 a3 I L) (fun q_3 => chk (decide (q_3.2 ≤ 5040)) (
  some ((q_3.1.1, q_3.1.2.1, q_3.1.2.2), q_3.2)))
  else
  Option.bind (f_X7_refuse 1 I L) (fun q_4 =>
  some ((q_4.1, q_4.2.1, q_4.2.2), rm)))
def f_X7_deep (rm : Nat) (a1 : Int32) (I : MI) (L : ML) : Option ((Int32 × Mm) × Nat) :=
  if 0 ≤ a1 then
  Option.bind (f_X7_hurdle I L) (fun q_1 =>
  if q_1 = 0 then
  Option.bind (f_X2_measured rm I L) (fun q_2 => chk (decide (q_2.2 ≤ 5040)) (
  chk (decide (q_2.2 ≠ 0)) (Option.bind (f_X4_countDeep q_2.2 a1 q_2.1.1 q_2.1.2) (fun q_4 =>
  if q_4 = 0 then
  Option.bind (f_X7_refuse 5 q_2.1.1 q_2.1.2) (fun q_6 =>
  some ((q_6.1, q_6.2.1, q_6.2.2), q_2.2))
  else
  Option.bind (f_X7_tell q_4 q_2.1.1 q_2.1.2) (fun q_5 =>
  some ((q_5.1, q_5.2.1, q_5.2.2), q_2.2))))))
  else
  Option.bind (f_X7_refuse q_1 I L) (fun q_7 =>
  some ((q_7.1, q_7.2.1, q_7.2.2), rm)))
  else
  Option.bind (f_X7_refuse 1 I L) (fun q_8 =>
  some ((q_8.1, q_8.2.1, q_8.2.2), rm))
def f_X7_deepest (rm : Nat) (a1 : Int32) (I : MI) (L : ML) : Option ((Int32 × Mm) × Nat) :=
  if a1 < 0 then
  Option.bind (f_X7_refuse 1 I L) (fun q_1 =>
  some ((q_1.1, q_1.2.1, q_1.2.2), rm))
  else
  if a1 ≤ 1 then
  Option.bind (f_X7_hurdle I L) (fun q_2 =>
  if q_2 = 0 then
  Option.bind (f_X2_measured rm I L) (fun q_3 => chk (decide (q_3.2 ≤ 5040)) (
  chk (decide (q_3.2 ≠ 0)) (if a1 = 0 then
  Option.bind (f_X7_tell (q_3.1.1 69 2) q_3.1.1 q_3.1.2) (fun q_7 =>
  some ((q_7.1, q_7.2.1, q_7.2.2), q_3.2))
  else
  Option.bind (f_X4_firstDeep q_3.2 (q_3.1.1 69 2) q_3.1.1 q_3.1.2) (fun q_5 =>
  Option.bind (f_X7_tell q_5 q_3.1.1 q_3.1.2) (fun q_6 =>
  some ((q_6.1, q_6.2.1, q_6.2.2), q_3.2))))))
  else
  Option.bind (f_X7_refuse q_2 I L) (fun q_8 =>
  some ((q_8.1, q_8.2.1, q_8.2.2), rm)))
  else
  Option.bind (f_X7_refuse 1 I L) (fun q_9 =>
  some ((q_9.1, q_9.2.1, q_9.2.2), rm))
def f_X7_mean (rm : Nat) (a1 : Int32) (I : MI) (L : ML) : Option ((Int32 × Mm) × Nat) :=
  if a1 < 0 then
  Option.bind (f_X7_refuse 1 I L) (fun q_1 =>
  some ((q_1.1, q_1.2.1, q_1.2.2), rm))
  else
  if a1 ≤ 1 then
  Option.bind (f_X7_hurdle I L) (fun q_2 =>
  if q_2 = 0 then
  Option.bind (f_X2_measured rm I L) (fun q_3 => chk (decide (q_3.2 ≤ 5040)) (
  chk (decide (q_3.2 ≠ 0)) (Option.bind (f_X4_sumOfDepths q_3.2 q_3.1.1 q_3.1.2) (fun q_5 =>
  Option.bind (f_X6_commonDivisor q_5 (q_3.1.1 69 1)) (fun q_6 =>
  if 1 ≤ q_6 then
  if a1 = 0 then
  chk (decide ((q_6 : Int32) ≠ 0)) (
  Option.bind (f_X7_tell (q_5 / q_6) q_3.1.1 q_3.1.2) (fun q_8 =>
  some ((q_8.1, q_8.2.1, q_8.2.2), q_3.2)))
  else
  chk (decide ((q_6 : Int32) ≠ 0)) (
  Option.bind (f_X7_tell ((q_3.1.1 69 1) / q_6) q_3.1.1 q_3.1.2) (fun q_7 =>
  some ((q_7.1, q_7.2.1, q_7.2.2), q_3.2)))
  else
  Option.bind (f_X7_refuse 5 q_3.1.1 q_3.1.2) (fun q_9 =>
  some ((q_9.1, q_9.2.1, q_9.2.2), q_3.2)))))))
  else
  Option.bind (f_X7_refuse q_2 I L) (fun q_10 =>
  some ((q_10.1, q_10.2.1, q_10.2.2), rm)))
  else
  Option.bind (f_X7_refuse 1 I L) (fun q_11 =>
  some ((q_11.1, q_11.2.1, q_11.2.2), rm))
def f_X7_nearer (rm : Nat) (I : MI) (L : ML) : Option ((Int32 × Mm) × Nat) :=
  Option.bind (f_X7_hurdle I L) (fun q_1 =>
  if q_1 = 0 then
  Option.bind (f_X2_measured rm I L) (fun q_2 => chk (decide (q_2.2 ≤ 5040)) (
  chk (decide (q_2.2 ≠ 0)) (Option.bind (f_X4_find q_2.2 (q_2.1.2 0 5) q_2.1.1 q_2.1.2) (fun q_4 =>
  if 0 ≤ q_4 then
  Option.bind (f_X4_stepsCloser q_2.2 q_4 q_2.1.1 q_2.1.2) (fun q_5 =>
  Option.bind (f_X7_tell q_5 q_2.1.1 q_2.1.2) (fun q_6 =>
  some ((q_6.1, q_6.2.1, q_6.2.2), q_2.2)))
  else
  Option.bind (f_X7_refuse 6 q_2.1.1 q_2.1.2) (fun q_7 =>
  some ((q_7.1, q_7.2.1, q_7.2.2), q_2.2))))))
  else
  Option.bind (f_X7_refuse q_1 I L) (fun q_8 =>
  some ((q_8.1, q_8.2.1, q_8.2.2), rm)))
def f_X7_solve (rm : Nat) (a1 : Int32) (I : MI) (L : ML) : Option ((Int32 × Mm) × Nat) :=
  if (-1) ≤ a1 then
  Option.bind (f_X6_invert (L 0 5) (I 6 0)) (fun q_1 =>
  Option.bind (f_X7_tellWay rm q_1 a1 I L) (fun q_2 => chk (decide (q_2.2 ≤ 5040)) (
  some ((q_2.1.1, q_2.1.2.1, q_2.1.2.2), q_2.2))))
  else
  Option.bind (f_X7_refuse 1 I L) (fun q_3 =>
  some ((q_3.1, q_3.2.1, q_3.2.2), rm))
def f_X7_centre (rm : Nat) (a1 : Int32) (I : MI) (L : ML) : Option ((Int32 × Mm) × Nat) :=
  if (-1) ≤ a1 then
  Option.bind (f_X7_hurdle I L) (fun q_1 =>
  if q_1 = 0 then
  if a1 = (-1) then
  Option.bind (f_X2_countCentral rm I L) (fun q_6 => chk (decide (q_6.2 ≤ 5040)) (
  Option.bind (f_X7_tell q_6.1.1 q_6.1.2.1 q_6.1.2.2) (fun q_7 =>
  some ((q_7.1, q_7.2.1, q_7.2.2), q_6.2))))
  else
  Option.bind (f_X2_centralPlace rm a1 I L) (fun q_2 => chk (decide (q_2.2 ≤ 5040)) (
  bnd (q_2.1.1 : Int32) (fun v3_3 =>
  if 0 ≤ v3_3 then
  Option.bind (f_X7_tell v3_3 q_2.1.2.1 q_2.1.2.2) (fun q_4 =>
  some ((q_4.1, q_4.2.1, q_4.2.2), q_2.2))
  else
  Option.bind (f_X7_refuse 5 q_2.1.2.1 q_2.1.2.2) (fun q_5 =>
  some ((q_5.1, q_5.2.1, q_5.2.2), q_2.2)))))
  else
  Option.bind (f_X7_refuse q_1 I L) (fun q_8 =>
  some ((q_8.1, q_8.2.1, q_8.2.2), rm)))
  else
  Option.bind (f_X7_refuse 1 I L) (fun q_9 =>
  some ((q_9.1, q_9.2.1, q_9.2.2), rm))
def f_X7_classes (rm : Nat) (I : MI) (L : ML) : Option ((Int32 × Mm) × Nat) :=
  Option.bind (f_X7_hurdle I L) (fun q_1 =>
  if q_1 = 0 then
  Option.bind (f_X2_sorted rm I L) (fun q_2 => chk (decide (q_2.2 ≤ 5040)) (
  chk (decide (q_2.2 ≠ 0)) (Option.bind (f_X7_tell (q_2.1.1 69 3) q_2.1.1 q_2.1.2) (fun q_4 =>
  some ((q_4.1, q_4.2.1, q_4.2.2), q_2.2)))))
  else
  Option.bind (f_X7_refuse q_1 I L) (fun q_5 =>
  some ((q_5.1, q_5.2.1, q_5.2.2), rm)))
def f_X7_alike (rm : Nat) (a1 : Int64) (I : MI) (L : ML) : Option ((Int32 × Mm) × Nat) :=
  Option.bind (f_X7_read a1 I L) (fun q_1 =>
  if 0 ≤ (lg_cmp q_1 0) then
  Option.bind (f_X7_hurdle I L) (fun q_2 =>
  if q_2 = 0 then
  Option.bind (f_X2_sorted rm I L) (fun q_3 => chk (decide (q_3.2 ≤ 5040)) (
  chk (decide (q_3.2 ≠ 0)) (Option.bind (f_X4_find q_3.2 q_1 q_3.1.1 q_3.1.2) (fun q_5 =>
  if 0 ≤ q_5 then
  Option.bind (f_X4_countKin q_3.2 q_5 q_3.1.1 q_3.1.2) (fun q_6 =>
  Option.bind (f_X7_tell q_6 q_3.1.1 q_3.1.2) (fun q_7 =>
  some ((q_7.1, q_7.2.1, q_7.2.2), q_3.2)))
  else
  Option.bind (f_X7_refuse 6 q_3.1.1 q_3.1.2) (fun q_8 =>
  some ((q_8.1, q_8.2.1, q_8.2.2), q_3.2))))))
  else
  Option.bind (f_X7_refuse q_2 I L) (fun q_9 =>
  some ((q_9.1, q_9.2.1, q_9.2.2), rm)))
  else
  Option.bind (f_X7_refuse 1 I L) (fun q_10 =>
  some ((q_10.1, q_10.2.1, q_10.2.2), rm)))
def f_X7_derived (a1 : Int32) (I : MI) (L : ML) : Option (Int32 × Mm) :=
  if 0 ≤ a1 then
  if (I 6 0) = 0 then
  Option.bind (f_X7_refuse 5 I L) (fun q_5 =>
  some (q_5.1, q_5.2.1, q_5.2.2))
  else
  Option.bind (f_X2_descentByF I L) (fun q_1 =>
  Option.bind (f_X1_sizeAt 30 a1 q_1.1 q_1.2) (fun q_2 =>
  if q_2 = 0 then
  Option.bind (f_X7_refuse 5 q_1.1 q_1.2) (fun q_4 =>
  some (q_4.1, q_4.2.1, q_4.2.2))
  else
  Option.bind (f_X7_tell q_2 q_1.1 q_1.2) (fun q_3 =>
  some (q_3.1, q_3.2.1, q_3.2.2))))
  else
  Option.bind (f_X7_refuse 1 I L) (fun q_6 =>
  some (q_6.1, q_6.2.1, q_6.2.2))
def f_X7_has (a1 : Int32) (I : MI) (L : ML) : Option (Int32 × Mm) :=
  if a1 < 0 then
  Option.bind (f_X7_refuse 1 I L) (fun q_1 =>
  some (q_1.1, q_1.2.1, q_1.2.2))
  else
  if a1 ≤ 3 then
  if (I 6 0) = 0 then
  Option.bind (f_X7_refuse 5 I L) (fun q_19 =>
  some (q_19.1, q_19.2.1, q_19.2.2))
  else
  if a1 = 0 then
  Option.bind (f_X2_movesCommute I L) (fun q_15 =>
  bnd ((b2i q_15) : Int32) (fun v2_16 =>
  if v2_16 = 0 then
  Option.bind (f_X7_tell 0 I L) (fun q_17 =>
  some (q_17.1, q_17.2.1, q_17.2.2))
  else
  Option.bind (f_X7_tell 1 I L) (fun q_18 =>
  some (q_18.1, q_18.2.1, q_18.2.2))))
  else
  if a1 = 1 then
  Option.bind (f_X2_descentByF I L) (fun q_10 =>
  Option.bind (f_X1_endsAtHome 30 q_10.1 q_10.2) (fun q_11 =>
  bnd ((b2i q_11) : Int32) (fun v2_12 =>
  if v2_12 = 0 then
  Option.bind (f_X7_tell 0 q_10.1 q_10.2) (fun q_13 =>
  some (q_13.1, q_13.2.1, q_13.2.2))
  else
  Option.bind (f_X7_tell 1 q_10.1 q_10.2) (fun q_14 =>
  some (q_14.1, q_14.2.1, q_14.2.2)))))
  else
  if a1 = 2 then
  Option.bind (f_X2_movesAreEven I L) (fun q_6 =>
  bnd ((b2i q_6) : Int32) (fun v2_7 =>
  if v2_7 = 0 then
  Option.bind (f_X7_tell 0 I L) (fun q_8 =>
  some (q_8.1, q_8.2.1, q_8.2.2))
  else
  Option.bind (f_X7_tell 1 I L) (fun q_9 =>
  some (q_9.1, q_9.2.1, q_9.2.2))))
  else
  Option.bind (f_X2_isPrimitive I L) (fun q_2 =>
  bnd ((b2i q_2.1) : Int32) (fun v2_3 =>
  if v2_3 = 0 then
  Option.bind (f_X7_tell 0 q_2.2.1 q_2.2.2) (fun q_4 =>
  some (q_4.1, q_4.2.1, q_4.2.2))
  else
  Option.bind (f_X7_tell 1 q_2.2.1 q_2.2.2) (fun q_5 =>
  some (q_5.1, q_5.2.1, q_5.2.2))))
  else
  Option.bind (f_X7_refuse 1 I L) (fun q_20 =>
  some (q_20.1, q_20.2.1, q_20.2.2))
def f_X7_commutator (a1 : Int64) (a3 : Int64) (I : MI) (L : ML) : Option (Int64 × Mm) :=
  Option.bind (f_X7_read a1 I L) (fun q_1 =>
  Option.bind (f_X7_read a3 I L) (fun q_2 =>
  if (lg_cmp q_1 0) < 0 then
  Option.bind (f_X7_refuse 1 I L) (fun q_3 =>
  some ((Int32.toInt64 q_3.1), q_3.2.1, q_3.2.2))
  else
  if 0 ≤ (lg_cmp q_2 0) then
  Option.bind (f_X6_commutatorOf q_1 q_2 (I 6 0)) (fun q_4 =>
  Option.bind (f_X7_tellTurn q_4 I L) (fun q_5 =>
  some (q_5.1, q_5.2.1, q_5.2.2)))
  else
  Option.bind (f_X7_refuse 1 I L) (fun q_6 =>
  some ((Int32.toInt64 q_6.1), q_6.2.1, q_6.2.2))))
def f_X7_turned (a1 : Int64) (a3 : Int64) (I : MI) (L : ML) : Option (Int64 × Mm) :=
  Option.bind (f_X7_read a1 I L) (fun q_1 =>
  Option.bind (f_X7_read a3 I L) (fun q_2 =>
  if (lg_cmp q_1 0) < 0 then
  Option.bind (f_X7_refuse 1 I L) (fun q_3 =>
  some ((Int32.toInt64 q_3.1), q_3.2.1, q_3.2.2))
  else
  if 0 ≤ (lg_cmp q_2 0) then
  Option.bind (f_X6_conjugate q_1 q_2 (I 6 0)) (fun q_4 =>
  Option.bind (f_X7_tellTurn q_4 I L) (fun q_5 =>
  some (q_5.1, q_5.2.1, q_5.2.2)))
  else
  Option.bind (f_X7_refuse 1 I L) (fun q_6 =>
  some ((Int32.toInt64 q_6.1), q_6.2.1, q_6.2.2))))
def f_X7_same (rm : Nat) (a1 : Int64) (a3 : Int64) (I : MI) (L : ML) : Option ((Int32 × Mm) × Nat) :=
  Option.bind (f_X7_read a1 I L) (fun q_1 =>
  Option.bind (f_X7_read a3 I L) (fun q_2 =>
  if (lg_cmp q_1 0) < 0 then
  Option.bind (f_X7_refuse 1 I L) (fun q_3 =>
  some ((q_3.1, q_3.2.1, q_3.2.2), rm))
  else
  if 0 ≤ (lg_cmp q_2 0) then
  Option.bind (f_X7_hurdle I L) (fun q_4 =>
  if q_4 = 0 then
  Option.bind (f_X2_sorted rm I L) (fun q_5 => chk (decide (q_5.2 ≤ 5040)) (
  chk (decide (q_5.2 ≠ 0)) (Option.bind (f_X4_find q_5.2 q_1 q_5.1.1 q_5.1.2) (fun q_7 =>
  Option.bind (f_X4_find q_5.2 q_2 q_5.1.1 q_5.1.2) (fun q_8 =>
  if q_7 < 0 then
  Option.bind (f_X7_refuse 6 q_5.1.1 q_5.1.2) (fun q_9 =>
  some ((q_9.1, q_9.2.1, q_9.2.2), q_5.2))
  else
  if 0 ≤ q_8 then
  chk (inb q_7 q_5.2) (
  chk (inb q_8 q_5.2) (
  if (q_5.1.1 71 (ix q_7)) = (q_5.1.1 71 (ix q_8)) then
  Option.bind (f_X7_tell 1 q_5.1.1 q_5.1.2) (fun q_11 =>
  some ((q_11.1, q_11.2.1, q_11.2.2), q_5.2))
  else
  Option.bind (f_X7_tell 0 q_5.1.1 q_5.1.2) (fun q_10 =>
  some ((q_10.1, q_10.2.1, q_10.2.2), q_5.2))))
  else
  Option.bind (f_X7_refuse 6 q_5.1.1 q_5.1.2) (fun q_12 =>
  some ((q_12.1, q_12.2.1, q_12.2.2), q_5.2)))))))
  else
  Option.bind (f_X7_refuse q_4 I L) (fun q_13 =>
  some ((q_13.1, q_13.2.1, q_13.2.2), rm)))
  else
  Option.bind (f_X7_refuse 1 I L) (fun q_14 =>
  some ((q_14.1, q_14.2.1, q_14.2.2), rm))))
def f_X7_central (a1 : Int32) (I : MI) (L : ML) : Option (Int32 × Mm) :=
  if 0 ≤ a1 then
  if (I 6 0) = 0 then
  Option.bind (f_X7_refuse 5 I L) (fun q_5 =>
  some (q_5.1, q_5.2.1, q_5.2.2))
  else
  Option.bind (f_X2_descentByT I L) (fun q_1 =>
  Option.bind (f_X1_sizeAt 33 a1 q_1.1 q_1.2) (fun q_2 =>
  if q_2 = 0 then
  Option.bind (f_X7_refuse 5 q_1.1 q_1.2) (fun q_4 =>
  some (q_4.1, q_4.2.1, q_4.2.2))
  else
  Option.bind (f_X7_tell q_2 q_1.1 q_1.2) (fun q_3 =>
  some (q_3.1, q_3.2.1, q_3.2.2))))
  else
  Option.bind (f_X7_refuse 1 I L) (fun q_6 =>
  some (q_6.1, q_6.2.1, q_6.2.2))
def f_X7_by (a1 : Int32) (I : MI) (L : ML) : Option (Int32 × Mm) :=
  Option.bind (f_X2_hasMoves a1 I L) (fun q_1 =>
  if (b2i q_1) = 0 then
  Option.bind (f_X7_refuse 2 I L) (fun q_5 =>
  some (q_5.1, q_5.2.1, q_5.2.2))
  else
  if (I 6 0) = 0 then
  Option.bind (f_X7_refuse 5 I L) (fun q_4 =>
  some (q_4.1, q_4.2.1, q_4.2.2))
  else
  Option.bind (f_X2_sizeBy a1 I L) (fun q_2 =>
  Option.bind (f_X7_tell q_2.1 q_2.2.1 q_2.2.2) (fun q_3 =>
  some (q_3.1, q_3.2.1, q_3.2.2))))
def f_X7_meet (rm : Nat) (a1 : Int32) (a2 : Int32) (I : MI) (L : ML) : Option ((Int32 × Mm) × Nat) :=
  Option.bind (f_X2_hasMoves a1 I L) (fun q_1 =>
  if (b2i q_1) = 0 then
  Option.bind (f_X7_refuse 2 I L) (fun q_2 =>
  some ((q_2.1, q_2.2.1, q_2.2.2), rm))
  else
  Option.bind (f_X2_hasMoves a2 I L) (fun q_3 =>
  if (b2i q_3) = 0 then
  Option.bind (f_X7_refuse 2 I L) (fun q_8 =>
  some ((q_8.1, q_8.2.1, q_8.2.2), rm))
  else
  Option.bind (f_X7_hurdle I L) (fun q_4 =>
  if q_4 = 0 then
  Option.bind (f_X2_countInBoth rm a1 a2 I L) (fun q_5 => chk (decide (q_5.2 ≤ 5040)) (
  Option.bind (f_X7_tell q_5.1.1 q_5.1.2.1 q_5.1.2.2) (fun q_6 =>
  some ((q_6.1, q_6.2.1, q_6.2.2), q_5.2))))
  else
  Option.bind (f_X7_refuse q_4 I L) (fun q_7 =>
  some ((q_7.1, q_7.2.1, q_7.2.2), rm)))))
def f_X7_normal (a1 : Int32) (I : MI) (L : ML) : Option (Int32 × Mm) :=
  Option.bind (f_X2_hasMoves a1 I L) (fun q_1 =>
  if (b2i q_1) = 0 then
  Option.bind (f_X7_refuse 2 I L) (fun q_6 =>
  some (q_6.1, q_6.2.1, q_6.2.2))
  else
  if (I 6 0) = 0 then
  Option.bind (f_X7_refuse 5 I L) (fun q_5 =>
  some (q_5.1, q_5.2.1, q_5.2.2))
  else
  Option.bind (f_X2_staysTurned a1 I L) (fun q_2 =>
  if (b2i q_2.1) = 0 then
  Option.bind (f_X7_tell 0 q_2.2.1 q_2.2.2) (fun q_3 =>
  some (q_3.1, q_3.2.1, q_3.2.2))
  else
  Option.bind (f_X7_tell 1 q_2.2.1 q_2.2.2) (fun q_4 =>
  some (q_4.1, q_4.2.1, q_4.2.2))))
def f_X7_spare (I : MI) (L : ML) : Option (Int32 × Mm) :=
  if (I 6 0) = 0 then
  Option.bind (f_X7_refuse 5 I L) (fun q_3 =>
  some (q_3.1, q_3.2.1, q_3.2.2))
  else
  Option.bind (f_X2_spareMoves I L) (fun q_1 =>
  Option.bind (f_X7_tell q_1.1 q_1.2.1 q_1.2.2) (fun q_2 =>
  some (q_2.1, q_2.2.1, q_2.2.2)))
def f_X7_fewest (I : MI) (L : ML) : Option (Int32 × Mm) :=
  if (I 6 0) = 0 then
  Option.bind (f_X7_refuse 5 I L) (fun q_4 =>
  some (q_4.1, q_4.2.1, q_4.2.2))
  else
  Option.bind (f_X2_spareMoves I L) (fun q_1 =>
  Option.bind (f_X2_fewestMoves q_1.1 q_1.2.1 q_1.2.2) (fun q_2 =>
  Option.bind (f_X7_tell q_2.1 q_2.2.1 q_2.2.2) (fun q_3 =>
  some (q_3.1, q_3.2.1, q_3.2.2))))
def f_X7_holds (a1 : Int32) (I : MI) (L : ML) : Option (Int32 × Mm) :=
  Option.bind (f_X2_hasSet a1 I L) (fun q_1 =>
  if (b2i q_1) = 0 then
  Option.bind (f_X7_refuse 2 I L) (fun q_4 =>
  some (q_4.1, q_4.2.1, q_4.2.2))
  else
  Option.bind (f_X2_countHolding a1 I L) (fun q_2 =>
  Option.bind (f_X7_tell q_2.1 q_2.2.1 q_2.2.2) (fun q_3 =>
  some (q_3.1, q_3.2.1, q_3.2.2))))
def f_X7_keeps (rm : Nat) (a1 : Int32) (I : MI) (L : ML) : Option ((Int32 × Mm) × Nat) :=
  Option.bind (f_X2_hasSet a1 I L) (fun q_1 =>
  if (b2i q_1) = 0 then
  Option.bind (f_X7_refuse 2 I L) (fun q_8 =>
  some ((q_8.1, q_8.2.1, q_8.2.2), rm))
  else
  Option.bind (f_X7_hurdle I L) (fun q_2 =>
  if q_2 = 0 then
  Option.bind (f_X2_all rm I L) (fun q_3 => chk (decide (q_3.2 ≤ 5040)) (
  chk (decide (q_3.2 ≠ 0)) (Option.bind (f_X4_countKeeping q_3.2 a1 q_3.1.1 q_3.1.2) (fun q_5 =>
  Option.bind (f_X7_tell q_5 q_3.1.1 q_3.1.2) (fun q_6 =>
  some ((q_6.1, q_6.2.1, q_6.2.2), q_3.2))))))
  else
  Option.bind (f_X7_refuse q_2 I L) (fun q_7 =>
  some ((q_7.1, q_7.2.1, q_7.2.2), rm))))
def f_X7_brings (rm : Nat) (a1 : Int32) (a2 : Int32) (I : MI) (L : ML) : Option ((Int32 × Mm) × Nat) :=
  Option.bind (f_X2_hasSet a1 I L) (fun q_1 =>
  if (b2i q_1) = 0 then
  Option.bind (f_X7_refuse 2 I L) (fun q_2 =>
  some ((q_2.1, q_2.2.1, q_2.2.2), rm))
  else
  Option.bind (f_X2_hasSet a2 I L) (fun q_3 =>
  if (b2i q_3) = 0 then
  Option.bind (f_X7_refuse 2 I L) (fun q_11 =>
  some ((q_11.1, q_11.2.1, q_11.2.2), rm))
  else
  Option.bind (f_X7_hurdle I L) (fun q_4 =>
  if q_4 = 0 then
  Option.bind (f_X2_all rm I L) (fun q_5 => chk (decide (q_5.2 ≤ 5040)) (
  chk (decide (q_5.2 ≠ 0)) (Option.bind (f_X4_firstBringing q_5.2 a1 a2 q_5.1.1 q_5.1.2) (fun q_7 =>
  if 0 ≤ q_7 then
  Option.bind (f_X7_tell q_7 q_5.1.1 q_5.1.2) (fun q_8 =>
  some ((q_8.1, q_8.2.1, q_8.2.2), q_5.2))
  else
  Option.bind (f_X7_refuse 5 q_5.1.1 q_5.1.2) (fun q_9 =>
  some ((q_9.1, q_9.2.1, q_9.2.2), q_5.2))))))
  else
  Option.bind (f_X7_refuse q_4 I L) (fun q_10 =>
  some ((q_10.1, q_10.2.1, q_10.2.2), rm)))))
def f_X7_block (a1 : Int32) (a2 : Int32) (I : MI) (L : ML) : Option (Int32 × Mm) :=
  Option.bind (f_X2_hasPoint a1 I L) (fun q_1 =>
  if (b2i q_1) = 0 then
  Option.bind (f_X7_refuse 2 I L) (fun q_2 =>
  some (q_2.1, q_2.2.1, q_2.2.2))
  else
  Option.bind (f_X2_hasPoint a2 I L) (fun q_3 =>
  if (b2i q_3) = 0 then
  Option.bind (f_X7_refuse 2 I L) (fun q_7 =>
  some (q_7.1, q_7.2.1, q_7.2.2))
  else
  if a1 = a2 then
  Option.bind (f_X7_refuse 4 I L) (fun q_6 =>
  some (q_6.1, q_6.2.1, q_6.2.2))
  else
  Option.bind (f_X2_blockOf a1 a2 I L) (fun q_4 =>
  Option.bind (f_X7_tell q_4.1 q_4.2.1 q_4.2.2) (fun q_5 =>
  some (q_5.1, q_5.2.1, q_5.2.2)))))
def f_X7_anywhere (I : MI) (L : ML) : Option (Int32 × Mm) :=
  if (I 6 0) = 0 then
  Option.bind (f_X7_refuse 5 I L) (fun q_3 =>
  some (q_3.1, q_3.2.1, q_3.2.2))
  else
  Option.bind (f_X0_countFree 8 I L) (fun q_1 =>
  Option.bind (f_X7_tell q_1 I L) (fun q_2 =>
  some (q_2.1, q_2.2.1, q_2.2.2)))
def f_X7_fixing (rm : Nat) (a1 : Int32) (I : MI) (L : ML) : Option ((Int32 × Mm) × Nat) :=
  if a1 < 0 then
  Option.bind (f_X7_refuse 1 I L) (fun q_1 =>
  some ((q_1.1, q_1.2.1, q_1.2.2), rm))
  else
  if a1 ≤ 10 then
  Option.bind (f_X7_hurdle I L) (fun q_2 =>
  if q_2 = 0 then
  Option.bind (f_X2_shaped rm I L) (fun q_3 => chk (decide (q_3.2 ≤ 5040)) (
  chk (decide (q_3.2 ≠ 0)) (Option.bind (f_X4_countStaying q_3.2 a1 q_3.1.1 q_3.1.2) (fun q_5 =>
  Option.bind (f_X7_tell q_5 q_3.1.1 q_3.1.2) (fun q_6 =>
  some ((q_6.1, q_6.2.1, q_6.2.2), q_3.2))))))
  else
  Option.bind (f_X7_refuse q_2 I L) (fun q_7 =>
  some ((q_7.1, q_7.2.1, q_7.2.2), rm)))
  else
  Option.bind (f_X7_refuse 1 I L) (fun q_8 =>
  some ((q_8.1, q_8.2.1, q_8.2.2), rm))
def f_X7_colours (rm : Nat) (a1 : Int32) (I : MI) (L : ML) : Option ((Int64 × Mm) × Nat) :=
  if a1 < 1 then
  Option.bind (f_X7_refuse 1 I L) (fun q_1 =>
  some (((Int32.toInt64 q_1.1), q_1.2.1, q_1.2.2), rm))
  else
  if a1 ≤ 5 then
  Option.bind (f_X7_hurdle I L) (fun q_2 =>
  if q_2 = 0 then
  bnd (up2 I 0 6 0) (fun I_3 =>
  Option.bind (f_X2_shaped rm I_3 L) (fun q_4 => chk (decide (q_4.2 ≤ 5040)) (
  chk (decide (q_4.2 ≠ 0)) (Option.bind (f_X4_countColourings q_4.2 a1 q_4.1.1 q_4.1.2) (fun q_6 =>
  some ((q_6, q_4.1.1, q_4.1.2), q_4.2))))))
  else
  Option.bind (f_X7_refuse q_2 I L) (fun q_7 =>
  some (((Int32.toInt64 q_7.1), q_7.2.1, q_7.2.2), rm)))
  else
  Option.bind (f_X7_refuse 1 I L) (fun q_8 =>
  some (((Int32.toInt64 q_8.1), q_8.2.1, q_8.2.2), rm))
def f_X7_typed (rm : Nat) (a1 : Int64) (I : MI) (L : ML) : Option ((Int32 × Mm) × Nat) :=
  Option.bind (f_X7_read a1 I L) (fun q_1 =>
  if 0 ≤ (lg_cmp q_1 0) then
  Option.bind (f_X7_hurdle I L) (fun q_2 =>
  if q_2 = 0 then
  Option.bind (f_X2_shaped rm I L) (fun q_3 => chk (decide (q_3.2 ≤ 5040)) (
  chk (decide (q_3.2 ≠ 0)) (Option.bind (f_X6_shape q_1 (q_3.1.1 6 0)) (fun q_5 =>
  Option.bind (f_X4_countShaped q_3.2 q_5 q_3.1.1 q_3.1.2) (fun q_6 =>
  Option.bind (f_X7_tell q_6 q_3.1.1 q_3.1.2) (fun q_7 =>
  some ((q_7.1, q_7.2.1, q_7.2.2), q_3.2)))))))
  else
  Option.bind (f_X7_refuse q_2 I L) (fun q_8 =>
  some ((q_8.1, q_8.2.1, q_8.2.2), rm)))
  else
  Option.bind (f_X7_refuse 1 I L) (fun q_9 =>
  some ((q_9.1, q_9.2.1, q_9.2.2), rm)))
def f_X7_root (rm : Nat) (a1 : Int64) (a3 : Int32) (I : MI) (L : ML) : Option ((Int32 × Mm) × Nat) :=
  Option.bind (f_X7_read a1 I L) (fun q_1 =>
  if (lg_cmp q_1 0) < 0 then
  Option.bind (f_X7_refuse 1 I L) (fun q_2 =>
  some ((q_2.1, q_2.2.1, q_2.2.2), rm))
  else
  if a3 < 1 then
  Option.bind (f_X7_refuse 1 I L) (fun q_3 =>
  some ((q_3.1, q_3.2.1, q_3.2.2), rm))
  else
  if a3 ≤ 1000 then
  Option.bind (f_X7_hurdle I L) (fun q_4 =>
  if q_4 = 0 then
  Option.bind (f_X2_all rm I L) (fun q_5 => chk (decide (q_5.2 ≤ 5040)) (
  chk (decide (q_5.2 ≠ 0)) (Option.bind (f_X4_firstRoot q_5.2 q_1 a3 q_5.1.1 q_5.1.2) (fun q_7 =>
  if 0 ≤ q_7 then
  Option.bind (f_X7_tell q_7 q_5.1.1 q_5.1.2) (fun q_8 =>
  some ((q_8.1, q_8.2.1, q_8.2.2), q_5.2))
  else
  Option.bind (f_X7_refuse 5 q_5.1.1 q_5.1.2) (fun q_9 =>
  some ((q_9.1, q_9.2.1, q_9.2.2), q_5.2))))))
  else
  Option.bind (f_X7_refuse q_4 I L) (fun q_10 =>
  some ((q_10.1, q_10.2.1, q_10.2.2), rm)))
  else
  Option.bind (f_X7_refuse 1 I L) (fun q_11 =>
  some ((q_11.1, q_11.2.1, q_11.2.2), rm)))
def f_X7_slightest (rm : Nat) (I : MI) (L : ML) : Option ((Int32 × Mm) × Nat) :=
  Option.bind (f_X7_hurdle I L) (fun q_1 =>
  if q_1 = 0 then
  Option.bind (f_X2_shaped rm I L) (fun q_2 => chk (decide (q_2.2 ≤ 5040)) (
  chk (decide (q_2.2 ≠ 0)) (Option.bind (f_X4_fewestMoved q_2.2 q_2.1.1 q_2.1.2) (fun q_4 =>
  if q_4 = 0 then
  Option.bind (f_X7_refuse 5 q_2.1.1 q_2.1.2) (fun q_6 =>
  some ((q_6.1, q_6.2.1, q_6.2.2), q_2.2))
  else
  Option.bind (f_X7_tell q_4 q_2.1.1 q_2.1.2) (fun q_5 =>
  some ((q_5.1, q_5.2.1, q_5.2.2), q_2.2))))))
  else
  Option.bind (f_X7_refuse q_1 I L) (fun q_7 =>
  some ((q_7.1, q_7.2.1, q_7.2.2), rm)))
def f_X7_ofOrder (rm : Nat) (a1 : Int32) (I : MI) (L : ML) : Option ((Int32 × Mm) × Nat) :=
  if 1 ≤ a1 then
  Option.bind (f_X7_hurdle I L) (fun q_1 =>
  if q_1 = 0 then
  Option.bind (f_X2_shaped rm I L) (fun q_2 => chk (decide (q_2.2 ≤ 5040)) (
  chk (decide (q_2.2 ≠ 0)) (Option.bind (f_X4_countPeriod q_2.2 a1 q_2.1.1 q_2.1.2) (fun q_4 =>
  if q_4 = 0 then
  Option.bind (f_X7_refuse 5 q_2.1.1 q_2.1.2) (fun q_6 =>
  some ((q_6.1, q_6.2.1, q_6.2.2), q_2.2))
  else
  Option.bind (f_X7_tell q_4 q_2.1.1 q_2.1.2) (fun q_5 =>
  some ((q_5.1, q_5.2.1, q_5.2.2), q_2.2))))))
  else
  Option.bind (f_X7_refuse q_1 I L) (fun q_7 =>
  some ((q_7.1, q_7.2.1, q_7.2.2), rm)))
  else
  Option.bind (f_X7_refuse 1 I L) (fun q_8 =>
  some ((q_8.1, q_8.2.1, q_8.2.2), rm))
def f_X7_keepPast (I : MI) (L : ML) : Option Mm :=
  Option.bind (f_X3_keep (L 0 5) 7 (I 6 1) I L) (fun q_1 =>
  some (q_1.1, q_1.2))
def f_X7_countAway (I : MI) (L : ML) : Option Int32 :=
  Option.bind (f_X6_moved (L 0 5) (I 6 0)) (fun q_1 =>
  Option.bind (f_J6_bitCount_0f7a4 q_1) (fun q_2 =>
  some q_2))
def f_X7_turn (a1 : Int32) (I : MI) (L : ML) : Option (Int32 × Mm) :=
  Option.bind (f_X2_hasStep a1 I L) (fun q_1 =>
  if (b2i q_1) = 0 then
  Option.bind (f_X7_refuse 2 I L) (fun q_8 =>
  some (q_8.1, q_8.2.1, q_8.2.2))
  else
  Option.bind (f_X7_keepPast I L) (fun q_2 =>
  Option.bind (f_X2_turnOf a1 q_2.1 q_2.2) (fun q_3 =>
  Option.bind (f_X6_compose (q_2.2 0 5) q_3 (q_2.1 6 0)) (fun q_4 =>
  bnd (up2 q_2.2 0 5 q_4) (fun L_5 =>
  Option.bind (f_X7_countAway q_2.1 L_5) (fun q_6 =>
  Option.bind (f_X7_tell ((q_2.1 6 0) - q_6) q_2.1 L_5) (fun q_7 =>
  some (q_7.1, q_7.2.1, q_7.2.2))))))))
def f_X7_place (a1 : Int64) (I : MI) (L : ML) : Option (Int32 × Mm) :=
  Option.bind (f_X7_read a1 I L) (fun q_1 =>
  if 0 ≤ (lg_cmp q_1 0) then
  if (lg_cmp q_1 (L 0 5)) = 0 then
  Option.bind (f_X7_refuse 4 I L) (fun q_6 =>
  some (q_6.1, q_6.2.1, q_6.2.2))
  else
  Option.bind (f_X7_keepPast I L) (fun q_2 =>
  bnd (up2 q_2.2 0 5 q_1) (fun L_3 =>
  Option.bind (f_X0_follow 8 q_1 q_2.1 L_3) (fun q_4 =>
  Option.bind (f_X7_tell q_4 q_2.1 L_3) (fun q_5 =>
  some (q_5.1, q_5.2.1, q_5.2.2)))))
  else
  Option.bind (f_X7_refuse 1 I L) (fun q_7 =>
  some (q_7.1, q_7.2.1, q_7.2.2)))
def f_X7_home (I : MI) (L : ML) : Option (Int32 × Mm) :=
  if (I 6 0) = 0 then
  Option.bind (f_X7_refuse 5 I L) (fun q_8 =>
  some (q_8.1, q_8.2.1, q_8.2.2))
  else
  Option.bind (f_X7_isHome (L 0 5) I L) (fun q_1 =>
  if (b2i q_1) = 0 then
  Option.bind (f_X7_keepPast I L) (fun q_2 =>
  Option.bind (f_X7_countAway q_2.1 q_2.2) (fun q_3 =>
  Option.bind (f_X6_identity (q_2.1 6 0)) (fun q_4 =>
  bnd (up2 q_2.2 0 5 q_4) (fun L_5 =>
  Option.bind (f_X7_tell q_3 q_2.1 L_5) (fun q_6 =>
  some (q_6.1, q_6.2.1, q_6.2.2))))))
  else
  Option.bind (f_X7_refuse 4 I L) (fun q_7 =>
  some (q_7.1, q_7.2.1, q_7.2.2)))
def f_X7_add (a1 : Int64) (I : MI) (L : ML) : Option (Int32 × Mm) :=
  Option.bind (f_X7_read a1 I L) (fun q_1 =>
  if 0 ≤ (lg_cmp q_1 0) then
  if (I 6 1) < 6 then
  Option.bind (f_X7_keepPast I L) (fun q_2 =>
  Option.bind (f_X2_take q_1 q_2.1 q_2.2) (fun q_3 =>
  Option.bind (f_X2_size q_3.1 q_3.2) (fun q_4 =>
  Option.bind (f_X7_tell q_4 q_3.1 q_3.2) (fun q_5 =>
  some (q_5.1, q_5.2.1, q_5.2.2)))))
  else
  Option.bind (f_X7_refuse 3 I L) (fun q_6 =>
  some (q_6.1, q_6.2.1, q_6.2.2))
  else
  Option.bind (f_X7_refuse 1 I L) (fun q_7 =>
  some (q_7.1, q_7.2.1, q_7.2.2)))
def f_X7_drop (a1 : Int32) (I : MI) (L : ML) : Option (Int32 × Mm) :=
  if a1 < 0 then
  Option.bind (f_X7_refuse 2 I L) (fun q_1 =>
  some (q_1.1, q_1.2.1, q_1.2.2))
  else
  if a1 < (I 6 1) then
  Option.bind (f_X7_keepPast I L) (fun q_2 =>
  Option.bind (f_X2_lose a1 q_2.1 q_2.2) (fun q_3 =>
  Option.bind (f_X2_size q_3.1 q_3.2) (fun q_4 =>
  Option.bind (f_X7_tell q_4 q_3.1 q_3.2) (fun q_5 =>
  some (q_5.1, q_5.2.1, q_5.2.2)))))
  else
  Option.bind (f_X7_refuse 2 I L) (fun q_6 =>
  some (q_6.1, q_6.2.1, q_6.2.2))
def f_X7_undo (I : MI) (L : ML) : Option (Int32 × Mm) :=
  if (I 37 0) = 0 then
  Option.bind (f_X7_refuse 5 I L) (fun q_7 =>
  some (q_7.1, q_7.2.1, q_7.2.2))
  else
  Option.bind (f_X3_goBack I L) (fun q_1 =>
  bnd (up2 q_1.2 0 5 (q_1.2 37 1)) (fun L_2 =>
  Option.bind (f_X2_hasJust 38 (q_1.1 37 2) q_1.1 L_2) (fun q_3 =>
  if (b2i q_3) = 0 then
  Option.bind (f_X2_become (q_1.1 6 0) 38 (q_1.1 37 2) q_1.1 L_2) (fun q_5 =>
  Option.bind (f_X7_tell (q_5.1 37 0) q_5.1 q_5.2) (fun q_6 =>
  some (q_6.1, q_6.2.1, q_6.2.2)))
  else
  Option.bind (f_X7_tell (q_1.1 37 0) q_1.1 L_2) (fun q_4 =>
  some (q_4.1, q_4.2.1, q_4.2.2)))))
def f_X7_printByte (a1 : Int32) (I : MI) (L : ML) : Option Mm :=
  if 32 ≤ (I 0 4) then
  some (I, L)
  else
  chk (inb (I 0 4) 32) (bnd (up2 I 42 (ix (I 0 4)) (vp_nar .byte (i2b a1))) (fun I_1 =>
  bnd (up2 I_1 0 4 ((I_1 0 4) + 1)) (fun I_2 =>
  some (I_2, L))))
def f_X7_printCycle_29 (v1_5 : Int64) (v3_6 : Int32) (k0 : Int32 → MI → ML → Option (Int32 × Mm)) : Nat → Int32 → Int32 → Int32 → MI → ML → Option (Int32 × Mm)
  | 0, _, _, _, _, _ => none
  | n + 1, v4_7, v5_8, v6_9, I_10, L_11 =>
    if 10 ≤ v6_9 then
    (k0 v4_7 I_10 L_11)
    else
    if v5_8 = v3_6 then
    (k0 v4_7 I_10 L_11)
    else
    Option.bind (f_X7_printByte 32 I_10 L_11) (fun q_12 =>
    Option.bind (f_X7_printByte (48 + v5_8) q_12.1 q_12.2) (fun q_13 =>
    bnd ((v4_7 ||| (shl 1 v5_8)) : Int32) (fun v4_14 =>
    Option.bind (f_X6_image v1_5 v5_8) (fun q_15 =>
    bnd (v6_9 + 1 : Int32) (fun v6_16 =>
    f_X7_printCycle_29 v1_5 v3_6 k0 n v4_14 q_15 v6_16 q_13.1 q_13.2)))))
def f_X7_printCycle (a1 : Int64) (a3 : Int32) (I : MI) (L : ML) : Option (Int32 × Mm) :=
  Option.bind (f_X7_printByte 40 I L) (fun q_1 =>
  Option.bind (f_X7_printByte (48 + a3) q_1.1 q_1.2) (fun q_2 =>
  bnd ((shl 1 a3) : Int32) (fun v4_3 =>
  Option.bind (f_X6_image a1 a3) (fun q_4 =>
  f_X7_printCycle_29 a1 a3 (fun (v4_17 : Int32) (I_18 : MI) (L_19 : ML) =>
  Option.bind (f_X7_printByte 41 I_18 L_19) (fun q_20 =>
  some (v4_17, q_20.1, q_20.2))) FU v4_3 q_4 0 q_2.1 q_2.2))))
def f_X7_printCycles_10 (v1_2 : Int64) (k0 : MI → ML → Option Mm) : Nat → Int32 → Int32 → MI → ML → Option Mm
  | 0, _, _, _, _ => none
  | n + 1, v3_3, v4_4, I_5, L_6 =>
    if (I_5 6 0) ≤ v4_4 then
    (k0 I_5 L_6)
    else
    bnd ((fun (s0_7 : Bool) =>
    bnd ((b2i s0_7) : Int32) (fun v5_8 =>
    bnd ((v3_3 ||| (shl 1 v4_4)) : Int32) (fun v3_9 =>
    if v5_8 = 0 then
    bnd (v4_4 + 1 : Int32) (fun v4_10 =>
    f_X7_printCycles_10 v1_2 k0 n v3_9 v4_10 I_5 L_6)
    else
    Option.bind (f_X6_image v1_2 v4_4) (fun q_11 =>
    if q_11 = v4_4 then
    bnd (v4_4 + 1 : Int32) (fun v4_12 =>
    f_X7_printCycles_10 v1_2 k0 n v3_9 v4_12 I_5 L_6)
    else
    Option.bind (f_X7_printCycle v1_2 v4_4 I_5 L_6) (fun q_13 =>
    bnd ((v3_9 ||| q_13.1) : Int32) (fun v3_14 =>
    bnd (v4_4 + 1 : Int32) (fun v4_15 =>
    f_X7_printCycles_10 v1_2 k0 n v3_14 v4_15 q_13.2.1 q_13.2.2))))))) : Bool → Option Mm) (fun j36_168 =>
    if ((shr v3_3 v4_4) &&& 1) = 0 then
    (j36_168 true)
    else
    (j36_168 false))
def f_X7_printCycles (a1 : Int64) (I : MI) (L : ML) : Option Mm :=
  bnd (up2 I 0 4 0) (fun I_1 =>
  f_X7_printCycles_10 a1 (fun (I_16 : MI) (L_17 : ML) =>
  if (I_16 0 4) = 0 then
  Option.bind (f_X7_printByte 40 I_16 L_17) (fun q_18 =>
  Option.bind (f_X7_printByte 41 q_18.1 q_18.2) (fun q_19 =>
  some (q_19.1, q_19.2)))
  else
  some (I_16, L_17)) FU 0 0 I_1 L)
def f_X7_print (a1 : Int64) (I : MI) (L : ML) : Option (Int32 × Mm) :=
  Option.bind (f_X7_read a1 I L) (fun q_1 =>
  if 0 ≤ (lg_cmp q_1 0) then
  Option.bind (f_X7_printCycles q_1 I L) (fun q_2 =>
  Option.bind (f_X7_tell (q_2.1 0 4) q_2.1 q_2.2) (fun q_3 =>
  some (q_3.1, q_3.2.1, q_3.2.2)))
  else
  Option.bind (f_X7_refuse 1 I L) (fun q_4 =>
  some (q_4.1, q_4.2.1, q_4.2.2)))
def f_X7_out (a1 : Int32) (I : MI) (L : ML) : Option (Int32 × Mm) :=
  if 0 ≤ a1 then
  if (I 0 4) ≤ a1 then
  Option.bind (f_X7_refuse 5 I L) (fun q_1 =>
  some (q_1.1, q_1.2.1, q_1.2.2))
  else
  if a1 < 32 then
  chk (inb a1 32) (
  Option.bind (f_X7_tell (I 42 (ix a1)) I L) (fun q_2 =>
  some (q_2.1, q_2.2.1, q_2.2.2)))
  else
  Option.bind (f_X7_refuse 5 I L) (fun q_3 =>
  some (q_3.1, q_3.2.1, q_3.2.2))
  else
  Option.bind (f_X7_refuse 1 I L) (fun q_4 =>
  some (q_4.1, q_4.2.1, q_4.2.2))
