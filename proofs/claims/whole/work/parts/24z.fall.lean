def nwI (room : Int32) (I : MI) : MI := fun p j => if 69 ≤ p then (if p = 69 ∧ j = 0 then room else 0) else I p j
def nwL (L : ML) : ML := fun p j => if 69 ≤ p then 0 else L p j
def rOK (room : Int32) (rm : Nat) : Bool := decide (1 ≤ room.toInt) && (decide (room.toInt ≤ 5040) && decide (ix room ≠ rm))
def f_X2_all_T (rm : Nat) (I : MI) (L : ML) : Option (Mm × Nat) :=
  if (I 6 11) = 0 then
  Option.bind (f_X4_fill rm 8 (I 6 0) I L) (fun q =>
  bnd (up2 q.1 6 11 1) (fun I1 => some ((I1, q.2), rm)))
  else some ((I, L), rm)
def f_X2_all (rm : Nat) (I : MI) (L : ML) : Option (Mm × Nat) :=
  Option.bind (f_X0_size 8 I L) (fun q =>
  bnd (imin q 5040) (fun size =>
  if rm = 0 then
  bnd (imax size 1) (fun room => chk (rOK room rm) (
  bnd (nwI room I) (fun I1 => bnd (nwL L) (fun L1 =>
  if size ≤ I1 69 0 then f_X2_all_T (ix room) I1 L1 else none))))
  else
  if size ≤ I 69 0 then f_X2_all_T rm I L
  else
  bnd (imax (imin (imax size (2 * (I 69 0))) 5040) 1) (fun room => chk (rOK room rm) (
  bnd (nwI room I) (fun I1 => bnd (nwL L) (fun L1 => f_X2_all_T (ix room) I1 L1)))) ))
