def K0 : KT := [(6, 0), (5, 0), (12, 400), (11, 6), (10, 6), (10, 6), (2, 0), (11, 6), (0, 0), (10, 10), (11, 160), (11, 160), (11, 160), (10, 10), (10, 160), (0, 0), (10, 10), (11, 160), (11, 160), (11, 160), (10, 10), (10, 160), (0, 0), (10, 10), (11, 160), (11, 160), (11, 160), (10, 10), (10, 160), (10, 64), (1, 0), (10, 32), (11, 16), (1, 0), (10, 32), (11, 16), (10, 16), (3, 0), (11, 6), (11, 12), (10, 12), (11, 72), (12, 32), (7, 0), (10, 71), (10, 852), (10, 10), (10, 10), (10, 10), (10, 10), (10, 10), (10, 10), (13, 400), (10, 4000), (10, 10), (10, 10), (10, 10), (10, 10), (10, 10), (10, 10), (10, 50400), (10, 5040), (10, 5040), (10, 5040), (10, 10), (12, 40), (12, 400), (11, 6), (10, 60)]
def KR (r : Nat) : KT := [(4, 0), (10, r), (10, r), (11, r), (11, r), (10, r), (10, r), (14, 12), (10, r), (10, r), (10, r), (10, r), (10, r), (10, r), (10, r), (10, r), (10, r), (10, r), (10, r), (10, r)]
def lK (rm : Nat) : KT := if rm = 0 then K0 else K0 ++ KR rm
def RL0 : List ((Nat × Nat) × Nat) := [((1, 0), 2), ((1, 9), 3), ((1, 10), 4), ((1, 11), 5), ((0, 0), 1), ((6, 2), 7), ((8, 2), 9), ((8, 3), 10), ((8, 4), 11), ((8, 5), 12), ((8, 6), 13), ((8, 7), 14), ((6, 3), 8), ((15, 2), 16), ((15, 3), 17), ((15, 4), 18), ((15, 5), 19), ((15, 6), 20), ((15, 7), 21), ((6, 5), 15), ((22, 2), 23), ((22, 3), 24), ((22, 4), 25), ((22, 5), 26), ((22, 6), 27), ((22, 7), 28), ((6, 6), 22), ((6, 7), 29), ((30, 0), 31), ((30, 1), 32), ((6, 8), 30), ((33, 0), 34), ((33, 1), 35), ((6, 9), 33), ((6, 12), 36), ((0, 1), 6), ((37, 3), 38), ((37, 4), 39), ((37, 5), 40), ((37, 6), 41), ((0, 2), 37), ((0, 3), 42), ((43, 4), 44), ((43, 5), 45), ((43, 6), 46), ((43, 7), 47), ((43, 8), 48), ((43, 9), 49), ((43, 10), 50), ((43, 11), 51), ((43, 12), 52), ((43, 13), 53), ((43, 14), 54), ((43, 15), 55), ((43, 16), 56), ((43, 17), 57), ((43, 18), 58), ((43, 19), 59), ((43, 21), 60), ((43, 22), 61), ((43, 23), 62), ((43, 25), 63), ((43, 26), 64), ((43, 27), 65), ((43, 29), 66), ((43, 43), 67), ((43, 44), 68)]
def R0 (p k : Nat) : Option Nat := match RL0.find? (fun e => e.1 == (p, k)) with
  | some e => some e.2
  | none => if p = 69 then (if 4 ≤ k ∧ k ≤ 10 then some (66 + k) else none) else if p = 76 then (if k < 12 then some (77 + k) else none) else none
def lR (rm : Nat) : MR := fun p k => if p = 6 ∧ k = 10 then (if rm = 0 then none else some 69) else R0 p k
theorem lK_lo {rm p : Nat} {k : Nat × Nat} (h : K0[p]? = some k) : (lK rm)[p]? = some k := by
  unfold lK
  split
  · exact h
  · rw [List.getElem?_append_left (List.getElem?_eq_some_iff.mp h).1]; exact h
theorem lK_hi {rm p : Nat} {k : Nat × Nat} (hr : rm ≠ 0) (h : (KR rm)[p]? = some k) : (lK rm)[69 + p]? = some k := by
  unfold lK
  rw [if_neg hr, List.getElem?_append_right (by show 69 ≤ 69 + p; omega)]
  show (KR rm)[69 + p - 69]? = _
  rw [Nat.add_sub_cancel_left]; exact h
theorem lR_ne {rm p k : Nat} (h : ¬ (p = 6 ∧ k = 10)) : lR rm p k = R0 p k := if_neg h
section LY
variable {β : Type} {G : GT β} {rm : Nat}
theorem k_0 (hK : gK G = lK rm) : (gK G)[0]? = some (6, 0) := by rw [hK]; exact lK_lo rfl
theorem k_1 (hK : gK G = lK rm) : (gK G)[1]? = some (5, 0) := by rw [hK]; exact lK_lo rfl
theorem k_2 (hK : gK G = lK rm) : (gK G)[2]? = some (12, 400) := by rw [hK]; exact lK_lo rfl
theorem k_3 (hK : gK G = lK rm) : (gK G)[3]? = some (11, 6) := by rw [hK]; exact lK_lo rfl
theorem k_4 (hK : gK G = lK rm) : (gK G)[4]? = some (10, 6) := by rw [hK]; exact lK_lo rfl
theorem k_5 (hK : gK G = lK rm) : (gK G)[5]? = some (10, 6) := by rw [hK]; exact lK_lo rfl
theorem k_6 (hK : gK G = lK rm) : (gK G)[6]? = some (2, 0) := by rw [hK]; exact lK_lo rfl
theorem k_7 (hK : gK G = lK rm) : (gK G)[7]? = some (11, 6) := by rw [hK]; exact lK_lo rfl
theorem k_8 (hK : gK G = lK rm) : (gK G)[8]? = some (0, 0) := by rw [hK]; exact lK_lo rfl
theorem k_9 (hK : gK G = lK rm) : (gK G)[9]? = some (10, 10) := by rw [hK]; exact lK_lo rfl
theorem k_10 (hK : gK G = lK rm) : (gK G)[10]? = some (11, 160) := by rw [hK]; exact lK_lo rfl
theorem k_11 (hK : gK G = lK rm) : (gK G)[11]? = some (11, 160) := by rw [hK]; exact lK_lo rfl
theorem k_12 (hK : gK G = lK rm) : (gK G)[12]? = some (11, 160) := by rw [hK]; exact lK_lo rfl
theorem k_13 (hK : gK G = lK rm) : (gK G)[13]? = some (10, 10) := by rw [hK]; exact lK_lo rfl
theorem k_14 (hK : gK G = lK rm) : (gK G)[14]? = some (10, 160) := by rw [hK]; exact lK_lo rfl
theorem k_15 (hK : gK G = lK rm) : (gK G)[15]? = some (0, 0) := by rw [hK]; exact lK_lo rfl
theorem k_16 (hK : gK G = lK rm) : (gK G)[16]? = some (10, 10) := by rw [hK]; exact lK_lo rfl
theorem k_17 (hK : gK G = lK rm) : (gK G)[17]? = some (11, 160) := by rw [hK]; exact lK_lo rfl
theorem k_18 (hK : gK G = lK rm) : (gK G)[18]? = some (11, 160) := by rw [hK]; exact lK_lo rfl
theorem k_19 (hK : gK G = lK rm) : (gK G)[19]? = some (11, 160) := by rw [hK]; exact lK_lo rfl
theorem k_20 (hK : gK G = lK rm) : (gK G)[20]? = some (10, 10) := by rw [hK]; exact lK_lo rfl
theorem k_21 (hK : gK G = lK rm) : (gK G)[21]? = some (10, 160) := by rw [hK]; exact lK_lo rfl
theorem k_22 (hK : gK G = lK rm) : (gK G)[22]? = some (0, 0) := by rw [hK]; exact lK_lo rfl
theorem k_23 (hK : gK G = lK rm) : (gK G)[23]? = some (10, 10) := by rw [hK]; exact lK_lo rfl
theorem k_24 (hK : gK G = lK rm) : (gK G)[24]? = some (11, 160) := by rw [hK]; exact lK_lo rfl
theorem k_25 (hK : gK G = lK rm) : (gK G)[25]? = some (11, 160) := by rw [hK]; exact lK_lo rfl
theorem k_26 (hK : gK G = lK rm) : (gK G)[26]? = some (11, 160) := by rw [hK]; exact lK_lo rfl
theorem k_27 (hK : gK G = lK rm) : (gK G)[27]? = some (10, 10) := by rw [hK]; exact lK_lo rfl
theorem k_28 (hK : gK G = lK rm) : (gK G)[28]? = some (10, 160) := by rw [hK]; exact lK_lo rfl
theorem k_29 (hK : gK G = lK rm) : (gK G)[29]? = some (10, 64) := by rw [hK]; exact lK_lo rfl
theorem k_30 (hK : gK G = lK rm) : (gK G)[30]? = some (1, 0) := by rw [hK]; exact lK_lo rfl
theorem k_31 (hK : gK G = lK rm) : (gK G)[31]? = some (10, 32) := by rw [hK]; exact lK_lo rfl
theorem k_32 (hK : gK G = lK rm) : (gK G)[32]? = some (11, 16) := by rw [hK]; exact lK_lo rfl
theorem k_33 (hK : gK G = lK rm) : (gK G)[33]? = some (1, 0) := by rw [hK]; exact lK_lo rfl
theorem k_34 (hK : gK G = lK rm) : (gK G)[34]? = some (10, 32) := by rw [hK]; exact lK_lo rfl
theorem k_35 (hK : gK G = lK rm) : (gK G)[35]? = some (11, 16) := by rw [hK]; exact lK_lo rfl
theorem k_36 (hK : gK G = lK rm) : (gK G)[36]? = some (10, 16) := by rw [hK]; exact lK_lo rfl
theorem k_37 (hK : gK G = lK rm) : (gK G)[37]? = some (3, 0) := by rw [hK]; exact lK_lo rfl
theorem k_38 (hK : gK G = lK rm) : (gK G)[38]? = some (11, 6) := by rw [hK]; exact lK_lo rfl
theorem k_39 (hK : gK G = lK rm) : (gK G)[39]? = some (11, 12) := by rw [hK]; exact lK_lo rfl
theorem k_40 (hK : gK G = lK rm) : (gK G)[40]? = some (10, 12) := by rw [hK]; exact lK_lo rfl
theorem k_41 (hK : gK G = lK rm) : (gK G)[41]? = some (11, 72) := by rw [hK]; exact lK_lo rfl
theorem k_42 (hK : gK G = lK rm) : (gK G)[42]? = some (12, 32) := by rw [hK]; exact lK_lo rfl
theorem k_43 (hK : gK G = lK rm) : (gK G)[43]? = some (7, 0) := by rw [hK]; exact lK_lo rfl
theorem k_44 (hK : gK G = lK rm) : (gK G)[44]? = some (10, 71) := by rw [hK]; exact lK_lo rfl
theorem k_45 (hK : gK G = lK rm) : (gK G)[45]? = some (10, 852) := by rw [hK]; exact lK_lo rfl
theorem k_46 (hK : gK G = lK rm) : (gK G)[46]? = some (10, 10) := by rw [hK]; exact lK_lo rfl
theorem k_47 (hK : gK G = lK rm) : (gK G)[47]? = some (10, 10) := by rw [hK]; exact lK_lo rfl
theorem k_48 (hK : gK G = lK rm) : (gK G)[48]? = some (10, 10) := by rw [hK]; exact lK_lo rfl
theorem k_49 (hK : gK G = lK rm) : (gK G)[49]? = some (10, 10) := by rw [hK]; exact lK_lo rfl
theorem k_50 (hK : gK G = lK rm) : (gK G)[50]? = some (10, 10) := by rw [hK]; exact lK_lo rfl
theorem k_51 (hK : gK G = lK rm) : (gK G)[51]? = some (10, 10) := by rw [hK]; exact lK_lo rfl
theorem k_52 (hK : gK G = lK rm) : (gK G)[52]? = some (13, 400) := by rw [hK]; exact lK_lo rfl
theorem k_53 (hK : gK G = lK rm) : (gK G)[53]? = some (10, 4000) := by rw [hK]; exact lK_lo rfl
theorem k_54 (hK : gK G = lK rm) : (gK G)[54]? = some (10, 10) := by rw [hK]; exact lK_lo rfl
theorem k_55 (hK : gK G = lK rm) : (gK G)[55]? = some (10, 10) := by rw [hK]; exact lK_lo rfl
theorem k_56 (hK : gK G = lK rm) : (gK G)[56]? = some (10, 10) := by rw [hK]; exact lK_lo rfl
theorem k_57 (hK : gK G = lK rm) : (gK G)[57]? = some (10, 10) := by rw [hK]; exact lK_lo rfl
theorem k_58 (hK : gK G = lK rm) : (gK G)[58]? = some (10, 10) := by rw [hK]; exact lK_lo rfl
theorem k_59 (hK : gK G = lK rm) : (gK G)[59]? = some (10, 10) := by rw [hK]; exact lK_lo rfl
theorem k_60 (hK : gK G = lK rm) : (gK G)[60]? = some (10, 50400) := by rw [hK]; exact lK_lo rfl
theorem k_61 (hK : gK G = lK rm) : (gK G)[61]? = some (10, 5040) := by rw [hK]; exact lK_lo rfl
theorem k_62 (hK : gK G = lK rm) : (gK G)[62]? = some (10, 5040) := by rw [hK]; exact lK_lo rfl
theorem k_63 (hK : gK G = lK rm) : (gK G)[63]? = some (10, 5040) := by rw [hK]; exact lK_lo rfl
theorem k_64 (hK : gK G = lK rm) : (gK G)[64]? = some (10, 10) := by rw [hK]; exact lK_lo rfl
theorem k_65 (hK : gK G = lK rm) : (gK G)[65]? = some (12, 40) := by rw [hK]; exact lK_lo rfl
theorem k_66 (hK : gK G = lK rm) : (gK G)[66]? = some (12, 400) := by rw [hK]; exact lK_lo rfl
theorem k_67 (hK : gK G = lK rm) : (gK G)[67]? = some (11, 6) := by rw [hK]; exact lK_lo rfl
theorem k_68 (hK : gK G = lK rm) : (gK G)[68]? = some (10, 60) := by rw [hK]; exact lK_lo rfl
theorem k_69 (hK : gK G = lK rm) (hrm : rm ≠ 0) : (gK G)[69]? = some (4, 0) := by rw [hK]; exact lK_hi (p := 0) hrm rfl
theorem k_70 (hK : gK G = lK rm) (hrm : rm ≠ 0) : (gK G)[70]? = some (10, rm) := by rw [hK]; exact lK_hi (p := 1) hrm rfl
theorem k_71 (hK : gK G = lK rm) (hrm : rm ≠ 0) : (gK G)[71]? = some (10, rm) := by rw [hK]; exact lK_hi (p := 2) hrm rfl
theorem k_72 (hK : gK G = lK rm) (hrm : rm ≠ 0) : (gK G)[72]? = some (11, rm) := by rw [hK]; exact lK_hi (p := 3) hrm rfl
theorem k_73 (hK : gK G = lK rm) (hrm : rm ≠ 0) : (gK G)[73]? = some (11, rm) := by rw [hK]; exact lK_hi (p := 4) hrm rfl
theorem k_74 (hK : gK G = lK rm) (hrm : rm ≠ 0) : (gK G)[74]? = some (10, rm) := by rw [hK]; exact lK_hi (p := 5) hrm rfl
theorem k_75 (hK : gK G = lK rm) (hrm : rm ≠ 0) : (gK G)[75]? = some (10, rm) := by rw [hK]; exact lK_hi (p := 6) hrm rfl
theorem k_76 (hK : gK G = lK rm) (hrm : rm ≠ 0) : (gK G)[76]? = some (14, 12) := by rw [hK]; exact lK_hi (p := 7) hrm rfl
theorem k_row (hK : gK G = lK rm) (hrm : rm ≠ 0) {i : Nat} (hi : i < 12) : (gK G)[77 + i]? = some (10, rm) := by
  rw [hK]
  have h := lK_hi (p := 8 + i) (k := (10, rm)) hrm (by
    match i, hi with
    | 0, _ => rfl
    | 1, _ => rfl
    | 2, _ => rfl
    | 3, _ => rfl
    | 4, _ => rfl
    | 5, _ => rfl
    | 6, _ => rfl
    | 7, _ => rfl
    | 8, _ => rfl
    | 9, _ => rfl
    | 10, _ => rfl
    | 11, _ => rfl
    | i + 12, hi => exact absurd hi (by omega))
  rw [show 77 + i = 69 + (8 + i) by omega]; exact h
theorem ix_lt {i : Int32} {n : Nat} (h : inb i n = true) : ix i < n := Nat.not_le.mp fun q => (inb_in h) (Or.inr q)
theorem r_0_0 (hR : gR G = lR rm) : gR G 0 0 = some 1 := by rw [hR]; rfl
theorem r_0_1 (hR : gR G = lR rm) : gR G 0 1 = some 6 := by rw [hR]; rfl
theorem r_0_2 (hR : gR G = lR rm) : gR G 0 2 = some 37 := by rw [hR]; rfl
theorem r_0_3 (hR : gR G = lR rm) : gR G 0 3 = some 42 := by rw [hR]; rfl
theorem r_1_0 (hR : gR G = lR rm) : gR G 1 0 = some 2 := by rw [hR]; rfl
theorem r_1_9 (hR : gR G = lR rm) : gR G 1 9 = some 3 := by rw [hR]; rfl
theorem r_1_10 (hR : gR G = lR rm) : gR G 1 10 = some 4 := by rw [hR]; rfl
theorem r_1_11 (hR : gR G = lR rm) : gR G 1 11 = some 5 := by rw [hR]; rfl
theorem r_6_2 (hR : gR G = lR rm) : gR G 6 2 = some 7 := by rw [hR]; rfl
theorem r_6_3 (hR : gR G = lR rm) : gR G 6 3 = some 8 := by rw [hR]; rfl
theorem r_6_5 (hR : gR G = lR rm) : gR G 6 5 = some 15 := by rw [hR]; rfl
theorem r_6_6 (hR : gR G = lR rm) : gR G 6 6 = some 22 := by rw [hR]; rfl
theorem r_6_7 (hR : gR G = lR rm) : gR G 6 7 = some 29 := by rw [hR]; rfl
theorem r_6_8 (hR : gR G = lR rm) : gR G 6 8 = some 30 := by rw [hR]; rfl
theorem r_6_9 (hR : gR G = lR rm) : gR G 6 9 = some 33 := by rw [hR]; rfl
theorem r_6_12 (hR : gR G = lR rm) : gR G 6 12 = some 36 := by rw [hR]; rfl
theorem r_8_2 (hR : gR G = lR rm) : gR G 8 2 = some 9 := by rw [hR]; rfl
theorem r_8_3 (hR : gR G = lR rm) : gR G 8 3 = some 10 := by rw [hR]; rfl
theorem r_8_4 (hR : gR G = lR rm) : gR G 8 4 = some 11 := by rw [hR]; rfl
theorem r_8_5 (hR : gR G = lR rm) : gR G 8 5 = some 12 := by rw [hR]; rfl
theorem r_8_6 (hR : gR G = lR rm) : gR G 8 6 = some 13 := by rw [hR]; rfl
theorem r_8_7 (hR : gR G = lR rm) : gR G 8 7 = some 14 := by rw [hR]; rfl
theorem r_15_2 (hR : gR G = lR rm) : gR G 15 2 = some 16 := by rw [hR]; rfl
theorem r_15_3 (hR : gR G = lR rm) : gR G 15 3 = some 17 := by rw [hR]; rfl
theorem r_15_4 (hR : gR G = lR rm) : gR G 15 4 = some 18 := by rw [hR]; rfl
theorem r_15_5 (hR : gR G = lR rm) : gR G 15 5 = some 19 := by rw [hR]; rfl
theorem r_15_6 (hR : gR G = lR rm) : gR G 15 6 = some 20 := by rw [hR]; rfl
theorem r_15_7 (hR : gR G = lR rm) : gR G 15 7 = some 21 := by rw [hR]; rfl
theorem r_22_2 (hR : gR G = lR rm) : gR G 22 2 = some 23 := by rw [hR]; rfl
theorem r_22_3 (hR : gR G = lR rm) : gR G 22 3 = some 24 := by rw [hR]; rfl
theorem r_22_4 (hR : gR G = lR rm) : gR G 22 4 = some 25 := by rw [hR]; rfl
theorem r_22_5 (hR : gR G = lR rm) : gR G 22 5 = some 26 := by rw [hR]; rfl
theorem r_22_6 (hR : gR G = lR rm) : gR G 22 6 = some 27 := by rw [hR]; rfl
theorem r_22_7 (hR : gR G = lR rm) : gR G 22 7 = some 28 := by rw [hR]; rfl
theorem r_30_0 (hR : gR G = lR rm) : gR G 30 0 = some 31 := by rw [hR]; rfl
theorem r_30_1 (hR : gR G = lR rm) : gR G 30 1 = some 32 := by rw [hR]; rfl
theorem r_33_0 (hR : gR G = lR rm) : gR G 33 0 = some 34 := by rw [hR]; rfl
theorem r_33_1 (hR : gR G = lR rm) : gR G 33 1 = some 35 := by rw [hR]; rfl
theorem r_37_3 (hR : gR G = lR rm) : gR G 37 3 = some 38 := by rw [hR]; rfl
theorem r_37_4 (hR : gR G = lR rm) : gR G 37 4 = some 39 := by rw [hR]; rfl
theorem r_37_5 (hR : gR G = lR rm) : gR G 37 5 = some 40 := by rw [hR]; rfl
theorem r_37_6 (hR : gR G = lR rm) : gR G 37 6 = some 41 := by rw [hR]; rfl
theorem r_43_4 (hR : gR G = lR rm) : gR G 43 4 = some 44 := by rw [hR]; rfl
theorem r_43_5 (hR : gR G = lR rm) : gR G 43 5 = some 45 := by rw [hR]; rfl
theorem r_43_6 (hR : gR G = lR rm) : gR G 43 6 = some 46 := by rw [hR]; rfl
theorem r_43_7 (hR : gR G = lR rm) : gR G 43 7 = some 47 := by rw [hR]; rfl
theorem r_43_8 (hR : gR G = lR rm) : gR G 43 8 = some 48 := by rw [hR]; rfl
theorem r_43_9 (hR : gR G = lR rm) : gR G 43 9 = some 49 := by rw [hR]; rfl
theorem r_43_10 (hR : gR G = lR rm) : gR G 43 10 = some 50 := by rw [hR]; rfl
theorem r_43_11 (hR : gR G = lR rm) : gR G 43 11 = some 51 := by rw [hR]; rfl
theorem r_43_12 (hR : gR G = lR rm) : gR G 43 12 = some 52 := by rw [hR]; rfl
theorem r_43_13 (hR : gR G = lR rm) : gR G 43 13 = some 53 := by rw [hR]; rfl
theorem r_43_14 (hR : gR G = lR rm) : gR G 43 14 = some 54 := by rw [hR]; rfl
theorem r_43_15 (hR : gR G = lR rm) : gR G 43 15 = some 55 := by rw [hR]; rfl
theorem r_43_16 (hR : gR G = lR rm) : gR G 43 16 = some 56 := by rw [hR]; rfl
theorem r_43_17 (hR : gR G = lR rm) : gR G 43 17 = some 57 := by rw [hR]; rfl
theorem r_43_18 (hR : gR G = lR rm) : gR G 43 18 = some 58 := by rw [hR]; rfl
theorem r_43_19 (hR : gR G = lR rm) : gR G 43 19 = some 59 := by rw [hR]; rfl
theorem r_43_21 (hR : gR G = lR rm) : gR G 43 21 = some 60 := by rw [hR]; rfl
theorem r_43_22 (hR : gR G = lR rm) : gR G 43 22 = some 61 := by rw [hR]; rfl
theorem r_43_23 (hR : gR G = lR rm) : gR G 43 23 = some 62 := by rw [hR]; rfl
theorem r_43_25 (hR : gR G = lR rm) : gR G 43 25 = some 63 := by rw [hR]; rfl
theorem r_43_26 (hR : gR G = lR rm) : gR G 43 26 = some 64 := by rw [hR]; rfl
theorem r_43_27 (hR : gR G = lR rm) : gR G 43 27 = some 65 := by rw [hR]; rfl
theorem r_43_29 (hR : gR G = lR rm) : gR G 43 29 = some 66 := by rw [hR]; rfl
theorem r_43_43 (hR : gR G = lR rm) : gR G 43 43 = some 67 := by rw [hR]; rfl
theorem r_43_44 (hR : gR G = lR rm) : gR G 43 44 = some 68 := by rw [hR]; rfl
theorem r_69_4 (hR : gR G = lR rm) : gR G 69 4 = some 70 := by rw [hR]; rfl
theorem r_69_5 (hR : gR G = lR rm) : gR G 69 5 = some 71 := by rw [hR]; rfl
theorem r_69_6 (hR : gR G = lR rm) : gR G 69 6 = some 72 := by rw [hR]; rfl
theorem r_69_7 (hR : gR G = lR rm) : gR G 69 7 = some 73 := by rw [hR]; rfl
theorem r_69_8 (hR : gR G = lR rm) : gR G 69 8 = some 74 := by rw [hR]; rfl
theorem r_69_9 (hR : gR G = lR rm) : gR G 69 9 = some 75 := by rw [hR]; rfl
theorem r_69_10 (hR : gR G = lR rm) : gR G 69 10 = some 76 := by rw [hR]; rfl
theorem RL0_lt : ∀ e ∈ RL0, e.1.1 < 69 ∧ e.2 < 69 := by decide +kernel
theorem RL0_hi {p k : Nat} (h : 69 ≤ p) : RL0.find? (fun e => e.1 == (p, k)) = none := by
  rw [List.find?_eq_none]
  intro e he h1
  have h2 := (RL0_lt e he).1
  have h3 : e.1 = (p, k) := by simpa using h1
  rw [h3] at h2
  exact absurd h2 (by show ¬ p < 69; omega)
theorem r_row (hR : gR G = lR rm) {i : Nat} (hi : i < 12) : gR G 76 i = some (77 + i) := by
  rw [hR, lR_ne (by omega)]
  unfold R0
  rw [RL0_hi (by omega)]
  simp [hi]
theorem r_ro (hR : gR G = lR rm) (hrm : rm ≠ 0) : gR G 6 10 = some 69 := by rw [hR]; exact if_neg hrm
theorem r_ro0 (hR : gR G = lR rm) (hrm : rm = 0) : gR G 6 10 = none := by rw [hR]; exact if_pos hrm
def isCh (c : Nat) : Prop := c = 8 ∨ c = 15 ∨ c = 22
def isDe (d : Nat) : Prop := d = 30 ∨ d = 33
theorem kc_0 {c : Nat} (hK : gK G = lK rm) (h : isCh c) : (gK G)[c]? = some (0, 0) := by rcases h with rfl | rfl | rfl <;> (rw [hK]; exact lK_lo rfl)
theorem kc_1 {c : Nat} (hK : gK G = lK rm) (h : isCh c) : (gK G)[c + 1]? = some (10, 10) := by rcases h with rfl | rfl | rfl <;> (rw [hK]; exact lK_lo rfl)
theorem kc_2 {c : Nat} (hK : gK G = lK rm) (h : isCh c) : (gK G)[c + 2]? = some (11, 160) := by rcases h with rfl | rfl | rfl <;> (rw [hK]; exact lK_lo rfl)
theorem kc_3 {c : Nat} (hK : gK G = lK rm) (h : isCh c) : (gK G)[c + 3]? = some (11, 160) := by rcases h with rfl | rfl | rfl <;> (rw [hK]; exact lK_lo rfl)
theorem kc_4 {c : Nat} (hK : gK G = lK rm) (h : isCh c) : (gK G)[c + 4]? = some (11, 160) := by rcases h with rfl | rfl | rfl <;> (rw [hK]; exact lK_lo rfl)
theorem kc_5 {c : Nat} (hK : gK G = lK rm) (h : isCh c) : (gK G)[c + 5]? = some (10, 10) := by rcases h with rfl | rfl | rfl <;> (rw [hK]; exact lK_lo rfl)
theorem kc_6 {c : Nat} (hK : gK G = lK rm) (h : isCh c) : (gK G)[c + 6]? = some (10, 160) := by rcases h with rfl | rfl | rfl <;> (rw [hK]; exact lK_lo rfl)
theorem rc_2 {c : Nat} (hR : gR G = lR rm) (h : isCh c) : gR G c 2 = some (c + 1) := by rcases h with rfl | rfl | rfl <;> (rw [hR]; rfl)
theorem rc_3 {c : Nat} (hR : gR G = lR rm) (h : isCh c) : gR G c 3 = some (c + 2) := by rcases h with rfl | rfl | rfl <;> (rw [hR]; rfl)
theorem rc_4 {c : Nat} (hR : gR G = lR rm) (h : isCh c) : gR G c 4 = some (c + 3) := by rcases h with rfl | rfl | rfl <;> (rw [hR]; rfl)
theorem rc_5 {c : Nat} (hR : gR G = lR rm) (h : isCh c) : gR G c 5 = some (c + 4) := by rcases h with rfl | rfl | rfl <;> (rw [hR]; rfl)
theorem rc_6 {c : Nat} (hR : gR G = lR rm) (h : isCh c) : gR G c 6 = some (c + 5) := by rcases h with rfl | rfl | rfl <;> (rw [hR]; rfl)
theorem rc_7 {c : Nat} (hR : gR G = lR rm) (h : isCh c) : gR G c 7 = some (c + 6) := by rcases h with rfl | rfl | rfl <;> (rw [hR]; rfl)
theorem kd_0 {d : Nat} (hK : gK G = lK rm) (h : isDe d) : (gK G)[d]? = some (1, 0) := by rcases h with rfl | rfl <;> (rw [hK]; exact lK_lo rfl)
theorem kd_1 {d : Nat} (hK : gK G = lK rm) (h : isDe d) : (gK G)[d + 1]? = some (10, 32) := by rcases h with rfl | rfl <;> (rw [hK]; exact lK_lo rfl)
theorem kd_2 {d : Nat} (hK : gK G = lK rm) (h : isDe d) : (gK G)[d + 2]? = some (11, 16) := by rcases h with rfl | rfl <;> (rw [hK]; exact lK_lo rfl)
theorem rd_0 {d : Nat} (hR : gR G = lR rm) (h : isDe d) : gR G d 0 = some (d + 1) := by rcases h with rfl | rfl <;> (rw [hR]; rfl)
theorem rd_1 {d : Nat} (hR : gR G = lR rm) (h : isDe d) : gR G d 1 = some (d + 2) := by rcases h with rfl | rfl <;> (rw [hR]; rfl)
end LY
theorem ch_8 : isCh 8 := Or.inl rfl
theorem ch_15 : isCh 15 := Or.inr (Or.inl rfl)
theorem ch_22 : isCh 22 := Or.inr (Or.inr rfl)
theorem de_30 : isDe 30 := Or.inl rfl
theorem de_33 : isDe 33 := Or.inr rfl
def FU : Nat := 1000000000
