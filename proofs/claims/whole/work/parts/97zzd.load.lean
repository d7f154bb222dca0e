/-! The call load -/
section LDD
variable {b : Nat → Int32} {last i s e k n m rm la len : Nat} {mv : Nat → Nat → Nat} {st : Nat → Nat} {ns ne : Nat → Nat} {I J I' J' I1 : MI} {L M L' M' M1 : ML} {p : Nat → Nat}
/-- what the reference does behind the text -/
def LK (I_17 : MI) (L_18 : ML) : Option (Int32 × Mm) :=
  bnd (up2 I_17 43 30 0) (fun I_19 =>
  bnd (up2 I_19 43 31 (I_19 43 33)) (fun I_20 =>
  bnd ((fun (s0_21 : Int32) =>
  bnd (up2 I_20 43 32 s0_21) (fun I_22 =>
  if (I_22 43 33) ≤ 0 then
  bnd (up2 I_22 43 2 (I_22 43 40)) (fun I_23 =>
  chk (inb 0 71) (bnd (up2 I_23 44 (ix 0) (I_23 43 41)) (fun I_24 =>
  Option.bind (f_X8_isHome 46 I_24 L_18) (fun q_25 =>
  Option.bind (f_X8_copies 46 10 0 44 71 1 q_25.1 q_25.2) (fun q_26 =>
  f_X8_load_179 q_26.2 (fun (I_31 : MI) =>
  bnd (up2 I_31 43 3 0) (fun I_32 =>
  bnd (up2 I_32 43 20 0) (fun I_33 =>
  some ((I_33 43 41), I_33, q_26.2)))) FU 0 q_26.1)))))
  else
  Option.bind (f_X8_refuse 9 I_22 L_18) (fun q_34 =>
  some (q_34.1, q_34.2.1, q_34.2.2)))) : Int32 → Option (Int32 × Mm)) (fun j122_416 =>
  if (I_20 43 33) ≤ 0 then
  (j122_416 (-1))
  else
  (j122_416 (I_20 43 34)))))
theorem LK_bad {c w : Nat} (h : BAD J c w m) : LK J M = some (-1, up2 (up2 (up2 (up2 J 43 30 0) 43 31 (nI c)) 43 32 (nI w)) 43 0 9, M) := by
  have c0 : ¬ nI c ≤ 0 := by
    rw [show (0 : Int32) = nI 0 from rfl, q_le (by have := h.2.2.1; omega) (by decide)]
    have := h.2.1; omega
  have a33 : up2 (up2 J 43 30 0) 43 31 (nI c) 43 33 = nI c := by rw [up2_n (by decide), up2_n (by decide)]; exact h.1
  have a34 : up2 (up2 J 43 30 0) 43 31 (nI c) 43 34 = nI w := by rw [up2_n (by decide), up2_n (by decide)]; exact h.2.2.2.1
  unfold LK
  rw [bnd_eq, up2_n (show 33 ≠ 30 by decide), h.1, bnd_eq, bnd_eq, a33, if_neg c0, a34]
  dsimp only
  rw [bnd_eq, up2_n (show 33 ≠ 32 by decide), a33, if_neg c0, ob refuse8_eq]
theorem LK_ok (hm : m ≤ 6) (h33 : J 43 33 = 0) (h40 : J 43 40 = nI n) (h41 : J 43 41 = nI m) (hrow : ∀ t, t < m → Row J 68 (10 * t) (mv t)) : ∃ J', LK J M = some (nI m, J', M) ∧ RDY J' n m mv idp ∧ J' 43 30 = 0 ∧ J' 43 31 = 0 ∧ J' 43 32 = -1 ∧ J' 43 3 = 0 ∧ (∀ p, p ≠ 43 → p ≠ 44 → p ≠ 46 → J' p = J p) ∧ (∀ f, f < 2 ∨ (3 < f ∧ f < 20) ∨ (20 < f ∧ f < 30) → J' 43 f = J 43 f) := by
  have z0 : (0 : Int32) ≤ 0 := by decide
  have a33 : up2 (up2 J 43 30 0) 43 31 0 43 33 = 0 := by rw [up2_n (by decide), up2_n (by decide)]; exact h33
  have a40 : up2 (up2 (up2 J 43 30 0) 43 31 0) 43 32 (-1) 43 40 = nI n := by rw [up2_n (by decide), up2_n (by decide), up2_n (by decide)]; exact h40
  have a41 : up2 (up2 (up2 (up2 J 43 30 0) 43 31 0) 43 32 (-1)) 43 2 (nI n) 43 41 = nI m := by rw [up2_n (by decide), up2_n (by decide), up2_n (by decide), up2_n (by decide)]; exact h41
  generalize hA : up2 (up2 (up2 (up2 (up2 J 43 30 0) 43 31 0) 43 32 (-1)) 43 2 (nI n)) 44 0 (nI m) = A
  have cpy : f_X8_copies 46 10 0 44 71 1 (wp A 46 0 idp) M = some (wp (wp A 46 0 idp) 44 1 idp, M) := copies0y (y := 1) Row_wp (by decide) (by decide) (by decide) (by decide) (by decide)
  have B41 : wp (wp A 46 0 idp) 44 1 idp 43 41 = nI m := by
    rw [wp_ne (by decide), wp_ne (by decide), ← hA, up2_ne (by decide)]
    exact a41
  obtain ⟨K, e1, e2, e3, e4⟩ := ld179 (L := M) hm B41 (fun (I_31 : MI) => bnd (up2 I_31 43 3 0) (fun I_32 => bnd (up2 I_32 43 20 0) (fun I_33 => some ((I_33 43 41), I_33, M))))
  have K43 : K 43 = A 43 := by rw [e4 43 (by decide), wp_ne (by decide), wp_ne (by decide)]
  have A43 : ∀ f, A 43 f = up2 (up2 (up2 (up2 J 43 30 0) 43 31 0) 43 32 (-1)) 43 2 (nI n) 43 f := fun f => by rw [← hA, up2_ne (by decide)]
  have J68 : wp (wp A 46 0 idp) 44 1 idp 68 = J 68 := by rw [wp_ne (by decide), wp_ne (by decide), ← hA, up2_ne (by decide), up2_ne (by decide), up2_ne (by decide), up2_ne (by decide), up2_ne (by decide)]
  have g : ∀ f, f ≠ 3 → f ≠ 20 → up2 (up2 K 43 3 0) 43 20 0 43 f = A 43 f := fun f x y => by rw [up2_n y, up2_n x, K43]
  have g44 : up2 (up2 K 43 3 0) 43 20 0 44 = K 44 := by rw [up2_ne (by decide), up2_ne (by decide)]
  refine ⟨up2 (up2 K 43 3 0) 43 20 0, ?_, ⟨?_, ⟨?_, hm, fun t ht j hj => ?_, fun j hj => ?_⟩, Or.inl up2_s⟩, ?_, ?_, ?_, ?_, fun p x y z => ?_, fun f hf => ?_⟩
  · unfold LK
    rw [bnd_eq, up2_n (show 33 ≠ 30 by decide), h33, bnd_eq, bnd_eq, a33, if_pos z0]
    dsimp only
    rw [bnd_eq, up2_n (show 33 ≠ 32 by decide), a33, if_pos z0, a40, bnd_eq, a41, show (0 : Int32) = nI 0 from rfl, q_chk (by decide) (by decide), q_ix (by decide), bnd_eq, nI_0, hA, ob isHome_eq]
    dsimp only
    rw [ob cpy]
    dsimp only
    rw [e1, bnd_eq, bnd_eq, up2_n (by decide), up2_n (by decide), K43, A43 41, a41]
  · rw [g 2 (by decide) (by decide), A43, up2_s]
  · rw [g44, e3 0 (by decide)]
    unfold wp
    rw [wr_out (by omega), wr_ne (by decide), ← hA, up2_s]
  · rw [g44, show 11 + 10 * t + j = 11 + (10 * t + j) by omega, e2 _ (by omega), J68]
    exact hrow t ht j hj
  · rw [g44, e3 (1 + j) (by omega)]
    exact Row_wp j hj
  · rw [g 30 (by decide) (by decide), A43, up2_n (by decide), up2_n (by decide), up2_n (by decide), up2_s]
  · rw [g 31 (by decide) (by decide), A43, up2_n (by decide), up2_n (by decide), up2_s]
  · rw [g 32 (by decide) (by decide), A43, up2_n (by decide), up2_s]
  · rw [up2_n (by decide), up2_s]
  · rw [up2_ne x, up2_ne x, e4 p y, wp_ne y, wp_ne z, ← hA, up2_ne y, up2_ne x, up2_ne x, up2_ne x, up2_ne x]
  · rw [g f (by omega) (by omega), A43, up2_n (by omega), up2_n (by omega), up2_n (by omega), up2_n (by omega)]
theorem isIn_ld (a : Int32) (hl : len ≤ 400) (h30 : I1 43 30 = nI len) : f_X8_isIn (Int32.toInt64 a) 0 (Int32.toInt64 (I1 43 30)) = some (rB a (len + 1)) := by
  have h := isIn_eq a 0 (I1 43 30)
  have e : (I1 43 30).toInt = (len : Int) := by rw [h30]; exact nI_toInt (by omega)
  have e0 : (0 : Int32).toInt = 0 := rfl
  rw [e, e0] at h
  refine Eq.trans h ?_
  unfold rB
  congr 1
  apply decide_eq_decide.mpr
  omega
theorem ref_start (hl : la ≤ len) (hlen : len ≤ 400) (h30 : I1 43 30 = nI len) (h66 : ∀ j, j < la → I1 66 j = b j) (hT : Tok b la 0 s e k) : ∃ J3 M3, f_X8_load (nI la) I1 M1 = f_X8_load_57 LK FU J3 M3 ∧ RSt b la J3 M3 s e k 0 0 mv ns ne ∧ FRf (is8 I1 0) M1 J3 M3 := by
  have hb : rB (nI la) (len + 1) = true := by
    unfold rB
    rw [nI_toInt (by omega)]
    exact decide_eq_true (by omega)
  have hin := isIn_ld (nI la) hlen h30
  rw [hb] at hin
  generalize hJ0 : up2 (up2 (up2 (up2 (up2 (is8 I1 0) 43 39 (nI la)) 43 36 0) 43 33 0) 43 41 0) 43 40 0 = J0
  have p0 : ∀ q, q ≠ 43 → J0 q = I1 q := fun q hq => by rw [← hJ0, up2_ne hq, up2_ne hq, up2_ne hq, up2_ne hq, up2_ne hq, is8_ne hq]
  have e40 : J0 43 40 = 0 := by rw [← hJ0, up2_s]
  have e41 : J0 43 41 = 0 := by rw [← hJ0, up2_n (by decide), up2_s]
  have e33 : J0 43 33 = 0 := by rw [← hJ0, up2_n (by decide), up2_n (by decide), up2_s]
  have e36 : J0 43 36 = 0 := by rw [← hJ0, up2_n (by decide), up2_n (by decide), up2_n (by decide), up2_s]
  have e39 : J0 43 39 = nI la := by rw [← hJ0, up2_n (by decide), up2_n (by decide), up2_n (by decide), up2_n (by decide), up2_s]
  have fo : Fo 43 [33, 36, 39, 40, 41] (is8 I1 0) J0 := by
    rw [← hJ0]
    exact ((((Fo_up (by decide)).trans (Fo_up (by decide))).trans (Fo_up (by decide))).trans (Fo_up (by decide))).trans (Fo_up (by decide))
  have b66 : ∀ j, j < la → J0 66 j = b j := fun j hj => by rw [p0 66 (by decide)]; exact h66 j hj
  obtain ⟨J3, M3, y1, y2, y3, y4⟩ := reads_eq (M := M1) (i := 0) e39 e36 (by omega) b66 hT
  refine ⟨J3, M3, ?_, ⟨by rw [y3.2 39 (by decide)]; exact e39, fun j hj => by rw [y3.1 66 (by decide)]; exact b66 j hj, y2, by rw [y3.2 33 (by decide)]; exact e33, by rw [y3.2 40 (by decide)]; exact e40, by rw [y3.2 41 (by decide)]; exact e41, fun t ht => by omega⟩, (FRf_o fo (by decide) (fun _ _ => rfl)).trans (FRf_o y3 (by decide) y4)⟩
  unfold f_X8_load
  rw [ob hin, bnd_eq, if_neg b2i_t]
  dsimp only
  rw [show b2i false = 0 from rfl, ob is_0]
  dsimp only
  rw [if_neg b2i_t, bnd_eq, bnd_eq, bnd_eq, bnd_eq, bnd_eq, hJ0, ob y1]
  rfl
theorem cls_start (hl : la ≤ len) (hlen : len ≤ 400) (h11 : I 1 1 = nI len) (hb : ∀ j, j < la → I 2 j = b j) (hT : Tok b la 0 s e k) : ∃ I3, f_X5_parse (nI la) I L = f_X5_parse_50 FU 1 (nI 0) I3 L ∧ CSt b la I3 L s e k 0 0 mv ns ne ∧ (∀ q, q ≠ 1 → I3 q = I q) := by
  generalize hI0 : up2 (up2 (up2 (up2 (up2 (up2 (up2 I 1 2 (nI la)) 1 3 0) 1 7 0) 1 8 0) 1 14 0) 1 15 (-1)) 1 1 0 = I0
  have p0 : ∀ q, q ≠ 1 → I0 q = I q := fun q hq => by rw [← hI0, up2_ne hq, up2_ne hq, up2_ne hq, up2_ne hq, up2_ne hq, up2_ne hq, up2_ne hq]
  have e1 : I0 1 1 = 0 := by rw [← hI0, up2_s]
  have e15 : I0 1 15 = -1 := by rw [← hI0, up2_n (by decide), up2_s]
  have e14 : I0 1 14 = 0 := by rw [← hI0, up2_n (by decide), up2_n (by decide), up2_s]
  have e8 : I0 1 8 = 0 := by rw [← hI0, up2_n (by decide), up2_n (by decide), up2_n (by decide), up2_s]
  have e7 : I0 1 7 = 0 := by rw [← hI0, up2_n (by decide), up2_n (by decide), up2_n (by decide), up2_n (by decide), up2_s]
  have e3 : I0 1 3 = 0 := by rw [← hI0, up2_n (by decide), up2_n (by decide), up2_n (by decide), up2_n (by decide), up2_n (by decide), up2_s]
  have e2 : I0 1 2 = nI la := by rw [← hI0, up2_n (by decide), up2_n (by decide), up2_n (by decide), up2_n (by decide), up2_n (by decide), up2_n (by decide), up2_s]
  have b2 : ∀ j, j < la → I0 2 j = b j := fun j hj => by rw [p0 2 (by decide)]; exact hb j hj
  obtain ⟨I3, x1, x2, x3⟩ := scan_eq (L := L) (i := 0) e2 e3 (by omega) b2 hT
  have im : imin (nI la) (nI len) = nI la := by
    unfold imin
    rw [if_neg (by rw [q_lt (by omega) (by omega)]; omega)]
  refine ⟨I3, ?_, ⟨by rw [x3.2 2 (by decide)]; exact e2, fun j hj => by rw [x3.1 2 (by decide)]; exact b2 j hj, x2, by rw [x3.2 1 (by decide)]; exact e1, by rw [x3.2 14 (by decide)]; exact e14, by rw [x3.2 15 (by decide)]; exact e15, by rw [x3.2 7 (by decide)]; exact e7, by rw [x3.2 8 (by decide)]; exact e8, fun t ht => by omega⟩, fun q hq => by rw [x3.1 q hq]; exact p0 q hq⟩
  unfold f_X5_parse
  rw [h11, im, bnd_eq, bnd_eq, bnd_eq, bnd_eq, bnd_eq, bnd_eq, bnd_eq, hI0, ob x1]
  rfl
theorem nin {q : Nat} (h : q < 43 ∨ q = 44 ∨ q = 45 ∨ (49 ≤ q ∧ q ≠ 68)) : q ∉ [43, 46, 47, 48, 68] := by
  intro g
  simp only [List.mem_cons, List.not_mem_nil, or_false] at g
  omega
theorem PR_2h : PR_2 Inv := by
  intro I L rm a ⟨n, m, mv, st, h⟩
  obtain ⟨hO, hC, hR, hP, hT, hU, hF, hS⟩ := id h
  obtain ⟨len, t1, t2, t3, t4⟩ := hT
  cases hb : rB a (len + 1)
  · refine ⟨-1, up2 I 0 6 1, L, ?_, is8 (up2 I 0 6 1) 1, L, ?_, IV_q h (Q8_is (a := 1)) (RDY_is (RDY_s hR)) is8_0⟩
    · unfold f_X7_load
      by_cases c : a < 0
      · rw [if_pos c, ob refuse_eq]
      · rw [if_neg c, if_neg (by
          unfold rB at hb
          have h9 := of_decide_eq_false hb
          rw [Int32.lt_iff_toInt_lt, show (0 : Int32).toInt = 0 from rfl] at c
          rw [t2, Int32.le_iff_toInt_le, nI_toInt (by omega)]
          omega), ob refuse_eq]
    · unfold f_X8_load
      rw [ob (isIn_ld a t1 (I1 := up2 I 0 6 1) (by rw [up2_ne (by decide)]; exact t3)), bnd_eq, hb, if_pos b2i_f]
      dsimp only
      rw [show b2i true = 1 from rfl, ob is_1]
      dsimp only
      rw [if_pos b2i_f]
  · obtain ⟨la, hla, rfl⟩ := rB_t hb
    have c1 : ¬ nI la < 0 := by
      rw [show (0 : Int32) = nI 0 from rfl, q_lt (by omega) (by decide)]; omega
    have c2 : nI la ≤ I 1 1 := by rw [t2, q_le (by omega) (by omega)]; omega
    obtain ⟨s, e, k, hT0⟩ := Tok_ex (b := I 2) (i := 0) (last := la) (by omega)
    have hPU : PU (I 2) la 0 0 mv (fun _ => 0) (fun _ => 0) := ⟨by omega, by decide, by decide, fun t ht => by omega⟩
    obtain ⟨I3, x1, x2, x3⟩ := cls_start (L := L) (mv := mv) (ns := fun _ => 0) (ne := fun _ => 0) (show la ≤ len by omega) t1 t2 (fun j _ => rfl) hT0
    have run : ∀ (I1 : MI) (M1 : ML), I1 43 = I 43 → I1 66 = I 66 → ∃ J3 M3, f_X8_load (nI la) I1 M1 = f_X8_load_57 LK FU J3 M3 ∧ FRf (is8 I1 0) M1 J3 M3 ∧ PE (I 2) la I3 L J3 M3 (f_X5_parse (nI la) I L) (fun k0 => f_X8_load_57 k0 FU J3 M3) := fun I1 M1 h43 h66 => by
      obtain ⟨J3, M3, y1, y2, y3⟩ := ref_start (I1 := I1) (M1 := M1) (mv := mv) (ns := fun _ => 0) (ne := fun _ => 0) (show la ≤ len by omega) t1 (by rw [h43]; exact t3) (fun j hj => by rw [h66]; exact (t4 j (by omega)).symm) hT0
      refine ⟨J3, M3, y1, y3, ?_⟩
      rw [x1]
      exact parse_loop 400 FU FU s e k 0 0 0 mv (fun _ => 0) (fun _ => 0) I3 L J3 M3 (by omega) (by decide) (by decide) (by omega) hPU (fun _ => rfl) ⟨0, hT0⟩ x2 y2
    obtain ⟨J3, M3, _, _, pe⟩ := run I L rfl rfl
    rcases pe with ⟨_, _, _, _, _, ⟨I4, L4, a1, _, _, _, f4⟩, _⟩ | ⟨_, _, n1, m1, mv1, _, _, I4, L4, _, _, u1, a1, u2, f4, _⟩
    · obtain ⟨J5, M5, y1, y2, pe⟩ := run (up2 I4 0 6 9) L4 (by rw [up2_ne (by decide), f4.1 43 (by decide) (by decide) (by decide), x3 43 (by decide)]) (by rw [up2_ne (by decide), f4.1 66 (by decide) (by decide) (by decide), x3 66 (by decide)])
      rcases pe with ⟨c, w, m', J6, M6, ⟨I7, L7, b1, b2, b3, b4, b5⟩, b6, b7, b8⟩ | ⟨_, _, _, _, _, _, _, I7, L7, _, _, _, b1, _⟩
      · rw [a1] at b1
        cases b1
        have b6 := b6 LK
        dsimp only at b6
        rw [LK_bad b7] at b6
        generalize hJ9 : up2 (up2 (up2 (up2 J6 43 30 0) 43 31 (nI c)) 43 32 (nI w)) 43 0 9 = J9 at b6
        have fr := y2.trans b8
        have kp0 : ∀ q, q ≠ 43 → J9 q = J6 q := fun q hq => by rw [← hJ9, up2_ne hq, up2_ne hq, up2_ne hq, up2_ne hq]
        have kp1 : ∀ q, q < 43 ∨ q = 44 ∨ q = 45 ∨ (49 ≤ q ∧ q ≠ 68) → J9 q = up2 I4 0 6 9 q := fun q hq => by rw [kp0 q (by omega), fr.1 q (nin hq), is8_ne (by omega)]
        have kp2 : ∀ q, q ≠ 0 → q ≠ 1 → q ≠ 4 → q ≠ 5 → (q < 43 ∨ q = 44 ∨ q = 45 ∨ (49 ≤ q ∧ q ≠ 68)) → J9 q = I q := fun q h0 h1 h4 h5 hq => by rw [kp1 q hq, up2_ne h0, f4.1 q h1 h4 h5, x3 q h1]
        have k43 : ∀ f, 1 < f → f < 30 → J9 43 f = I 43 f := fun f h0 h1 => by
          rw [← hJ9, up2_n (by omega), up2_n (by omega), up2_n (by omega), up2_n (by omega), fr.2.1 f (by omega)]
          unfold is8
          rw [up2_n (by omega), up2_n (by omega), up2_ne (by decide), f4.1 43 (by decide) (by decide) (by decide), x3 43 (by decide)]
        have kL : ∀ q, q ≠ 1 → q ≠ 3 → q ≠ 43 → q ≠ 67 → M6 q = L q := fun q h1 h3 h4 h5 => by rw [fr.2.2 q h4 h5, f4.2 q h1 h3]
        refine ⟨-1, up2 I4 0 6 9, L4, ?_, J9, M6, y1.trans b6, n, m, mv, st, hO, ?_, ?_, ?_, ?_, ?_, ?_, ?_⟩
        · unfold f_X7_load
          rw [if_neg c1, if_pos c2, ob a1]
          dsimp only
          rw [if_pos b2i_f, ob refuse_eq]
        · exact hC.stt (fun q hq => kp2 q (by omega) (by omega) (by omega) (by omega) (by omega)) (fun q hq => kL q (by omega) (by omega) (by omega) (by omega)) (by rw [kL 0 (by decide) (by decide) (by decide) (by decide)]; exact hC.2.2.2.1)
        · exact hR.of (k43 2 (by decide) (by decide)) (k43 20 (by decide) (by decide)) (kp2 44 (by decide) (by decide) (by decide) (by decide) (by decide)) (kp2 52 (by decide) (by decide) (by decide) (by decide) (by decide)) (kp2 53 (by decide) (by decide) (by decide) (by decide) (by decide))
        · obtain ⟨kp, pm, pmv, pst, o1, o2, o3⟩ := OT_s hP
          exact OT_m o1 (o2.fr (by rw [kp2 37 (by decide) (by decide) (by decide) (by decide) (by decide)]) (kp2 40 (by decide) (by decide) (by decide) (by decide) (by decide)) (kL 39 (by decide) (by decide) (by decide) (by decide)) (kL 41 (by decide) (by decide) (by decide) (by decide))) (o3.fr (k43 3 (by decide) (by decide)) (kp2 45 (by decide) (by decide) (by decide) (by decide) (by decide)))
        · refine ⟨0, by decide, ?_, ?_, fun j hj => by omega⟩
          · rw [kp1 1 (by decide), up2_ne (by decide)]; exact b4
          · rw [← hJ9, up2_n (by decide), up2_n (by decide), up2_n (by decide), up2_s]; rfl
        · obtain ⟨ol, q1, q2, q3, q4⟩ := hU
          refine ⟨ol, q1, ?_, by rw [k43 28 (by decide) (by decide)]; exact q3, fun j hj => by rw [kp2 42 (by decide) (by decide) (by decide) (by decide) (by decide), kp2 65 (by decide) (by decide) (by decide) (by decide) (by decide)]; exact q4 j hj⟩
          rw [kp1 0 (by decide), up2_n (by decide), f4.1 0 (by decide) (by decide) (by decide), x3 0 (by decide)]; exact q2
        · refine ⟨?_, ?_⟩
          · rw [kp1 1 (by decide), up2_ne (by decide), b2, ← hJ9, up2_n (by decide), up2_n (by decide), up2_s]
          · rw [kp1 1 (by decide), up2_ne (by decide), b3, ← hJ9, up2_n (by decide), up2_s]
        · rw [kp1 0 (by decide), up2_s, ← hJ9, up2_s]
      · rw [a1] at b1
        cases b1
    · have hC' := hC.2.2.2.2.2.2.2.2.2
      have hn1 := u1.2.1
      have hm1 := u1.2.2.1
      obtain ⟨I5, L5, g1, g2, g3, g4⟩ := becomeN_eq (I := I4) (L := L4) (rm := rm) (st := idp) hn1 hm1 (fun t ht => (u1.2.2.2 t ht).1) (fun t ht => (u2.2.2.2.2.2.2.2.2 t ht).1) hC'.1 (fun g => by rw [f4.1 69 (by decide) (by decide) (by decide), x3 69 (by decide)]; exact hC'.2.1 g)
      have i7 : I4 1 7 = nI n1 := u2.2.2.2.2.2.2.1
      have i8 : I4 1 8 = nI m1 := u2.2.2.2.2.2.2.2.1
      generalize hI6 : up2 (up2 I5 37 0 0) 0 6 0 = I6
      have i6 : ∀ q, q ≠ 0 → q ≠ 37 → I6 q = I5 q := fun q h0 h1 => by rw [← hI6, up2_ne h0, up2_ne h1]
      have i6' : ∀ q, q ≠ 0 → q ≠ 1 → q ≠ 4 → q ≠ 5 → q ≠ 37 → (q < 6 ∨ 36 ≤ q) → I6 q = I q := fun q h0 h1 h4 h5 h7 hq => by rw [i6 q h0 h7, g3 q hq, f4.1 q h1 h4 h5, x3 q h1]
      obtain ⟨J7, M7, y1, y2, pe⟩ := run I6 (up2 L5 0 5 (tn n1 idp)) (i6' 43 (by decide) (by decide) (by decide) (by decide) (by decide) (by decide)) (i6' 66 (by decide) (by decide) (by decide) (by decide) (by decide) (by decide))
      rcases pe with ⟨_, _, _, _, _, ⟨I8, L8, b1, _⟩, _⟩ | ⟨_, _, n2, m2, mv2, ns2, ne2, I8, L8, J8, M8, w1, b1, w2, w3, b6, w4, b8⟩
      · rw [a1] at b1
        cases b1
      · rw [a1] at b1
        cases b1
        have en : n2 = n1 := by
          have := w2.2.2.2.2.2.2.1
          rw [i7, q_eq (by omega) (by have := w1.2.1; omega)] at this
          exact this.symm
        have em : m2 = m1 := by
          have := w2.2.2.2.2.2.2.2.1
          rw [i8, q_eq (by omega) (by have := w1.2.2.1; omega)] at this
          exact this.symm
        subst en
        subst em
        have ev : ∀ t, t < m2 → mv2 t = mv1 t := fun t ht => by
          have e1 := (u2.2.2.2.2.2.2.2.2 t ht).1
          have e2 := (w2.2.2.2.2.2.2.2.2 t ht).1
          rw [e1] at e2
          exact ((tn_inj hn1 (u1.2.2.2 t ht).1 (w1.2.2.2 t ht).1).mp e2).symm
        obtain ⟨J9, v1, v2, v3, v4, v5, v6, v7, v8⟩ := LK_ok (M := M8) (mv := mv1) hm1 w4.2.2.2.1 w4.2.2.2.2.1 w4.2.2.2.2.2.1 (fun t ht => by rw [← ev t ht]; exact (w4.2.2.2.2.2.2 t ht).1)
        have b6 := b6 LK
        dsimp only at b6
        rw [v1] at b6
        have fr := y2.trans b8
        have kp1 : ∀ q, q < 43 ∨ q = 45 ∨ (49 ≤ q ∧ q ≠ 68) → J9 q = I6 q := fun q hq => by rw [v7 q (by omega) (by omega) (by omega), fr.1 q (nin (by omega)), is8_ne (by omega)]
        have kp2 : ∀ q, q ≠ 0 → q ≠ 37 → (q < 43 ∨ q = 45 ∨ (49 ≤ q ∧ q ≠ 68)) → J9 q = I5 q := fun q h0 h1 hq => by rw [kp1 q hq, i6 q h0 h1]
        have kL : ∀ q, q ≠ 43 → q ≠ 67 → M8 q = up2 L5 0 5 (tn n2 idp) q := fun q h4 h5 => fr.2.2 q h4 h5
        have C9 : CI J9 M8 rm n2 m2 mv1 idp := g2.stt (fun q hq => kp2 q (by omega) (by omega) (by omega)) (fun q hq => kL q (by omega) (by omega)) (by rw [kL 0 (by decide) (by decide), up2_s])
        refine ⟨nI m2, I6, up2 L5 0 5 (tn n2 idp), ?_, J9, M8, y1.trans b6, n2, m2, mv1, idp, ⟨hn1, hm1, fun t ht => (u1.2.2.2 t ht).1, IsP_id n2⟩, C9, v2, ?_, ?_, ?_, ?_, ?_⟩
        · unfold f_X7_load
          rw [if_neg c1, if_pos c2, ob a1]
          dsimp only
          rw [if_neg b2i_t, i7, i8, ob g1]
          dsimp only
          rw [g3 1 (by decide), i7, ob (identity_eq hn1), bnd_eq]
          unfold f_X3_forget
          rw [bnd_eq, obs]
          dsimp only
          rw [up2_ne (show 1 ≠ 37 by decide), g3 1 (by decide), i8, ob tell_eq, hI6]
        · refine ⟨0, fun _ => 0, fun _ _ _ => 0, fun _ _ => 0, by decide, ?_, v6, fun i hi => by omega⟩
          rw [kp1 37 (by decide), ← hI6, up2_ne (by decide), up2_s]; rfl
        · refine ⟨0, by decide, ?_, v3, fun j hj => by omega⟩
          rw [kp2 1 (by decide) (by decide) (by decide), g3 1 (by decide)]; exact u2.2.2.2.1
        · obtain ⟨ol, q1, q2, q3, q4⟩ := hU
          refine ⟨ol, q1, ?_, ?_, fun j hj => ?_⟩
          · rw [kp1 0 (by decide), ← hI6, up2_n (by decide), up2_ne (by decide), g3 0 (by decide), f4.1 0 (by decide) (by decide) (by decide), x3 0 (by decide)]; exact q2
          · rw [v8 28 (by decide), fr.2.1 28 (by decide)]
            unfold is8
            rw [up2_n (by decide), up2_n (by decide), i6' 43 (by decide) (by decide) (by decide) (by decide) (by decide) (by decide)]; exact q3
          · rw [kp1 42 (by decide), kp1 65 (by decide), i6' 42 (by decide) (by decide) (by decide) (by decide) (by decide) (by decide), i6' 65 (by decide) (by decide) (by decide) (by decide) (by decide) (by decide)]; exact q4 j hj
        · refine ⟨?_, ?_⟩
          · rw [kp2 1 (by decide) (by decide) (by decide), g3 1 (by decide), v4]; exact u2.2.2.2.2.1
          · rw [kp2 1 (by decide) (by decide) (by decide), g3 1 (by decide), v5]; exact u2.2.2.2.2.2.1
        · rw [kp1 0 (by decide), ← hI6, up2_s, v8 0 (by decide), fr.2.1 0 (by decide)]; exact is8_0.symm
end LDD
