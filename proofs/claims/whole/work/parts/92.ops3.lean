/-! Powers, commutators, bases -/
set_option maxRecDepth 100000 in
theorem neg_toInt : ∀ j : Nat, j < 1001 → (-(nI j)).toInt = -(j : Int) := by decide +kernel
theorem in1000 (a : Int32) : a.toInt < -1000 ∨ 1000 < a.toInt ∨ (∃ j, j < 1001 ∧ a = nI j) ∨ (∃ j, j < 1001 ∧ 1 ≤ j ∧ a = -(nI j)) := by
  by_cases h1 : a.toInt < -1000
  · exact Or.inl h1
  · by_cases h2 : 1000 < a.toInt
    · exact Or.inr (Or.inl h2)
    · by_cases h3 : 0 ≤ a.toInt
      · right; right; left
        refine ⟨a.toInt.toNat, by omega, Int32.toInt_inj.mp ?_⟩
        rw [nI_toInt (by omega)]; omega
      · right; right; right
        refine ⟨(-a.toInt).toNat, by omega, by omega, Int32.toInt_inj.mp ?_⟩
        rw [neg_toInt _ (by omega)]; omega
section O3
variable {n m N rm : Nat} {mv : Nat → Nat → Nat} {st : Nat → Nat} {I : MI} {L : ML} {e : Nat → Nat → Nat} {p q : Nat → Nat}
theorem isIn1000 (a : Int32) : f_X8_isIn a.toInt64 (-1000) 1000 = some (decide (-1000 ≤ a.toInt ∧ a.toInt ≤ 1000)) := by
  rw [show (-1000 : Int64) = (-1000 : Int32).toInt64 by decide, show (1000 : Int64) = (1000 : Int32).toInt64 by decide, isIn_eq]
  rfl
theorem PR_10h : PR_10 Inv := by
  intro I L rm x a ⟨n, m, mv, st, h⟩
  obtain ⟨hO, hC, hR, hP, hT, hU, hF, hS⟩ := id h
  have hn := hO.1
  rcases rd hn x with ⟨p, hp, h0, e1, e2⟩ | ⟨e1, e2⟩
  · have bad : (a.toInt < -1000 ∨ 1000 < a.toInt) → ∃ (r : Int64) (I1 : MI) (L1 : ML), f_X7_power x a I L = some (r, I1, L1) ∧ ∃ (I2 : MI) (L2 : ML), f_X8_power x a I1 L1 = some (r, I2, L2) ∧ Inv I2 L2 rm := fun hb => by
      have j3 : Fr [46] (up2 I 0 6 1) (wp (up2 I 0 6 1) 46 0 p) := Fr_wp (by decide)
      have hin : f_X8_isIn a.toInt64 (-1000) 1000 = some false := (isIn1000 a).trans (by rw [decide_eq_false (by omega)])
      refine ⟨-1, up2 I 0 6 1, L, ?_, _, L, ?_, IV_q h ((Q8_fr j3 (by decide)).trans (Q8_is (a := 1))) (RDY_is ((RDY_s hR).fr j3 (by decide))) is8_0⟩
      · rcases hb with hb | hb
        · have c1 : a < -1000 := Int32.lt_iff_toInt_lt.mpr hb
          simp (config := { decide := true }) only [f_X7_power, read_eq hC.1 e1, cmp_tn' hn hp, c1, m1_l, obs, bnd_eq, is_0, is_1, is_2, is_3, is_4, is_5, is_6, is_9, tell_eq, refuse_eq, refuse8_eq, b2i_1, b2i_0, if_true, if_false, ↓reduceIte]
        · have c1 : ¬ a < -1000 := fun g => by have := Int32.lt_iff_toInt_lt.mp g; have h9 : (-1000 : Int32).toInt = -1000 := (by decide); omega
          have c2 : ¬ a ≤ 1000 := fun g => by have := Int32.le_iff_toInt_le.mp g; have h9 : (1000 : Int32).toInt = 1000 := (by decide); omega
          simp (config := { decide := true }) only [f_X7_power, read_eq hC.1 e1, cmp_tn' hn hp, c1, c2, m1_l, obs, bnd_eq, is_0, is_1, is_2, is_3, is_4, is_5, is_6, is_9, tell_eq, refuse_eq, refuse8_eq, b2i_1, b2i_0, if_true, if_false, ↓reduceIte]
      · simp (config := { decide := true }) only [f_X8_power, e2 46 _ L (by decide) (RDY_s (s := 1) hR).1, hin, obs, bnd_eq, is_0, is_1, is_2, is_3, is_4, is_5, is_6, is_9, tell_eq, refuse_eq, refuse8_eq, b2i_1, b2i_0, if_true, if_false, ↓reduceIte]
    have good : ∀ (k : Nat → Nat) (b : Int32), (b = a) → IsP n k → (-1000 ≤ a.toInt ∧ a.toInt ≤ 1000) → f_X6_raise (tn n p) a (nI n) = some (tn n k) → (∀ J : MI, Row J 46 0 p → Row J 47 0 (iv p) → (if 0 ≤ a then f_X8_powers 46 a 48 J L else f_X8_powers 47 (-a) 48 J L) = some (wp J 48 0 k, L)) → ∃ (r : Int64) (I1 : MI) (L1 : ML), f_X7_power x a I L = some (r, I1, L1) ∧ ∃ (I2 : MI) (L2 : ML), f_X8_power x a I1 L1 = some (r, I2, L2) ∧ Inv I2 L2 rm := fun k b _ hk hr hc hpw => by
      have j3 : Fr [46] (up2 I 0 6 0) (wp (up2 I 0 6 0) 46 0 p) := Fr_wp (by decide)
      have hR2 := RDY_is (a := 0) ((RDY_s (s := 0) hR).fr j3 (by decide))
      have r46 : Row (is8 (wp (up2 I 0 6 0) 46 0 p) 0) 46 0 p := Row_is (by decide) Row_wp
      have j4 : Fr [47, 48] (is8 (wp (up2 I 0 6 0) 46 0 p) 0) (wp (wp (is8 (wp (up2 I 0 6 0) 46 0 p) 0) 47 0 (iv p)) 48 0 k) := (Fr_wp (by decide)).trans (Fr_wp (by decide))
      have hR3 := hR2.fr j4 (by decide)
      have hin : f_X8_isIn a.toInt64 (-1000) 1000 = some true := (isIn1000 a).trans (by rw [decide_eq_true hr])
      have c1 : ¬ a < -1000 := fun g => by have := Int32.lt_iff_toInt_lt.mp g; have h9 : (-1000 : Int32).toInt = -1000 := (by decide); omega
      have c2 : a ≤ 1000 := Int32.le_iff_toInt_le.mpr (by have h9 : (1000 : Int32).toInt = 1000 := by decide
                                                          omega)
      have hpw2 := hpw (wp (is8 (wp (up2 I 0 6 0) 46 0 p) 0) 47 0 (iv p)) (Row_ne (by decide) r46) Row_wp
      refine ⟨lN (NV k n), up2 I 0 6 0, L, ?_, _, L, ?_, IV_q h (((Q8_fr j3 (by decide)).trans (Q8_is (a := 0))).trans (Q8_fr j4 (by decide))) hR3 (by rw [j4 43 (by decide)]; exact is8_0)⟩
      · simp (config := { decide := true }) only [f_X7_power, read_eq hC.1 e1, cmp_tn' hn hp, c1, c2, hC.1, hc, tellTurn_eq hn hk hC.1, obs, bnd_eq, is_0, is_1, is_2, is_3, is_4, is_5, is_6, is_9, tell_eq, refuse_eq, refuse8_eq, b2i_1, b2i_0, if_true, if_false, ↓reduceIte]
      · by_cases g : 0 ≤ a
        · rw [if_pos g] at hpw2
          simp (config := { decide := true }) only [f_X8_power, e2 46 _ L (by decide) (RDY_s (s := 0) hR).1, hin, inverts_eq r46 (IsP_mono hp hn) (show 46 ≠ 47 by decide), g, hpw2, told_eq hn hk hR3.1 Row_wp, obs, bnd_eq, is_0, is_1, is_2, is_3, is_4, is_5, is_6, is_9, tell_eq, refuse_eq, refuse8_eq, b2i_1, b2i_0, if_true, if_false, ↓reduceIte]
        · rw [if_neg g] at hpw2
          simp (config := { decide := true }) only [f_X8_power, e2 46 _ L (by decide) (RDY_s (s := 0) hR).1, hin, inverts_eq r46 (IsP_mono hp hn) (show 46 ≠ 47 by decide), g, hpw2, told_eq hn hk hR3.1 Row_wp, obs, bnd_eq, is_0, is_1, is_2, is_3, is_4, is_5, is_6, is_9, tell_eq, refuse_eq, refuse8_eq, b2i_1, b2i_0, if_true, if_false, ↓reduceIte]
    rcases in1000 a with hb | hb | ⟨j, hj, rfl⟩ | ⟨j, hj, hj1, rfl⟩
    · exact bad (Or.inl hb)
    · exact bad (Or.inr hb)
    · refine good (pw p j) _ rfl (IsP_pw hp j) (by rw [nI_toInt (by omega)]; omega) (raise_eq hn (IsP_pw hp j) (fun i hi => imageOfPower_p hn hp hi hj)) (fun J r1 r2 => ?_)
      rw [if_pos (nI_pos' (by omega))]
      exact powers_eq (IsP_mono hp hn) r1 (by decide) (by omega)
    · refine good (pw (iv p) j) _ rfl (IsP_pw (IsP_iv hn hp) j) (by rw [neg_toInt j hj]; omega) (raise_eq hn (IsP_pw (IsP_iv hn hp) j) (fun i hi => imageOfPower_n hn hp hi hj)) (fun J r1 r2 => ?_)
      rw [if_neg (fun g => by have := Int32.le_iff_toInt_le.mp g; rw [neg_toInt j hj] at this; have h9 : (0 : Int32).toInt = 0 := by decide
                              omega), Int32.neg_neg]
      exact powers_eq (IsP_mono (IsP_iv hn hp) hn) r2 (by decide) (by omega)
  · obtain ⟨I', f1, f2⟩ := e2 46 (up2 I 0 6 1) L (by decide) (RDY_s (s := 1) hR).1
    refine ⟨-1, up2 I 0 6 1, L, ?_, _, L, ?_, IV_q h ((Q8_fr f2 (by decide)).trans (Q8_is (a := 1))) (RDY_is ((RDY_s hR).fr f2 (by decide))) is8_0⟩
    · simp (config := { decide := true }) only [f_X7_power, read_eq hC.1 e1, cmp_m1', m1_l, obs, bnd_eq, is_0, is_1, is_2, is_3, is_4, is_5, is_6, is_9, tell_eq, refuse_eq, refuse8_eq, b2i_1, b2i_0, if_true, if_false, ↓reduceIte]
    · simp (config := { decide := true }) only [f_X8_power, f1, obs, bnd_eq, is_0, is_1, is_2, is_3, is_4, is_5, is_6, is_9, tell_eq, refuse_eq, refuse8_eq, b2i_1, b2i_0, if_true, if_false, ↓reduceIte]
theorem PR_11h : PR_11 Inv := by
  intro I L rm x a ⟨n, m, mv, st, h⟩
  obtain ⟨hO, hC, hR, hP, hT, hU, hF, hS⟩ := id h
  have hn := hO.1
  rcases rd hn x with ⟨p, hp, h0, e1, e2⟩ | ⟨e1, e2⟩
  · have bad : f_X8_isIn a.toInt64 0 4 = some false → (¬ a = 0 ∧ ¬ a = 1 ∧ ¬ a = 2 ∧ ¬ a = 3 ∧ ¬ a = 4) → ∃ (r : Int32) (I1 : MI) (L1 : ML), f_X7_about x a I L = some (r, I1, L1) ∧ ∃ (I2 : MI) (L2 : ML), f_X8_about x a I1 L1 = some (r, I2, L2) ∧ Inv I2 L2 rm := fun hin ⟨c0, c1, c2, c3, c4⟩ => by
      have j3 : Fr [46] (up2 I 0 6 1) (wp (up2 I 0 6 1) 46 0 p) := Fr_wp (by decide)
      refine ⟨-1, up2 I 0 6 1, L, ?_, _, L, ?_, IV_q h ((Q8_fr j3 (by decide)).trans (Q8_is (a := 1))) (RDY_is ((RDY_s hR).fr j3 (by decide))) is8_0⟩
      · simp (config := { decide := true }) only [f_X7_about, read_eq hC.1 e1, cmp_tn hn hp, hC.1, shape_eq hn hp, c0, c1, c2, c3, c4, obs, bnd_eq, is_0, is_1, is_2, is_3, is_4, is_5, is_6, is_9, tell_eq, refuse_eq, refuse8_eq, b2i_1, b2i_0, if_true, if_false, ↓reduceIte]
      · simp (config := { decide := true }) only [f_X8_about, e2 46 _ L (by decide) (RDY_s (s := 1) hR).1, hin, obs, bnd_eq, is_0, is_1, is_2, is_3, is_4, is_5, is_6, is_9, tell_eq, refuse_eq, refuse8_eq, b2i_1, b2i_0, if_true, if_false, ↓reduceIte]
    by_cases hneg : a < 0
    · exact bad (isIn_neg (lo := 0) (hi := 4) hneg (by decide) (by decide)) ⟨fun e => by subst e; exact absurd hneg (by decide), fun e => by subst e; exact absurd hneg (by decide), fun e => by subst e; exact absurd hneg (by decide), fun e => by subst e; exact absurd hneg (by decide), fun e => by subst e; exact absurd hneg (by decide)⟩
    · obtain ⟨j, hj, rfl⟩ := nI_of hneg
      by_cases h4 : j ≤ 4
      · have hin : f_X8_isIn (nI j).toInt64 0 4 = some true := (isIn_pos (lo := 0) (hi := 4) hj (by decide) (by decide)).trans (by rw [decide_eq_true ⟨Nat.zero_le _, h4⟩])
        have j3 : Fr [46] (up2 I 0 6 0) (wp (up2 I 0 6 0) 46 0 p) := Fr_wp (by decide)
        have hR2 := RDY_is (a := 0) ((RDY_s (s := 0) hR).fr j3 (by decide))
        have r46 : Row (is8 (wp (up2 I 0 6 0) 46 0 p) 0) 46 0 p := Row_is (by decide) Row_wp
        have fin : Inv (is8 (wp (up2 I 0 6 0) 46 0 p) 0) L rm := IV_q h ((Q8_fr j3 (by decide)).trans (Q8_is (a := 0))) hR2 is8_0
        have el := e2 46 _ L (by decide) (RDY_s (s := 0) hR).1
        have hj5 : j = 0 ∨ j = 1 ∨ j = 2 ∨ j = 3 ∨ j = 4 := by omega
        rcases hj5 with e | e | e | e | e <;> subst e
        · refine ⟨nI (lcf p n), up2 I 0 6 0, L, ?_, _, L, ?_, fin⟩
          · simp (config := { decide := true }) only [f_X7_about, read_eq hC.1 e1, cmp_tn hn hp, hC.1, shape_eq hn hp, period_eq hn hp, obs, bnd_eq, is_0, is_1, is_2, is_3, is_4, is_5, is_6, is_9, tell_eq, refuse_eq, refuse8_eq, b2i_1, b2i_0, if_true, if_false, ↓reduceIte]
          · simp (config := { decide := true }) only [f_X8_about, el, hin, orderOf__eq hn hp hR2.1 r46, obs, bnd_eq, is_0, is_1, is_2, is_3, is_4, is_5, is_6, is_9, tell_eq, refuse_eq, refuse8_eq, b2i_1, b2i_0, if_true, if_false, ↓reduceIte]
        · refine ⟨nI (cT (mn p) n), up2 I 0 6 0, L, ?_, _, L, ?_, fin⟩
          · simp (config := { decide := true }) only [f_X7_about, read_eq hC.1 e1, cmp_tn hn hp, hC.1, shape_eq hn hp, cycles_eq hn hp, obs, bnd_eq, is_0, is_1, is_2, is_3, is_4, is_5, is_6, is_9, tell_eq, refuse_eq, refuse8_eq, b2i_1, b2i_0, if_true, if_false, ↓reduceIte]
          · simp (config := { decide := true }) only [f_X8_about, el, hin, cycles8_eq hn hp hR2.1 r46, obs, bnd_eq, is_0, is_1, is_2, is_3, is_4, is_5, is_6, is_9, tell_eq, refuse_eq, refuse8_eq, b2i_1, b2i_0, if_true, if_false, ↓reduceIte]
        · refine ⟨nI (cT (fun i => decide (p i = i)) n), up2 I 0 6 0, L, ?_, _, L, ?_, fin⟩
          · simp (config := { decide := true }) only [f_X7_about, read_eq hC.1 e1, cmp_tn hn hp, hC.1, shape_eq hn hp, staying_eq hn hp, obs, bnd_eq, is_0, is_1, is_2, is_3, is_4, is_5, is_6, is_9, tell_eq, refuse_eq, refuse8_eq, b2i_1, b2i_0, if_true, if_false, ↓reduceIte]
          · simp (config := { decide := true }) only [f_X8_about, el, hin, staying8_eq hn hp hR2.1 r46, obs, bnd_eq, is_0, is_1, is_2, is_3, is_4, is_5, is_6, is_9, tell_eq, refuse_eq, refuse8_eq, b2i_1, b2i_0, if_true, if_false, ↓reduceIte]
        · refine ⟨b2i (decide ((n - cT (mn p) n) % 2 = 0)), up2 I 0 6 0, L, ?_, _, L, ?_, fin⟩
          · cases hd : decide ((n - cT (mn p) n) % 2 = 0) <;> simp (config := { decide := true }) only [f_X7_about, read_eq hC.1 e1, cmp_tn hn hp, hC.1, shape_eq hn hp, isEven_eq hn hp, hd, obs, bnd_eq, is_0, is_1, is_2, is_3, is_4, is_5, is_6, is_9, tell_eq, refuse_eq, refuse8_eq, b2i_1, b2i_0, if_true, if_false, ↓reduceIte]
          · cases hd : decide ((n - cT (mn p) n) % 2 = 0) <;> simp (config := { decide := true }) only [f_X8_about, el, hin, isEven8_eq hn hp hR2.1 r46, hd, obs, bnd_eq, is_0, is_1, is_2, is_3, is_4, is_5, is_6, is_9, tell_eq, refuse_eq, refuse8_eq, b2i_1, b2i_0, if_true, if_false, ↓reduceIte]
        · refine ⟨nI (oS (fun i => decide (p i ≠ i)) n), up2 I 0 6 0, L, ?_, _, L, ?_, fin⟩
          · simp (config := { decide := true }) only [f_X7_about, read_eq hC.1 e1, cmp_tn hn hp, hC.1, shape_eq hn hp, moved_eq hn hp, obs, bnd_eq, is_0, is_1, is_2, is_3, is_4, is_5, is_6, is_9, tell_eq, refuse_eq, refuse8_eq, b2i_1, b2i_0, if_true, if_false, ↓reduceIte]
          · simp (config := { decide := true }) only [f_X8_about, el, hin, about111_eq hn hp hR2.1 r46, obs, bnd_eq, is_0, is_1, is_2, is_3, is_4, is_5, is_6, is_9, tell_eq, refuse_eq, refuse8_eq, b2i_1, b2i_0, if_true, if_false, ↓reduceIte]
      · have ne : ∀ k, k ≤ 4 → ¬ nI j = nI k := fun k hk e => h4 (by have := (q_eq hj (by omega)).mp e; omega)
        exact bad ((isIn_pos (lo := 0) (hi := 4) hj (by decide) (by decide)).trans (by rw [decide_eq_false (fun g => h4 g.2)])) ⟨ne 0 (by decide), ne 1 (by decide), ne 2 (by decide), ne 3 (by decide), ne 4 (by decide)⟩
  · obtain ⟨I', f1, f2⟩ := e2 46 (up2 I 0 6 1) L (by decide) (RDY_s (s := 1) hR).1
    refine ⟨-1, up2 I 0 6 1, L, ?_, _, L, ?_, IV_q h ((Q8_fr f2 (by decide)).trans (Q8_is (a := 1))) (RDY_is ((RDY_s hR).fr f2 (by decide))) is8_0⟩
    · simp (config := { decide := true }) only [f_X7_about, read_eq hC.1 e1, cmp_m1, obs, bnd_eq, is_0, is_1, is_2, is_3, is_4, is_5, is_6, is_9, tell_eq, refuse_eq, refuse8_eq, b2i_1, b2i_0, if_true, if_false, ↓reduceIte]
    · simp (config := { decide := true }) only [f_X8_about, f1, obs, bnd_eq, is_0, is_1, is_2, is_3, is_4, is_5, is_6, is_9, tell_eq, refuse_eq, refuse8_eq, b2i_1, b2i_0, if_true, if_false, ↓reduceIte]
theorem turns_eq {a b c : Nat} (hp : IsP 10 p) (hq : IsP 10 q) (ha : Row I a 0 p) (hb : Row I b 0 q) (h1 : a ≠ 49) (h2 : a ≠ 50) (h3 : b ≠ 49) (h4 : b ≠ 50) (h5 : c ≠ 50) (h6 : b ≠ c) : f_X8_turns a b c I L = some (wp (wp (wp I 49 0 (iv q)) 50 0 (cp (iv q) p)) c 0 (cj p q), L) := by
  unfold f_X8_turns
  have r1 : Row (wp I 49 0 (iv q)) a 0 p := Row_ne h1 ha
  have r2 : Row (wp (wp I 49 0 (iv q)) 50 0 (cp (iv q) p)) b 0 q := Row_ne h4 (Row_ne h3 hb)
  have hv := IsP_iv (Nat.le_refl 10) hq
  rw [ob (inverts_eq hb hq h3), ob (makes_eq Row_wp r1 hv (by decide) h2), ob (makes_eq Row_wp r2 (IsP_cp hv hp) (fun g => h5 g.symm) h6)]
  rfl
theorem commutes_eq {a b c : Nat} (hp : IsP 10 p) (hq : IsP 10 q) (ha : Row I a 0 p) (hb : Row I b 0 q) (h1 : a ≠ 49) (h2 : a ≠ 50) (h3 : b ≠ 49) (h4 : b ≠ 50) (h5 : c ≠ 49) (h6 : c ≠ 50) (h7 : a ≠ c) (h8 : b ≠ c) : f_X8_commutes a b c I L = some (wp (wp (wp I 49 0 (iv p)) 50 0 (iv q)) c 0 (cm p q), L) := by
  unfold f_X8_commutes
  have hv := IsP_iv (Nat.le_refl 10) hp
  have hw := IsP_iv (Nat.le_refl 10) hq
  have r1 : Row (wp I 49 0 (iv p)) b 0 q := Row_ne h3 hb
  rw [ob (inverts_eq ha hp h1), ob (inverts_eq r1 hq h4)]
  generalize hJ : wp (wp I 49 0 (iv p)) 50 0 (iv q) = J
  have ra : Row J a 0 p := by rw [← hJ]; exact Row_ne h2 (Row_ne h1 ha)
  have rb : Row J b 0 q := by rw [← hJ]; exact Row_ne h4 r1
  have r49 : Row J 49 0 (iv p) := by rw [← hJ]; exact Row_ne (by decide) Row_wp
  have r50 : Row J 50 0 (iv q) := by rw [← hJ]; exact Row_wp
  have e : ∀ k, cm p q k = q (p (iv q (iv p k))) := fun k => by
    show (cp p q) (iv (cp q p) k) = _
    rw [iv_cpp (Nat.le_refl 10) hq hp]
    rfl
  dsimp only
  have := for0 (fun fu z => f_X8_commutes_19 a b c L fu z.1 z.2) (fun x => (nI x, wr J c 0 x (fun j => nI (cm p q j)))) 10 (some (wp J c 0 (cm p q), L)) (by decide)
    (fun fu => by
      dsimp only
      rw [f_X8_commutes_19, if_pos (by decide)]
      rfl)
    (fun fu x hx => by
      dsimp only
      have i1 := hv.1 x hx
      have i2 := hw.1 _ i1
      have i3 := hp.1 _ i2
      rw [f_X8_commutes_19, if_neg (ge10 hx), q_chk hx (by decide), q_ix (by omega), wr_ne (fun g => h5 g.symm), Row0 r49 hx, q_chk i1 (by decide), q_ix (by omega), wr_ne (fun g => h6 g.symm), Row0 r50 i1, q_chk i2 (by decide), q_ix (by omega), wr_ne h7, Row0 ra i2, q_chk i3 (by decide), q_chk hx (by decide), bnd_eq, q_ix (by omega), wr_ne h8, Row0 rb i3, wr_s0 (v := nI (q (p (iv q (iv p x))))) (f := fun j => nI (cm p q j)) (by rw [e]), bnd_eq, nI_1])
  rw [wr_0, nI_0] at this
  exact this
theorem PR_32h : PR_32 Inv := by
  intro I L rm x y ⟨n, m, mv, st, h⟩
  obtain ⟨hO, hC, hR, hP, hT, hU, hF, hS⟩ := id h
  have hn := hO.1
  rcases rd hn x with ⟨p, hp, h0, e1, e2⟩ | ⟨e1, e2⟩
  · rcases rd hn y with ⟨q, hq, _, g1, g2⟩ | ⟨g1, g2⟩
    · have j3 : Fr [46, 47] (up2 I 0 6 0) (wp (wp (up2 I 0 6 0) 46 0 p) 47 0 q) := (Fr_wp (by decide)).trans (Fr_wp (by decide))
      have hR1 := (RDY_s (s := 0) hR).fr (S := [46]) (I' := wp (up2 I 0 6 0) 46 0 p) (Fr_wp (by decide)) (by decide)
      have hR2 := RDY_is (a := 0) ((RDY_s (s := 0) hR).fr j3 (by decide))
      have r46 : Row (is8 (wp (wp (up2 I 0 6 0) 46 0 p) 47 0 q) 0) 46 0 p := Row_is (by decide) (Row_ne (by decide) Row_wp)
      have r47 : Row (is8 (wp (wp (up2 I 0 6 0) 46 0 p) 47 0 q) 0) 47 0 q := Row_is (by decide) Row_wp
      have hx := commutes_eq (L := L) (c := 48) (IsP_mono hp hn) (IsP_mono hq hn) r46 r47 (by decide) (by decide) (by decide) (by decide) (by decide) (by decide) (by decide) (by decide)
      generalize hJ : wp (wp (wp (is8 (wp (wp (up2 I 0 6 0) 46 0 p) 47 0 q) 0) 49 0 (iv p)) 50 0 (iv q)) 48 0 (cm p q) = J at hx
      have j4 : Fr [48, 49, 50] (is8 (wp (wp (up2 I 0 6 0) 46 0 p) 47 0 q) 0) J := by rw [← hJ]; exact ((Fr_wp (by decide)).trans (Fr_wp (by decide))).trans (Fr_wp (by decide))
      have r48 : Row J 48 0 (cm p q) := by rw [← hJ]; exact Row_wp
      have hR3 := hR2.fr j4 (by decide)
      refine ⟨lN (NV (cm p q) n), up2 I 0 6 0, L, ?_, J, L, ?_, IV_q h (((Q8_fr j3 (by decide)).trans (Q8_is (a := 0))).trans (Q8_fr j4 (by decide))) hR3 (by rw [j4 43 (by decide)]; exact is8_0)⟩
      · simp (config := { decide := true }) only [f_X7_commutator, read_eq hC.1 e1, read_eq hC.1 g1, cmp_tn' hn hp, cmp_tn hn hq, hC.1, commutatorOf_eq hn hp hq, tellTurn_eq hn (IsP_cm hn hp hq) hC.1, obs, bnd_eq, is_0, is_1, is_2, is_3, is_4, is_5, is_6, is_9, tell_eq, refuse_eq, refuse8_eq, b2i_1, b2i_0, if_true, if_false, ↓reduceIte]
      · simp (config := { decide := true }) only [f_X8_commutator, e2 46 _ L (by decide) (RDY_s (s := 0) hR).1, g2 47 _ L (by decide) hR1.1, hx, told_eq hn (IsP_cm hn hp hq) hR3.1 r48, obs, bnd_eq, is_0, is_1, is_2, is_3, is_4, is_5, is_6, is_9, tell_eq, refuse_eq, refuse8_eq, b2i_1, b2i_0, if_true, if_false, ↓reduceIte]
    · have hR1 := (RDY_s (s := 1) hR).fr (S := [46]) (I' := wp (up2 I 0 6 1) 46 0 p) (Fr_wp (by decide)) (by decide)
      obtain ⟨I', f1, f2⟩ := g2 47 (wp (up2 I 0 6 1) 46 0 p) L (by decide) hR1.1
      refine ⟨-1, up2 I 0 6 1, L, ?_, _, L, ?_, IV_q h (((Q8_fr (S := [46]) (Fr_wp (by decide)) (by decide)).trans (Q8_fr f2 (by decide))).trans (Q8_is (a := 1))) (RDY_is (hR1.fr f2 (by decide))) is8_0⟩
      · simp (config := { decide := true }) only [f_X7_commutator, read_eq hC.1 e1, read_eq hC.1 g1, cmp_tn' hn hp, cmp_m1, m1_l, obs, bnd_eq, is_0, is_1, is_2, is_3, is_4, is_5, is_6, is_9, tell_eq, refuse_eq, refuse8_eq, b2i_1, b2i_0, if_true, if_false, ↓reduceIte]
      · simp (config := { decide := true }) only [f_X8_commutator, e2 46 _ L (by decide) (RDY_s (s := 1) hR).1, f1, obs, bnd_eq, is_0, is_1, is_2, is_3, is_4, is_5, is_6, is_9, tell_eq, refuse_eq, refuse8_eq, b2i_1, b2i_0, if_true, if_false, ↓reduceIte]
  · obtain ⟨I', f1, f2⟩ := e2 46 (up2 I 0 6 1) L (by decide) (RDY_s (s := 1) hR).1
    have hrd : ∃ z, f_X6_fromNumber y (nI n) = some z := by
      rcases rd hn y with ⟨q, hq, _, g1, g2⟩ | ⟨g1, g2⟩
      · exact ⟨_, g1⟩
      · exact ⟨_, g1⟩
    obtain ⟨z, g1⟩ := hrd
    refine ⟨-1, up2 I 0 6 1, L, ?_, _, L, ?_, IV_q h ((Q8_fr f2 (by decide)).trans (Q8_is (a := 1))) (RDY_is ((RDY_s hR).fr f2 (by decide))) is8_0⟩
    · simp (config := { decide := true }) only [f_X7_commutator, read_eq hC.1 e1, read_eq hC.1 g1, cmp_m1', m1_l, obs, bnd_eq, is_0, is_1, is_2, is_3, is_4, is_5, is_6, is_9, tell_eq, refuse_eq, refuse8_eq, b2i_1, b2i_0, if_true, if_false, ↓reduceIte]
    · simp (config := { decide := true }) only [f_X8_commutator, f1, obs, bnd_eq, is_0, is_1, is_2, is_3, is_4, is_5, is_6, is_9, tell_eq, refuse_eq, refuse8_eq, b2i_1, b2i_0, if_true, if_false, ↓reduceIte]
theorem PR_33h : PR_33 Inv := by
  intro I L rm x y ⟨n, m, mv, st, h⟩
  obtain ⟨hO, hC, hR, hP, hT, hU, hF, hS⟩ := id h
  have hn := hO.1
  rcases rd hn x with ⟨p, hp, h0, e1, e2⟩ | ⟨e1, e2⟩
  · rcases rd hn y with ⟨q, hq, _, g1, g2⟩ | ⟨g1, g2⟩
    · have j3 : Fr [46, 47] (up2 I 0 6 0) (wp (wp (up2 I 0 6 0) 46 0 p) 47 0 q) := (Fr_wp (by decide)).trans (Fr_wp (by decide))
      have hR1 := (RDY_s (s := 0) hR).fr (S := [46]) (I' := wp (up2 I 0 6 0) 46 0 p) (Fr_wp (by decide)) (by decide)
      have hR2 := RDY_is (a := 0) ((RDY_s (s := 0) hR).fr j3 (by decide))
      have r46 : Row (is8 (wp (wp (up2 I 0 6 0) 46 0 p) 47 0 q) 0) 46 0 p := Row_is (by decide) (Row_ne (by decide) Row_wp)
      have r47 : Row (is8 (wp (wp (up2 I 0 6 0) 46 0 p) 47 0 q) 0) 47 0 q := Row_is (by decide) Row_wp
      have hx := turns_eq (L := L) (c := 48) (IsP_mono hp hn) (IsP_mono hq hn) r46 r47 (by decide) (by decide) (by decide) (by decide) (by decide) (by decide)
      generalize hJ : wp (wp (wp (is8 (wp (wp (up2 I 0 6 0) 46 0 p) 47 0 q) 0) 49 0 (iv q)) 50 0 (cp (iv q) p)) 48 0 (cj p q) = J at hx
      have j4 : Fr [48, 49, 50] (is8 (wp (wp (up2 I 0 6 0) 46 0 p) 47 0 q) 0) J := by rw [← hJ]; exact ((Fr_wp (by decide)).trans (Fr_wp (by decide))).trans (Fr_wp (by decide))
      have r48 : Row J 48 0 (cj p q) := by rw [← hJ]; exact Row_wp
      have hR3 := hR2.fr j4 (by decide)
      refine ⟨lN (NV (cj p q) n), up2 I 0 6 0, L, ?_, J, L, ?_, IV_q h (((Q8_fr j3 (by decide)).trans (Q8_is (a := 0))).trans (Q8_fr j4 (by decide))) hR3 (by rw [j4 43 (by decide)]; exact is8_0)⟩
      · simp (config := { decide := true }) only [f_X7_turned, read_eq hC.1 e1, read_eq hC.1 g1, cmp_tn' hn hp, cmp_tn hn hq, hC.1, conjugate_eq hn hp hq, tellTurn_eq hn (IsP_cj hn hp hq) hC.1, obs, bnd_eq, is_0, is_1, is_2, is_3, is_4, is_5, is_6, is_9, tell_eq, refuse_eq, refuse8_eq, b2i_1, b2i_0, if_true, if_false, ↓reduceIte]
      · simp (config := { decide := true }) only [f_X8_turned, e2 46 _ L (by decide) (RDY_s (s := 0) hR).1, g2 47 _ L (by decide) hR1.1, hx, told_eq hn (IsP_cj hn hp hq) hR3.1 r48, obs, bnd_eq, is_0, is_1, is_2, is_3, is_4, is_5, is_6, is_9, tell_eq, refuse_eq, refuse8_eq, b2i_1, b2i_0, if_true, if_false, ↓reduceIte]
    · have hR1 := (RDY_s (s := 1) hR).fr (S := [46]) (I' := wp (up2 I 0 6 1) 46 0 p) (Fr_wp (by decide)) (by decide)
      obtain ⟨I', f1, f2⟩ := g2 47 (wp (up2 I 0 6 1) 46 0 p) L (by decide) hR1.1
      refine ⟨-1, up2 I 0 6 1, L, ?_, _, L, ?_, IV_q h (((Q8_fr (S := [46]) (Fr_wp (by decide)) (by decide)).trans (Q8_fr f2 (by decide))).trans (Q8_is (a := 1))) (RDY_is (hR1.fr f2 (by decide))) is8_0⟩
      · simp (config := { decide := true }) only [f_X7_turned, read_eq hC.1 e1, read_eq hC.1 g1, cmp_tn' hn hp, cmp_m1, m1_l, obs, bnd_eq, is_0, is_1, is_2, is_3, is_4, is_5, is_6, is_9, tell_eq, refuse_eq, refuse8_eq, b2i_1, b2i_0, if_true, if_false, ↓reduceIte]
      · simp (config := { decide := true }) only [f_X8_turned, e2 46 _ L (by decide) (RDY_s (s := 1) hR).1, f1, obs, bnd_eq, is_0, is_1, is_2, is_3, is_4, is_5, is_6, is_9, tell_eq, refuse_eq, refuse8_eq, b2i_1, b2i_0, if_true, if_false, ↓reduceIte]
  · obtain ⟨I', f1, f2⟩ := e2 46 (up2 I 0 6 1) L (by decide) (RDY_s (s := 1) hR).1
    have hrd : ∃ z, f_X6_fromNumber y (nI n) = some z := by
      rcases rd hn y with ⟨q, hq, _, g1, g2⟩ | ⟨g1, g2⟩
      · exact ⟨_, g1⟩
      · exact ⟨_, g1⟩
    obtain ⟨z, g1⟩ := hrd
    refine ⟨-1, up2 I 0 6 1, L, ?_, _, L, ?_, IV_q h ((Q8_fr f2 (by decide)).trans (Q8_is (a := 1))) (RDY_is ((RDY_s hR).fr f2 (by decide))) is8_0⟩
    · simp (config := { decide := true }) only [f_X7_turned, read_eq hC.1 e1, read_eq hC.1 g1, cmp_m1', m1_l, obs, bnd_eq, is_0, is_1, is_2, is_3, is_4, is_5, is_6, is_9, tell_eq, refuse_eq, refuse8_eq, b2i_1, b2i_0, if_true, if_false, ↓reduceIte]
    · simp (config := { decide := true }) only [f_X8_turned, f1, obs, bnd_eq, is_0, is_1, is_2, is_3, is_4, is_5, is_6, is_9, tell_eq, refuse_eq, refuse8_eq, b2i_1, b2i_0, if_true, if_false, ↓reduceIte]
end O3
