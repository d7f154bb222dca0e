/-! Ways and depths -/
section O6
variable {n m N rm : Nat} {mv : Nat → Nat → Nat} {st : Nat → Nat} {I : MI} {L : ML} {e : Nat → Nat → Nat} {dp kk : Nat → Nat}
theorem Q8_d {J J' : MI} (h : Fr (43 :: 48 :: 49 :: 50 :: 51 :: 60 :: 61 :: 62 :: SC) J J') (h2 : F43 J J') : Q8 J J' := by
  refine ⟨fun p hp => h p (fun g => ?_), fun j _ _ h20 h24 => h2 j h20 h24⟩
  have : p ∈ [43, 48, 49, 50, 51, 60, 61, 62, 52, 53, 54, 55, 56, 57, 58, 59] := g
  simp only [List.mem_cons, List.not_mem_nil, or_false] at this
  omega
theorem deep30_eq {d : Nat} (hN : N ≤ 5040) (h24 : I 43 24 = nI N) (h61 : ∀ x, x < N → I 61 x = nI (dp x)) (hl : ∀ x, x < N → dp x < N) (hd : d < 2 ^ 31) (k0 : Int32 → Option (Int32 × Mm)) : f_X8_deep_30 (nI d) I L k0 FU 0 0 = k0 (nI (cT (fun x => decide (dp x = d)) N)) := by
  have := for0 (fun fu z => f_X8_deep_30 (nI d) I L k0 fu z.1 z.2) (fun i => (nI (cT (fun x => decide (dp x = d)) i), nI i)) N (k0 (nI (cT (fun x => decide (dp x = d)) N))) (by omega)
    (fun fu => by
      dsimp only
      rw [f_X8_deep_30, h24, if_pos (by rw [q_le (by omega) (by omega)]; omega)])
    (fun fu i hi => by
      dsimp only
      have hdi := hl i hi
      rw [f_X8_deep_30, h24, if_neg (by rw [q_le (by omega) (by omega)]; omega), q_chk (by omega) (by decide), q_ix (by omega), h61 i hi, ifc (q_eq (by omega) hd)]
      by_cases c : dp i = d
      · rw [if_pos c, bnd_eq, bnd_eq, nI_1, nI_1, cT_t (decide_eq_true c)]
      · rw [if_neg c, bnd_eq, bnd_eq, nI_1, show (0 : Int32) = nI 0 from rfl, nI_add, cT_f (decide_eq_false c)]
        rfl)
  rw [nI_0] at this
  exact this
theorem deepMost_eq (hN : N ≤ 5040) (h24 : I 43 24 = nI N) (h61 : ∀ x, x < N → I 61 x = nI (dp x)) (hl : ∀ x, x < N → dp x < N) (h0 : 0 < N) (hd0 : dp 0 = 0) : ∃ M, f_X8_deepMost I L = some (nI M) ∧ (∀ x, x < N → dp x ≤ M) ∧ ∃ x, x < N ∧ dp x = M := by
  unfold f_X8_deepMost
  have := loop0 (fun fu z => f_X8_deepMost_4 I L fu z.1 z.2) (fun i z => i ≤ N ∧ z.2 = nI i ∧ ∃ M, z.1 = nI M ∧ (∀ x, x < i → dp x ≤ M) ∧ ∃ x, x < N ∧ dp x = M) (fun o => ∃ M, o = some (nI M) ∧ (∀ x, x < N → dp x ≤ M) ∧ ∃ x, x < N ∧ dp x = M) N (by omega) (nI 0, nI 0) ⟨Nat.zero_le _, rfl, 0, rfl, fun x hx => by omega, 0, h0, hd0⟩
    (fun fu i z hi hP => by
      obtain ⟨z1, z2⟩ := z
      obtain ⟨_, p1, M, p2, p3, y, p4, p5⟩ := hP
      dsimp only at p1 p2 ⊢
      subst p1 p2
      have hM := hl y p4
      rw [f_X8_deepMost_4, h24, ifc (q_le (by omega) (by omega))]
      by_cases c1 : N ≤ i
      · left
        rw [if_pos c1]
        exact ⟨M, rfl, fun x hx => p3 x (by omega), y, p4, p5⟩
      · right
        have hdi := hl i (by omega)
        rw [if_neg c1, q_chk (by omega) (by decide), q_ix (by omega), h61 i (by omega), ifc (q_le (by omega) (by omega))]
        by_cases c2 : dp i ≤ M
        · refine ⟨by omega, (nI M, nI (i + 1)), ?_, by omega, rfl, M, rfl, fun x hx => ?_, y, p4, p5⟩
          · rw [if_pos c2, bnd_eq, nI_1]
          · by_cases e1 : x = i
            · rw [e1]; exact c2
            · exact p3 x (by omega)
        · refine ⟨by omega, (nI (dp i), nI (i + 1)), ?_, by omega, rfl, dp i, rfl, fun x hx => ?_, i, by omega, rfl⟩
          · rw [if_neg c2, q_chk (by omega) (by decide), bnd_eq, bnd_eq, nI_1]
          · by_cases e1 : x = i
            · rw [e1]; exact Nat.le_refl _
            · have := p3 x (by omega); omega)
  rw [nI_0] at this
  exact this
theorem deepest39_eq {M x0 : Nat} {v1 : Int32} (hN : N ≤ 5040) (h61 : ∀ x, x < N → I 61 x = nI (dp x)) (hl : ∀ x, x < N → dp x < N) (hx0 : x0 < N) (h1 : dp x0 = M) (h2 : ∀ x, x < x0 → dp x ≠ M) (k0 : Int32 → Option (Int32 × Mm)) : f_X8_deepest_39 v1 (nI M) I L k0 FU 0 = k0 (nI x0) := by
  have hM := hl x0 hx0
  have := for0 (fun fu z => f_X8_deepest_39 v1 (nI M) I L k0 fu z) (fun i => nI i) x0 (k0 (nI x0)) (by omega)
    (fun fu => by
      rw [f_X8_deepest_39, q_chk (by omega) (by decide), q_ix (by omega), h61 x0 hx0, if_pos (by rw [h1])])
    (fun fu i hi => by
      have hdi := hl i (by omega)
      rw [f_X8_deepest_39, q_chk (by omega) (by decide), q_ix (by omega), h61 i (by omega), if_neg (by rw [q_eq (by omega) (by omega)]; exact h2 i hi), bnd_eq, nI_1])
  exact this
theorem sm_le (hl : ∀ x, x < N → dp x < N) : ∀ i, i ≤ N → sm dp i ≤ i * N := by
  intro i
  induction i with
  | zero => intro _; exact Nat.zero_le _
  | succ i ih =>
    intro hi
    have := ih (by omega)
    have := hl i (by omega)
    show sm dp i + dp i ≤ _
    rw [Nat.succ_mul]; omega
theorem mean36_eq {v1 : Int32} (hN : N ≤ 5040) (h24 : I 43 24 = nI N) (h61 : ∀ x, x < N → I 61 x = nI (dp x)) (k0 : Int32 → Option (Int32 × Mm)) : f_X8_mean_36 v1 I L k0 FU 0 0 = k0 (nI (sm dp N)) := by
  have := for0 (fun fu z => f_X8_mean_36 v1 I L k0 fu z.1 z.2) (fun i => (nI (sm dp i), nI i)) N (k0 (nI (sm dp N))) (by omega)
    (fun fu => by
      dsimp only
      rw [f_X8_mean_36, h24, if_pos (by rw [q_le (by omega) (by omega)]; omega)])
    (fun fu i hi => by
      dsimp only
      rw [f_X8_mean_36, h24, if_neg (by rw [q_le (by omega) (by omega)]; omega), q_chk (by omega) (by decide), q_ix (by omega), h61 i hi, bnd_eq, bnd_eq, nI_1, nI_add]
      rfl)
  rw [nI_0] at this
  exact this
/-- the reference lays the depths -/
theorem ref_d (hO : OKm n m mv st) (hR : RDY I n m mv st) (he : EL n (Gp n m mv) N e) (hN : N ≤ 5040) (hD : DK m mv N e dp kk) : ∃ I', f_X8_laysDepths I L = some (I', L) ∧ AD I' n m mv st N e ∧ (∀ x, x < N → I' 61 x = nI (dp x)) ∧ Q8 I I' ∧ I' 43 0 = I 43 0 ∧ Fr (43 :: 48 :: 49 :: 50 :: 51 :: 60 :: 61 :: 62 :: SC) I I' := by
  obtain ⟨I', a1, a2, a3, a4, a5⟩ := laysDepths_eq (L := L) hO hR he hN hD
  exact ⟨I', a1, a2, a3, Q8_d a4 a5, a5 0 (by decide) (by decide), a4⟩
theorem PR_22h : PR_22 Inv := by
  intro I L rm a ⟨n, m, mv, st, h⟩
  obtain ⟨hO, hC, hR, hP, hT, hU, hF, hS⟩ := id h
  have hn := hO.1
  have hG := Gp_Sub hn hO.2.2.1
  obtain ⟨N, e, he⟩ := EL_ex hn hG
  have hu := hurdle_eq hO hC he
  by_cases h1 : a < 0
  · have c1 : ¬ 0 ≤ a := Int32.not_le.mpr h1
    refine ⟨-1, up2 I 0 6 1, L, rm, ?_, RS_r, is8 (up2 I 0 6 1) 1, L, ?_, IV_q h (Q8_is (a := 1)) (RDY_is (RDY_s hR)) is8_0⟩
    · simp (config := { decide := true }) only [f_X7_deep, c1, obs, bnd_eq, is_0, is_1, is_2, is_3, is_4, is_5, is_6, is_9, tell_eq, refuse_eq, refuse8_eq, b2i_1, b2i_0, if_true, if_false, ↓reduceIte]
    · simp (config := { decide := true }) only [f_X8_deep, h1, wS_1, obs, bnd_eq, is_0, is_1, is_2, is_3, is_4, is_5, is_6, is_9, tell_eq, refuse_eq, refuse8_eq, b2i_1, b2i_0, if_true, if_false, ↓reduceIte]
  · obtain ⟨k, hk, rfl⟩ := nI_of h1
    have c1 : 0 ≤ nI k := nI_pos' hk
    rcases hz_3 n N with hz | hz | hz
    · obtain ⟨hN, hn0⟩ := hz_N hz
      rw [hz] at hu
      obtain ⟨I1, L1, rm1, a1, a2, dp, kk, nx, D, d1, d2, d3, d4, d5, d6, d7, d8, d9⟩ := measured_eq hO hC he hN
      have hl : ∀ x, x < N → dp x < N := fun x hx => DK_lt hn hO.2.1 hO.2.2.1 he d1 hx
      have cd := countDeep_eq (L := L1) (fun x hx => by have := hl x hx; omega) a2.2.2.2.2.1.2.2.2.1 a2.2.2.1 a2.2.2.2.2.1.2.1 d7 hk
      have ref : ∀ s : Int32, ∃ I', f_X8_deep (nI k) (up2 I1 0 6 s) L1 = (if nI (cT (fun x => decide (dp x = k)) N) = 0 then some (-1, up2 I' 43 0 5, L1) else some (nI (cT (fun x => decide (dp x = k)) N), I', L1)) ∧ RDY I' n m mv st ∧ Q8 (up2 I1 0 6 s) I' ∧ I' 43 0 = 0 := fun s => by
        obtain ⟨I2, b1, b2, b3, b4⟩ := wS (L := L1) hO (RDY_a (s := s) a2 hR) he hz
        obtain ⟨I3, g1, g2, g3, g4, g5, g6⟩ := ref_d (L := L1) hO (RDY_is (a := 0) b2) he hN d1
        refine ⟨I3, ?_, g2.1.rdy, (b3.trans Q8_is).trans g4, by rw [g5]; exact is8_0⟩
        rw [nI_0] at b1
        simp (config := { decide := true }) only [f_X8_deep, h1, b1, g1, deep30_eq (L := L1) hN g2.2.1 g3 hl hk, obs, bnd_eq, is_0, is_1, is_2, is_3, is_4, is_5, is_6, is_9, tell_eq, refuse_eq, refuse8_eq, b2i_1, b2i_0, if_true, if_false, ↓reduceIte]
      by_cases c0 : nI (cT (fun x => decide (dp x = k)) N) = 0
      · obtain ⟨I', b1, b2, b3, b4⟩ := ref 5
        rw [if_pos c0] at b1
        refine ⟨-1, up2 I1 0 6 5, L1, rm1, ?_, a2.1, _, L1, b1, IV_a h a2 (b3.trans Q8_r) (RDY_r b2) up2_s⟩
        simp (config := { decide := true }) only [f_X7_deep, c1, hu, nI_0, a1, a2.kA, a2.kB, cd, c0, obs, bnd_eq, is_0, is_1, is_2, is_3, is_4, is_5, is_6, is_9, tell_eq, refuse_eq, refuse8_eq, b2i_1, b2i_0, if_true, if_false, ↓reduceIte]
      · obtain ⟨I', b1, b2, b3, b4⟩ := ref 0
        rw [if_neg c0] at b1
        refine ⟨_, up2 I1 0 6 0, L1, rm1, ?_, a2.1, I', L1, b1, IV_a h a2 b3 b2 b4⟩
        simp (config := { decide := true }) only [f_X7_deep, c1, hu, nI_0, a1, a2.kA, a2.kB, cd, c0, obs, bnd_eq, is_0, is_1, is_2, is_3, is_4, is_5, is_6, is_9, tell_eq, refuse_eq, refuse8_eq, b2i_1, b2i_0, if_true, if_false, ↓reduceIte]
    · rw [hz] at hu
      obtain ⟨I2, b1, b2, b3, b4⟩ := wS (L := L) hO (RDY_s (s := 5) hR) he hz
      refine ⟨-1, up2 I 0 6 5, L, rm, ?_, RS_r, is8 I2 5, L, ?_, IV_q h (b3.trans Q8_is) (RDY_is b2) is8_0⟩
      · simp (config := { decide := true }) only [f_X7_deep, c1, hu, show nI 5 = 5 from rfl, obs, bnd_eq, is_0, is_1, is_2, is_3, is_4, is_5, is_6, is_9, tell_eq, refuse_eq, refuse8_eq, b2i_1, b2i_0, if_true, if_false, ↓reduceIte]
      · simp (config := { decide := true }) only [f_X8_deep, h1, b1, show nI 5 = 5 from rfl, obs, bnd_eq, is_0, is_1, is_2, is_3, is_4, is_5, is_6, is_9, tell_eq, refuse_eq, refuse8_eq, b2i_1, b2i_0, if_true, if_false, ↓reduceIte]
    · rw [hz] at hu
      obtain ⟨I2, b1, b2, b3, b4⟩ := wS (L := L) hO (RDY_s (s := 3) hR) he hz
      refine ⟨-1, up2 I 0 6 3, L, rm, ?_, RS_r, is8 I2 3, L, ?_, IV_q h (b3.trans Q8_is) (RDY_is b2) is8_0⟩
      · simp (config := { decide := true }) only [f_X7_deep, c1, hu, show nI 3 = 3 from rfl, obs, bnd_eq, is_0, is_1, is_2, is_3, is_4, is_5, is_6, is_9, tell_eq, refuse_eq, refuse8_eq, b2i_1, b2i_0, if_true, if_false, ↓reduceIte]
      · simp (config := { decide := true }) only [f_X8_deep, h1, b1, show nI 3 = 3 from rfl, obs, bnd_eq, is_0, is_1, is_2, is_3, is_4, is_5, is_6, is_9, tell_eq, refuse_eq, refuse8_eq, b2i_1, b2i_0, if_true, if_false, ↓reduceIte]
theorem dsh01 (a : Int32) : a = 0 ∨ a = 1 ∨ (f_X8_isIn a.toInt64 0 1 = some false ∧ (a < 0 ∨ (¬ a < 0 ∧ ¬ a ≤ 1))) := by
  by_cases hn : a < 0
  · exact Or.inr (Or.inr ⟨isIn_neg (lo := 0) (hi := 1) hn (by decide) (by decide), Or.inl hn⟩)
  · obtain ⟨j, hj, rfl⟩ := nI_of hn
    by_cases h1 : j ≤ 1
    · have : j = 0 ∨ j = 1 := by omega
      rcases this with e | e <;> subst e
      · exact Or.inl rfl
      · exact Or.inr (Or.inl rfl)
    · exact Or.inr (Or.inr ⟨(isIn_pos (lo := 0) (hi := 1) hj (by decide) (by decide)).trans (by rw [decide_eq_false (fun g => h1 g.2)]), Or.inr ⟨hn, by rw [show (1 : Int32) = nI 1 from rfl, q_le hj (by decide)]; exact h1⟩⟩)
theorem in01_0 : f_X8_isIn (Int32.toInt64 0) 0 1 = some true := (isIn_pos (j := 0) (lo := 0) (hi := 1) (by decide) (by decide) (by decide)).trans (by decide)
theorem in01_1 : f_X8_isIn (Int32.toInt64 1) 0 1 = some true := (isIn_pos (j := 1) (lo := 0) (hi := 1) (by decide) (by decide) (by decide)).trans (by decide)
theorem PR_23h : PR_23 Inv := by
  intro I L rm a ⟨n, m, mv, st, h⟩
  obtain ⟨hO, hC, hR, hP, hT, hU, hF, hS⟩ := id h
  have hn := hO.1
  have hG := Gp_Sub hn hO.2.2.1
  obtain ⟨N, e, he⟩ := EL_ex hn hG
  have hu := hurdle_eq hO hC he
  have good : (a = 0 ∨ a = 1) → f_X8_isIn a.toInt64 0 1 = some true → ∃ (r : Int32) (I1 : MI) (L1 : ML) (rm1 : Nat), f_X7_deepest rm a I L = some ((r, I1, L1), rm1) ∧ RS rm rm1 ∧ ∃ (I2 : MI) (L2 : ML), f_X8_deepest a I1 L1 = some (r, I2, L2) ∧ Inv I2 L2 rm1 := fun ha hin => by
    have c1 : ¬ a < 0 := by rcases ha with rfl | rfl <;> decide
    have c2 : a ≤ 1 := by rcases ha with rfl | rfl <;> decide
    rcases hz_3 n N with hz | hz | hz
    · obtain ⟨hN, hn0⟩ := hz_N hz
      rw [hz] at hu
      obtain ⟨I1, L1, rm1, a1, a2, dp, kk, nx, D, d1, d2, d3, d4, d5, ⟨y, d6, d6'⟩, d7, d8, d9⟩ := measured_eq hO hC he hN
      have hl : ∀ x, x < N → dp x < N := fun x hx => DK_lt hn hO.2.1 hO.2.2.1 he d1 hx
      obtain ⟨x0, x1, x2, x3⟩ := least_ex (fun x => dp x = D) y d6'
      have hDl := hl y d6
      obtain ⟨I2, b1, b2, b3, b4⟩ := wS (L := L1) hO (RDY_a (s := 0) a2 hR) he hz
      obtain ⟨I3, g1, g2, g3, g4, g5, g6⟩ := ref_d (L := L1) hO (RDY_is (a := 0) b2) he hN d1
      rw [nI_0] at b1
      obtain ⟨M, m1, m2, y', m3, m4⟩ := deepMost_eq (L := L1) hN g2.2.1 g3 hl (by omega) (DK_0 hn hO.2.1 hO.2.2.1 he d1).1
      have hMD : M = D := by have := m2 y d6; have := d5 y' m3; omega
      subst hMD
      have fd := firstDeep_eq (L := L1) (fun x hx => by have := hl x hx; omega) a2.2.2.2.2.1.2.2.2.1 a2.2.2.1 a2.2.2.2.2.1.2.1 d7 (show M < 2 ^ 31 by omega) (show x0 < N by omega) x2 x3
      have fin := IV_a h a2 ((b3.trans Q8_is).trans g4) g2.1.rdy (by rw [g5]; exact is8_0)
      rcases ha with rfl | rfl
      · refine ⟨nI M, up2 I1 0 6 0, L1, rm1, ?_, a2.1, I3, L1, ?_, fin⟩
        · simp (config := { decide := true }) only [f_X7_deepest, hu, nI_0, a1, a2.kA, a2.kB, d4, obs, bnd_eq, is_0, is_1, is_2, is_3, is_4, is_5, is_6, is_9, tell_eq, refuse_eq, refuse8_eq, b2i_1, b2i_0, if_true, if_false, ↓reduceIte]
        · simp (config := { decide := true }) only [f_X8_deepest, hin, b1, g1, m1, deepest39_eq (L := L1) hN g3 hl (show x0 < N by omega) x2 x3, obs, bnd_eq, is_0, is_1, is_2, is_3, is_4, is_5, is_6, is_9, tell_eq, refuse_eq, refuse8_eq, b2i_1, b2i_0, if_true, if_false, ↓reduceIte]
      · refine ⟨nI x0, up2 I1 0 6 0, L1, rm1, ?_, a2.1, I3, L1, ?_, fin⟩
        · simp (config := { decide := true }) only [f_X7_deepest, hu, nI_0, a1, a2.kA, a2.kB, d4, fd, obs, bnd_eq, is_0, is_1, is_2, is_3, is_4, is_5, is_6, is_9, tell_eq, refuse_eq, refuse8_eq, b2i_1, b2i_0, if_true, if_false, ↓reduceIte]
        · simp (config := { decide := true }) only [f_X8_deepest, hin, b1, g1, m1, deepest39_eq (L := L1) hN g3 hl (show x0 < N by omega) x2 x3, obs, bnd_eq, is_0, is_1, is_2, is_3, is_4, is_5, is_6, is_9, tell_eq, refuse_eq, refuse8_eq, b2i_1, b2i_0, if_true, if_false, ↓reduceIte]
    · rw [hz] at hu
      obtain ⟨I2, b1, b2, b3, b4⟩ := wS (L := L) hO (RDY_s (s := 5) hR) he hz
      refine ⟨-1, up2 I 0 6 5, L, rm, ?_, RS_r, is8 I2 5, L, ?_, IV_q h (b3.trans Q8_is) (RDY_is b2) is8_0⟩
      · simp (config := { decide := true }) only [f_X7_deepest, c1, c2, hu, show nI 5 = 5 from rfl, obs, bnd_eq, is_0, is_1, is_2, is_3, is_4, is_5, is_6, is_9, tell_eq, refuse_eq, refuse8_eq, b2i_1, b2i_0, if_true, if_false, ↓reduceIte]
      · simp (config := { decide := true }) only [f_X8_deepest, hin, b1, show nI 5 = 5 from rfl, obs, bnd_eq, is_0, is_1, is_2, is_3, is_4, is_5, is_6, is_9, tell_eq, refuse_eq, refuse8_eq, b2i_1, b2i_0, if_true, if_false, ↓reduceIte]
    · rw [hz] at hu
      obtain ⟨I2, b1, b2, b3, b4⟩ := wS (L := L) hO (RDY_s (s := 3) hR) he hz
      refine ⟨-1, up2 I 0 6 3, L, rm, ?_, RS_r, is8 I2 3, L, ?_, IV_q h (b3.trans Q8_is) (RDY_is b2) is8_0⟩
      · simp (config := { decide := true }) only [f_X7_deepest, c1, c2, hu, show nI 3 = 3 from rfl, obs, bnd_eq, is_0, is_1, is_2, is_3, is_4, is_5, is_6, is_9, tell_eq, refuse_eq, refuse8_eq, b2i_1, b2i_0, if_true, if_false, ↓reduceIte]
      · simp (config := { decide := true }) only [f_X8_deepest, hin, b1, show nI 3 = 3 from rfl, obs, bnd_eq, is_0, is_1, is_2, is_3, is_4, is_5, is_6, is_9, tell_eq, refuse_eq, refuse8_eq, b2i_1, b2i_0, if_true, if_false, ↓reduceIte]
  rcases dsh01 a with ha | ha | ⟨hin, ha⟩
  · exact good (Or.inl ha) (by rw [ha]; exact in01_0)
  · exact good (Or.inr ha) (by rw [ha]; exact in01_1)
  · refine ⟨-1, up2 I 0 6 1, L, rm, ?_, RS_r, is8 (up2 I 0 6 1) 1, L, ?_, IV_q h (Q8_is (a := 1)) (RDY_is (RDY_s hR)) is8_0⟩
    · rcases ha with ha | ⟨ha, hb⟩
      · simp (config := { decide := true }) only [f_X7_deepest, ha, obs, bnd_eq, is_0, is_1, is_2, is_3, is_4, is_5, is_6, is_9, tell_eq, refuse_eq, refuse8_eq, b2i_1, b2i_0, if_true, if_false, ↓reduceIte]
      · simp (config := { decide := true }) only [f_X7_deepest, ha, hb, obs, bnd_eq, is_0, is_1, is_2, is_3, is_4, is_5, is_6, is_9, tell_eq, refuse_eq, refuse8_eq, b2i_1, b2i_0, if_true, if_false, ↓reduceIte]
    · simp (config := { decide := true }) only [f_X8_deepest, hin, wS_1, obs, bnd_eq, is_0, is_1, is_2, is_3, is_4, is_5, is_6, is_9, tell_eq, refuse_eq, refuse8_eq, b2i_1, b2i_0, if_true, if_false, ↓reduceIte]
theorem PR_24h : PR_24 Inv := by
  intro I L rm a ⟨n, m, mv, st, h⟩
  obtain ⟨hO, hC, hR, hP, hT, hU, hF, hS⟩ := id h
  have hn := hO.1
  have hG := Gp_Sub hn hO.2.2.1
  obtain ⟨N, e, he⟩ := EL_ex hn hG
  have hu := hurdle_eq hO hC he
  have good : (a = 0 ∨ a = 1) → f_X8_isIn a.toInt64 0 1 = some true → ∃ (r : Int32) (I1 : MI) (L1 : ML) (rm1 : Nat), f_X7_mean rm a I L = some ((r, I1, L1), rm1) ∧ RS rm rm1 ∧ ∃ (I2 : MI) (L2 : ML), f_X8_mean a I1 L1 = some (r, I2, L2) ∧ Inv I2 L2 rm1 := fun ha hin => by
    have c1 : ¬ a < 0 := by rcases ha with rfl | rfl <;> decide
    have c2 : a ≤ 1 := by rcases ha with rfl | rfl <;> decide
    rcases hz_3 n N with hz | hz | hz
    · obtain ⟨hN, hn0⟩ := hz_N hz
      have hNp := EL_pos hG he
      rw [hz] at hu
      obtain ⟨I1, L1, rm1, a1, a2, dp, kk, nx, D, d1, d2, d3, d4, d5, d6, d7, d8, d9⟩ := measured_eq hO hC he hN
      have hl : ∀ x, x < N → dp x < N := fun x hx => DK_lt hn hO.2.1 hO.2.2.1 he d1 hx
      have hsm : sm dp N ≤ 5040 * 5040 := Nat.le_trans (sm_le hl N (Nat.le_refl _)) (Nat.mul_le_mul hN hN)
      obtain ⟨I2, b1, b2, b3, b4⟩ := wS (L := L1) hO (RDY_a (s := 0) a2 hR) he hz
      obtain ⟨I3, g1, g2, g3, g4, g5, g6⟩ := ref_d (L := L1) hO (RDY_is (a := 0) b2) he hN d1
      rw [nI_0] at b1
      have e1 := a2.2.2.2.2.1.2.1
      have sd := sumOfDepths_eq (L := L1) a2.2.2.2.2.1.2.2.2.1 a2.2.2.1 e1 d7
      have gp : 0 < Nat.gcd (sm dp N) N := Nat.gcd_pos_of_pos_right _ hNp
      have gl : Nat.gcd (sm dp N) N ≤ N := Nat.le_of_dvd hNp (Nat.gcd_dvd_right _ _)
      have gc := gcdC (a := sm dp N) (b := N) (by omega) (by omega)
      have gr := gcdR (a := N) (b := sm dp N) (by omega) (by omega)
      rw [Nat.gcd_comm] at gr
      have c3 : 1 ≤ nI (Nat.gcd (sm dp N) N) := by rw [show (1 : Int32) = nI 1 from rfl, q_le (by decide) (by omega)]; omega
      have k1 : ∀ {β : Type} {x : Option β}, chk (decide (nI (Nat.gcd (sm dp N) N) ≠ 0)) x = x := fun {β x} => chk_pos (decide_eq_true (nI_ne0 gp (by omega)))
      have fin := IV_a h a2 ((b3.trans Q8_is).trans g4) g2.1.rdy (by rw [g5]; exact is8_0)
      rcases ha with rfl | rfl
      · refine ⟨nI (sm dp N) / nI (Nat.gcd (sm dp N) N), up2 I1 0 6 0, L1, rm1, ?_, a2.1, I3, L1, ?_, fin⟩
        · simp (config := { decide := true }) only [f_X7_mean, hu, nI_0, a1, a2.kA, a2.kB, sd, e1, gc, c3, k1, obs, bnd_eq, is_0, is_1, is_2, is_3, is_4, is_5, is_6, is_9, tell_eq, refuse_eq, refuse8_eq, b2i_1, b2i_0, if_true, if_false, ↓reduceIte]
        · simp (config := { decide := true }) only [f_X8_mean, hin, b1, g1, mean36_eq (L := L1) hN g2.2.1 g3, g2.2.1, gr, k1, obs, bnd_eq, is_0, is_1, is_2, is_3, is_4, is_5, is_6, is_9, tell_eq, refuse_eq, refuse8_eq, b2i_1, b2i_0, if_true, if_false, ↓reduceIte]
      · refine ⟨nI N / nI (Nat.gcd (sm dp N) N), up2 I1 0 6 0, L1, rm1, ?_, a2.1, I3, L1, ?_, fin⟩
        · simp (config := { decide := true }) only [f_X7_mean, hu, nI_0, a1, a2.kA, a2.kB, sd, e1, gc, c3, k1, obs, bnd_eq, is_0, is_1, is_2, is_3, is_4, is_5, is_6, is_9, tell_eq, refuse_eq, refuse8_eq, b2i_1, b2i_0, if_true, if_false, ↓reduceIte]
        · simp (config := { decide := true }) only [f_X8_mean, hin, b1, g1, mean36_eq (L := L1) hN g2.2.1 g3, g2.2.1, gr, k1, obs, bnd_eq, is_0, is_1, is_2, is_3, is_4, is_5, is_6, is_9, tell_eq, refuse_eq, refuse8_eq, b2i_1, b2i_0, if_true, if_false, ↓reduceIte]
    · rw [hz] at hu
      obtain ⟨I2, b1, b2, b3, b4⟩ := wS (L := L) hO (RDY_s (s := 5) hR) he hz
      refine ⟨-1, up2 I 0 6 5, L, rm, ?_, RS_r, is8 I2 5, L, ?_, IV_q h (b3.trans Q8_is) (RDY_is b2) is8_0⟩
      · simp (config := { decide := true }) only [f_X7_mean, c1, c2, hu, show nI 5 = 5 from rfl, obs, bnd_eq, is_0, is_1, is_2, is_3, is_4, is_5, is_6, is_9, tell_eq, refuse_eq, refuse8_eq, b2i_1, b2i_0, if_true, if_false, ↓reduceIte]
      · simp (config := { decide := true }) only [f_X8_mean, hin, b1, show nI 5 = 5 from rfl, obs, bnd_eq, is_0, is_1, is_2, is_3, is_4, is_5, is_6, is_9, tell_eq, refuse_eq, refuse8_eq, b2i_1, b2i_0, if_true, if_false, ↓reduceIte]
    · rw [hz] at hu
      obtain ⟨I2, b1, b2, b3, b4⟩ := wS (L := L) hO (RDY_s (s := 3) hR) he hz
      refine ⟨-1, up2 I 0 6 3, L, rm, ?_, RS_r, is8 I2 3, L, ?_, IV_q h (b3.trans Q8_is) (RDY_is b2) is8_0⟩
      · simp (config := { decide := true }) only [f_X7_mean, c1, c2, hu, show nI 3 = 3 from rfl, obs, bnd_eq, is_0, is_1, is_2, is_3, is_4, is_5, is_6, is_9, tell_eq, refuse_eq, refuse8_eq, b2i_1, b2i_0, if_true, if_false, ↓reduceIte]
      · simp (config := { decide := true }) only [f_X8_mean, hin, b1, show nI 3 = 3 from rfl, obs, bnd_eq, is_0, is_1, is_2, is_3, is_4, is_5, is_6, is_9, tell_eq, refuse_eq, refuse8_eq, b2i_1, b2i_0, if_true, if_false, ↓reduceIte]
  rcases dsh01 a with ha | ha | ⟨hin, ha⟩
  · exact good (Or.inl ha) (by rw [ha]; exact in01_0)
  · exact good (Or.inr ha) (by rw [ha]; exact in01_1)
  · refine ⟨-1, up2 I 0 6 1, L, rm, ?_, RS_r, is8 (up2 I 0 6 1) 1, L, ?_, IV_q h (Q8_is (a := 1)) (RDY_is (RDY_s hR)) is8_0⟩
    · rcases ha with ha | ⟨ha, hb⟩
      · simp (config := { decide := true }) only [f_X7_mean, ha, obs, bnd_eq, is_0, is_1, is_2, is_3, is_4, is_5, is_6, is_9, tell_eq, refuse_eq, refuse8_eq, b2i_1, b2i_0, if_true, if_false, ↓reduceIte]
      · simp (config := { decide := true }) only [f_X7_mean, ha, hb, obs, bnd_eq, is_0, is_1, is_2, is_3, is_4, is_5, is_6, is_9, tell_eq, refuse_eq, refuse8_eq, b2i_1, b2i_0, if_true, if_false, ↓reduceIte]
    · simp (config := { decide := true }) only [f_X8_mean, hin, wS_1, obs, bnd_eq, is_0, is_1, is_2, is_3, is_4, is_5, is_6, is_9, tell_eq, refuse_eq, refuse8_eq, b2i_1, b2i_0, if_true, if_false, ↓reduceIte]
theorem nearer63_eq {nx : Nat → Nat → Nat} {x : Nat} (hO : OKm n m mv st) (he : EL n (Gp n m mv) N e) (hN : N ≤ 5040) (hX : NX m mv N e nx) (hA : AD I n m mv st N e) (h61 : ∀ x, x < N → I 61 x = nI (dp x)) (hl : ∀ x, x < N → dp x < N) (hx : x < N) (hr : Row I 47 0 (e x)) : ∃ I', f_X8_nearer_63 (nI (dp x)) FU 0 0 I L = some (nI (oS (fun s => decide (dp (nx s x) < dp x)) (2 * m)), I', L) ∧ Fr [48, 49, 51, 57, 58, 59] I I' := by
  have hn := hO.1
  have hm := hO.2.1
  have hG := Gp_Sub hn hO.2.2.1
  have hxl := hl x hx
  have := loop0 (fun fu (z : Int32 × Int32 × MI × ML) => f_X8_nearer_63 (nI (dp x)) fu z.1 z.2.1 z.2.2.1 z.2.2.2) (fun i z => i ≤ 2 * m ∧ z.2.1 = nI i ∧ z.1 = nI (oS (fun s => decide (dp (nx s x) < dp x)) i) ∧ z.2.2.2 = L ∧ Fr [48, 49, 51, 57, 58, 59] I z.2.2.1) (fun o => ∃ I', o = some (nI (oS (fun s => decide (dp (nx s x) < dp x)) (2 * m)), I', L) ∧ Fr [48, 49, 51, 57, 58, 59] I I') (2 * m) (by omega) (nI 0, nI 0, I, L) ⟨Nat.zero_le _, rfl, rfl, rfl, Fr.refl⟩
    (fun fu i z hi hP => by
      obtain ⟨z1, z2, K, M⟩ := z
      obtain ⟨_, p1, p2, p3, p4⟩ := hP
      dsimp only at p1 p2 p3 p4 ⊢
      subst p1 p2 p3
      have A := hA.fr p4 (by decide)
      rw [f_X8_nearer_63, ob (moves_eq A.1.2.1), show (2 : Int32) * nI m = nI (2 * m) by rw [show (2 : Int32) = nI 2 from rfl, pk_mul], ifc (q_le (by omega) (by omega))]
      by_cases c1 : 2 * m ≤ i
      · left
        rw [if_pos c1, show i = 2 * m by omega]
        exact ⟨K, rfl, p4⟩
      · right
        obtain ⟨I1, j1, j2, j3⟩ := laysStep_eq (L := M) (a := 49) hO A.1.2.1 (show i < 2 * m by omega) (by decide) (by decide)
        have r47 : Row I1 47 0 (e x) := Row_of (j3 47 (by decide)) (Row_of (p4 47 (by decide)) hr)
        have eP := EL_P hG he hx
        have mk := makes_eq (L := M) (c := 48) r47 j2 (IsP_mono eP hn) (by decide) (by decide)
        obtain ⟨y1, y2⟩ := hX i x (by omega) hx
        have f2 : Fr [48, 49, 51, 57, 58, 59] I (wp I1 48 0 (cp (e x) (stp mv i))) := (p4.trans (j3.mono (by decide))).trans (Fr_wp (by decide))
        have A2 := hA.fr f2 (by decide)
        rw [← y2] at mk f2 A2
        obtain ⟨r, I2, k1, k2, k3⟩ := placeOf8_eq (L := M) (a := 48) hn hG (by decide) (EL_P hG he y1) A2.1.1 A2.1.2.2.1 Row_wp he
        have hr1 : r = nI (nx i x) := by
          rcases k3 with ⟨y, w1, w2, w3⟩ | ⟨g, _⟩
          · rw [w3, EL_inj he w1 y1 w2]
          · exact absurd (he.1 _ y1) g
        subst hr1
        have hyl := hl _ y1
        have f3 : Fr [48, 49, 51, 57, 58, 59] I I2 := f2.trans (k2.mono (by decide))
        rw [if_neg c1, ob j1, ob mk, ob k1]
        dsimp only
        rw [q_chk (by omega) (by decide), q_ix (by omega)]
        have e61 : I2 61 (nx i x) = nI (dp (nx i x)) := by rw [f3 61 (by decide)]; exact h61 _ y1
        by_cases c2 : dp x ≤ dp (nx i x)
        · refine ⟨by omega, (nI (oS (fun s => decide (dp (nx s x) < dp x)) (i + 1)), nI (i + 1), I2, M), ?_, by omega, rfl, rfl, rfl, f3⟩
          rw [if_pos (show nI (dp x) ≤ I2 61 (nx i x) by rw [e61, q_le (by omega) (by omega)]; exact c2), bnd_eq, bnd_eq, nI_1, show (0 : Int32) = nI 0 from rfl, q_or, Nat.or_zero, oS_f (decide_eq_false (by omega))]
        · refine ⟨by omega, (nI (oS (fun s => decide (dp (nx s x) < dp x)) (i + 1)), nI (i + 1), I2, M), ?_, by omega, rfl, rfl, rfl, f3⟩
          rw [if_neg (show ¬ nI (dp x) ≤ I2 61 (nx i x) by rw [e61, q_le (by omega) (by omega)]; exact c2), bnd_eq, bnd_eq, nI_1, q_shl1 (by omega), q_or, oS_t (decide_eq_true (by omega))])
  rw [nI_0] at this
  exact this
theorem PR_25h : PR_25 Inv := by
  intro I L rm ⟨n, m, mv, st, h⟩
  obtain ⟨hO, hC, hR, hP, hT, hU, hF, hS⟩ := id h
  have hn := hO.1
  have hG := Gp_Sub hn hO.2.2.1
  obtain ⟨N, e, he⟩ := EL_ex hn hG
  have hu := hurdle_eq hO hC he
  rcases hz_3 n N with hz | hz | hz
  · obtain ⟨hN, hn0⟩ := hz_N hz
    rw [hz] at hu
    obtain ⟨I1, L1, rm1, a1, a2, dp, kk, nx, D, d1, d2, d3, d4, d5, d6, d7, d8, d9⟩ := measured_eq hO hC he hN
    have hl : ∀ x, x < N → dp x < N := fun x hx => DK_lt hn hO.2.1 hO.2.2.1 he d1 hx
    have hst := a2.2.2.2.1.2.2.2.1
    obtain ⟨r, r1, r2⟩ := find_eq hn hG he a2.2.2.2.2.1 hO.2.2.2
    obtain ⟨c, hc⟩ := em_B (Gp n m mv st)
    have ref : ∀ s : Int32, ∃ J I3, f_X8_whySmall 0 (up2 I1 0 6 s) L1 = some (0, J, L1) ∧ f_X8_laysStand 47 (is8 J 0) L1 = some (wp (is8 J 0) 47 0 st, L1) ∧ f_X8_isMember 0 47 (wp (is8 J 0) 47 0 st) L1 = some (c, I3, L1) ∧ BD I3 n m mv st ∧ Row I3 47 0 st ∧ Q8 (up2 I1 0 6 s) I3 ∧ I3 43 0 = 0 := fun s => by
      obtain ⟨J, b1, b2, b3, b4⟩ := wS0 (L := L1) hO (RDY_a (s := s) a2 hR) he hz
      have B2 := BD_is (a := 0) b2
      have f1 : Fr [47] (is8 J 0) (wp (is8 J 0) 47 0 st) := Fr_wp (by decide)
      have B3 := B2.fr f1 (by decide)
      obtain ⟨I3, g1, g2⟩ := isMemberG (L := L1) (s := 0) (by decide) B3.2.2.1 (a := 47) (by decide) Row_wp (IsP_mono hO.2.2.2 hn) hc
      rw [nI_0] at g1
      exact ⟨J, I3, b1, laysStand_eq B2.2.1 (by decide), g1, B3.fr g2 (by decide), Row_of (g2 47 (by decide)) Row_wp, ((b3.trans Q8_is).trans (Q8_fr f1 (by decide))).trans (Q8_fr g2 (by decide)), by rw [g2 43 (by decide), f1 43 (by decide)]; exact is8_0⟩
    rcases r2 with ⟨x, x1, x2, x3⟩ | ⟨g, x3⟩
    · subst x3
      have hct : c = true := hc.mpr (x2 ▸ he.1 x x1)
      subst hct
      obtain ⟨J, I3, w1, w2, w3, w4, w5, w6, w7⟩ := ref 0
      obtain ⟨I4, g1, g2, g3, g4, g5, g6⟩ := ref_d (L := L1) hO w4.rdy he hN d1
      have r47 : Row I4 47 0 (e x) := by rw [x2]; exact Row_of (g6 47 (by decide)) w5
      obtain ⟨r, I5, k1, k2, k3⟩ := placeOf8_eq (L := L1) (a := 47) hn hG (by decide) (EL_P hG he x1) g2.1.1 g2.1.2.2.1 r47 he
      have hr1 : r = nI x := by
        rcases k3 with ⟨y, w1, w2, w3⟩ | ⟨g, _⟩
        · rw [w3, EL_inj he w1 x1 w2]
        · exact absurd (he.1 _ x1) g
      subst hr1
      have A5 := g2.fr k2 (by decide)
      have e61 : ∀ x, x < N → I5 61 x = nI (dp x) := fun x hx => by rw [k2 61 (by decide)]; exact g3 x hx
      obtain ⟨I6, n1, n2⟩ := nearer63_eq (L := L1) hO he hN d2 A5 e61 hl x1 (Row_of (k2 47 (by decide)) r47)
      have A6 := A5.fr n2 (by decide)
      refine ⟨nI (oS (fun s => decide (dp (nx s x) < dp x)) (2 * m)), up2 I1 0 6 0, L1, rm1, ?_, a2.1, I6, L1, ?_, IV_a h a2 (((w6.trans g4).trans (Q8_fr k2 (by decide))).trans (Q8_fr n2 (by decide))) A6.1.rdy (by rw [n2 43 (by decide), k2 43 (by decide), g5]; exact w7)⟩
      · simp (config := { decide := true }) only [f_X7_nearer, hu, nI_0, a1, a2.kA, a2.kB, hst, r1, nI_pos' (show x < 2 ^ 31 by omega), stepsCloser_eq (L := L1) hn hO.2.2.1 hO.2.1 he d1 d2 a2.2.2.2.2.1.2.2.2.1 a2.2.2.1 d3 d7 d9 x1, obs, bnd_eq, is_0, is_1, is_2, is_3, is_4, is_5, is_6, is_9, tell_eq, refuse_eq, refuse8_eq, b2i_1, b2i_0, if_true, if_false, ↓reduceIte]
      · simp (config := { decide := true }) only [f_X8_nearer, w1, w2, w3, g1, k1, q_chk (show x < 5040 by omega) (show 5040 < 2 ^ 31 by decide), q_ix (show x < 2 ^ 31 by omega), e61 x x1, n1, obs, bnd_eq, is_0, is_1, is_2, is_3, is_4, is_5, is_6, is_9, tell_eq, refuse_eq, refuse8_eq, b2i_1, b2i_0, if_true, if_false, ↓reduceIte]
    · subst x3
      have hcf : c = false := by
        cases c
        · rfl
        · exact absurd (hc.mp rfl) g
      subst hcf
      obtain ⟨J, I3, w1, w2, w3, w4, w5, w6, w7⟩ := ref 6
      refine ⟨-1, up2 I1 0 6 6, L1, rm1, ?_, a2.1, up2 I3 43 0 6, L1, ?_, IV_a h a2 (w6.trans Q8_r) (RDY_r w4.rdy) up2_s⟩
      · simp (config := { decide := true }) only [f_X7_nearer, hu, nI_0, a1, a2.kA, a2.kB, hst, r1, obs, bnd_eq, is_0, is_1, is_2, is_3, is_4, is_5, is_6, is_9, tell_eq, refuse_eq, refuse8_eq, b2i_1, b2i_0, if_true, if_false, ↓reduceIte]
      · simp (config := { decide := true }) only [f_X8_nearer, w1, w2, w3, obs, bnd_eq, is_0, is_1, is_2, is_3, is_4, is_5, is_6, is_9, tell_eq, refuse_eq, refuse8_eq, b2i_1, b2i_0, if_true, if_false, ↓reduceIte]
  · rw [hz] at hu
    obtain ⟨I2, b1, b2, b3, b4⟩ := wS (L := L) hO (RDY_s (s := 5) hR) he hz
    refine ⟨-1, up2 I 0 6 5, L, rm, ?_, RS_r, is8 I2 5, L, ?_, IV_q h (b3.trans Q8_is) (RDY_is b2) is8_0⟩
    · simp (config := { decide := true }) only [f_X7_nearer, hu, show nI 5 = 5 from rfl, obs, bnd_eq, is_0, is_1, is_2, is_3, is_4, is_5, is_6, is_9, tell_eq, refuse_eq, refuse8_eq, b2i_1, b2i_0, if_true, if_false, ↓reduceIte]
    · simp (config := { decide := true }) only [f_X8_nearer, b1, show nI 5 = 5 from rfl, obs, bnd_eq, is_0, is_1, is_2, is_3, is_4, is_5, is_6, is_9, tell_eq, refuse_eq, refuse8_eq, b2i_1, b2i_0, if_true, if_false, ↓reduceIte]
  · rw [hz] at hu
    obtain ⟨I2, b1, b2, b3, b4⟩ := wS (L := L) hO (RDY_s (s := 3) hR) he hz
    refine ⟨-1, up2 I 0 6 3, L, rm, ?_, RS_r, is8 I2 3, L, ?_, IV_q h (b3.trans Q8_is) (RDY_is b2) is8_0⟩
    · simp (config := { decide := true }) only [f_X7_nearer, hu, show nI 3 = 3 from rfl, obs, bnd_eq, is_0, is_1, is_2, is_3, is_4, is_5, is_6, is_9, tell_eq, refuse_eq, refuse8_eq, b2i_1, b2i_0, if_true, if_false, ↓reduceIte]
    · simp (config := { decide := true }) only [f_X8_nearer, b1, show nI 3 = 3 from rfl, obs, bnd_eq, is_0, is_1, is_2, is_3, is_4, is_5, is_6, is_9, tell_eq, refuse_eq, refuse8_eq, b2i_1, b2i_0, if_true, if_false, ↓reduceIte]
end O6
