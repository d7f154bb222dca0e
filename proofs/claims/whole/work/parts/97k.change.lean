/-! Calls that change the moves -/
section CH
variable {n m rm N : Nat} {mv : Nat → Nat → Nat} {st : Nat → Nat} {I : MI} {L : ML} {e : Nat → Nat → Nat}
theorem MS_6 (hm : m ≤ 6) : MS mv (2 ^ m - 1) 6 = MS mv (2 ^ m - 1) m := by
  funext q
  apply propext
  constructor
  · intro ⟨t, t1, t2, t3⟩
    rw [Nat.testBit_two_pow_sub_one] at t2
    exact ⟨t, of_decide_eq_true t2, by rw [Nat.testBit_two_pow_sub_one]; exact t2, t3⟩
  · intro ⟨t, t1, t2, t3⟩
    exact ⟨t, by omega, t2, t3⟩
theorem nd_gen {nd : Nat} (hn : n ≤ 10) (hmv : ∀ i, i < m → IsP n (mv i)) (hm : m ≤ 6) (h : ∀ t, nd.testBit t = true ↔ (t < 6 ∧ (2 ^ m - 1).testBit t = true ∧ ¬ Gen n (MS mv (2 ^ m - 1) t) (mv t))) : Gen n (MS mv nd m) = Gp n m mv := by
  have hb : ∀ t, (2 ^ m - 1).testBit t = true ↔ t < m := fun t => by rw [Nat.testBit_two_pow_sub_one]; exact decide_eq_true_iff
  have key : ∀ t, t < m → Gen n (MS mv nd m) (mv t) := by
    intro t
    induction t using Nat.strongRecOn with
    | ind t ih =>
      intro ht
      by_cases c : Gen n (MS mv (2 ^ m - 1) t) (mv t)
      · exact Gen_mono (fun a ⟨s, s1, s2, s3⟩ => by subst s3; exact ih s s1 (by omega)) _ c
      · exact Gen_in ⟨t, ht, (h t).mpr ⟨by omega, (hb t).mpr ht, c⟩, rfl⟩
  funext q
  apply propext
  exact ⟨fun g => Gen_mono (fun a ⟨s, s1, s2, s3⟩ => by subst s3; exact Gp_mv s1) q g, fun g => Gen_mono (fun a ⟨s, s1, s2, s3⟩ => by subst s3; exact key s s1) q g⟩
theorem findOut_eq (hn : n ≤ 10) (hm : m ≤ 6) (hmv : ∀ i, i < m → IsP n (mv i)) (h0 : I 6 0 = nI n) (h1 : I 6 1 = nI m) (h7 : ∀ i, i < m → L 7 i = tn n (mv i)) (hr : rm ≤ 5040) (hr2 : rm ≠ 0 → I 69 0 = nI rm) (h5 : L 0 5 = tn n st) : ∃ I' L', f_X2_findOut I L = some (I', L') ∧ CI I' L' rm n m mv st ∧ (∀ p, p < 6 ∨ (36 ≤ p) → I' p = I p) ∧ (∀ p, p ≤ 7 ∨ 15 ≤ p → L' p = L p) := by
  have hp2 : 2 ^ m ≤ 2 ^ 6 := Nat.pow_le_pow_right (by decide) hm
  have hp1 := Nat.two_pow_pos m
  have ev : f_X2_everyMove I L = some (nI (2 ^ m - 1)) := by
    unfold f_X2_everyMove
    rw [h1, q_shl1 (by omega), show (1 : Int32) = nI 1 from rfl, pk_sub hp1]
  obtain ⟨nd, I1, L1, g1, g2, g3, g4, g5⟩ := gather_eq (I := I) (L := L) (cb := 8) (a1 := 7) (ch := 2 ^ m - 1) (mv := mv) hn (by omega) (by decide) (fun t _ hb => by
    rw [Nat.testBit_two_pow_sub_one] at hb
    have := of_decide_eq_true hb
    exact ⟨h7 t this, hmv t this⟩)
  rw [MS_6 hm] at g4
  unfold f_X2_findOut
  rw [ob ev, h0, ob g1, bnd_eq, bnd_eq]
  dsimp only
  unfold f_X1_forget
  rw [bnd_eq, obs, bnd_eq, obs]
  dsimp only
  generalize hJ : up2 (up2 (up2 (up2 I1 6 4 (nI nd)) 6 11 0) 30 4 0) 33 4 0 = J
  have key : ∃ I', f_X2_findOut_44 L1 FU 0 J = some (I', L1) ∧ (∀ s, s < 64 → I' 29 s = 0) ∧ (∀ p, p ≠ 29 → I' p = J p) := by
    have := loop0 (fun fu (z : Int32 × MI) => f_X2_findOut_44 L1 fu z.1 z.2) (fun j z => j ≤ 64 ∧ z.1 = nI j ∧ (∀ s, s < j → z.2 29 s = 0) ∧ (∀ p, p ≠ 29 → z.2 p = J p)) (fun o => ∃ I', o = some (I', L1) ∧ (∀ s, s < 64 → I' 29 s = 0) ∧ (∀ p, p ≠ 29 → I' p = J p)) 64 (by decide) (nI 0, J) ⟨by decide, rfl, fun s hs => by omega, fun _ _ => rfl⟩
      (fun fu j z hj hP => by
        obtain ⟨z1, K⟩ := z
        obtain ⟨_, p1, p2, p3⟩ := hP
        dsimp only at p1 p2 p3 ⊢
        subst p1
        rw [f_X2_findOut_44, show (64 : Int32) = nI 64 from rfl, ifc (q_le (by decide) (by omega))]
        by_cases c1 : 64 ≤ j
        · left
          rw [if_pos c1]
          exact ⟨K, rfl, fun s hs => p2 s (by omega), p3⟩
        · right
          refine ⟨by omega, (nI (j + 1), up2 K 29 j 0), ?_, by omega, rfl, fun s hs => ?_, fun p hp => ?_⟩
          · rw [if_neg c1, q_chk (by omega) (by decide), bnd_eq, bnd_eq, q_ix (by omega), nI_1]
          · dsimp only
            by_cases e1 : s = j
            · rw [e1, up2_s]
            · rw [up2_n e1]; exact p2 s (by omega)
          · dsimp only; rw [up2_ne hp]; exact p3 p hp)
    rw [nI_0] at this
    exact this
  obtain ⟨I', k1, k2, k3⟩ := key
  have hJp : ∀ p, p ≠ 6 → p ≠ 30 → p ≠ 33 → J p = I1 p := fun p h1 h2 h3 => by rw [← hJ, up2_ne h3, up2_ne h2, up2_ne h1, up2_ne h1]
  have hJ6 : ∀ j, j ≠ 4 → j ≠ 11 → J 6 j = I1 6 j := fun j h1 h2 => by rw [← hJ, up2_ne (by decide), up2_ne (by decide), up2_n h2, up2_n h1]
  have hI1 : ∀ p, p ≠ 8 → p ≠ 9 → p ≠ 13 → p ≠ 14 → I1 p = I p := fun p h1 h2 h3 h4 => g5.1 p h1 h2 h3 h4
  have fI : ∀ p, p < 6 ∨ 36 ≤ p → I' p = I p := fun p hp => by rw [k3 p (by omega), hJp p (by omega) (by omega) (by omega), hI1 p (by omega) (by omega) (by omega) (by omega)]
  have fL : ∀ p, p ≤ 7 ∨ 15 ≤ p → L1 p = L p := fun p hp => g5.2 p (by omega) (by omega) (by omega) (by omega)
  have e4 : I' 6 4 = nI nd := by rw [k3 6 (by decide), ← hJ, up2_ne (by decide), up2_ne (by decide), up2_n (by decide), up2_s]
  have e11 : I' 6 11 = 0 := by rw [k3 6 (by decide), ← hJ, up2_ne (by decide), up2_ne (by decide), up2_s]
  refine ⟨I', L1, k1, ⟨?_, ?_, fun i hi => by rw [fL 7 (by decide)]; exact h7 i hi, by rw [fL 0 (by decide)]; exact h5, g4.fr ?_ ?_ ?_ ?_ rfl rfl rfl rfl, ⟨nd, e4, g2, fun t ht => ?_, nd_gen hn hmv hm g3⟩, fun s hs => Or.inl (k2 s (by omega)), Or.inl ?_, Or.inl ?_, ⟨hr, fun g => by rw [fI 69 (by decide)]; exact hr2 g, Or.inl e11⟩⟩, fI, fL⟩
  · rw [k3 6 (by decide), hJ6 0 (by decide) (by decide), hI1 6 (by decide) (by decide) (by decide) (by decide)]; exact h0
  · rw [k3 6 (by decide), hJ6 1 (by decide) (by decide), hI1 6 (by decide) (by decide) (by decide) (by decide)]; exact h1
  · rw [k3 8 (by decide), hJp 8 (by decide) (by decide) (by decide)]
  · rw [k3 (8 + 1) (by decide), hJp (8 + 1) (by decide) (by decide) (by decide)]
  · rw [k3 (8 + 5) (by decide), hJp (8 + 5) (by decide) (by decide) (by decide)]
  · rw [k3 (8 + 6) (by decide), hJp (8 + 6) (by decide) (by decide) (by decide)]
  · have := ((g3 t).mp ht).2.1
    rw [Nat.testBit_two_pow_sub_one] at this
    exact of_decide_eq_true this
  · rw [k3 30 (by decide), ← hJ, up2_ne (by decide), up2_s]
  · rw [k3 33 (by decide), ← hJ, up2_s]
theorem PR_55h : PR_55 Inv := by
  intro I L rm x ⟨n, m, mv, st, h⟩
  obtain ⟨hO, hC, hR, hP, hT, hU, hF, hS⟩ := id h
  have hn := hO.1
  have hm := hO.2.1
  rcases rd hn x with ⟨p, hp, h0, e1, e2⟩ | ⟨e1, e2⟩
  · by_cases hm6 : m = 6
    · subst hm6
      have j3 : Fr [46] (up2 I 0 6 3) (wp (up2 I 0 6 3) 46 0 p) := Fr_wp (by decide)
      have R1 := (RDY_s (s := 3) hR).fr j3 (by decide)
      refine ⟨-1, up2 I 0 6 3, L, ?_, is8 (wp (up2 I 0 6 3) 46 0 p) 3, L, ?_, IV_q h ((Q8_fr j3 (by decide)).trans Q8_is) (RDY_is R1) is8_0⟩
      · simp (config := { decide := true }) only [f_X7_add, read_eq hC.1 e1, cmp_tn hn hp, hC.2.1, show ¬ nI 6 < 6 by decide, obs, bnd_eq, is_0, is_1, is_2, is_3, is_4, is_5, is_6, is_9, tell_eq, refuse_eq, refuse8_eq, b2i_1, b2i_0, if_true, if_false, ↓reduceIte]
      · simp (config := { decide := true }) only [f_X8_add, e2 46 _ L (by decide) (RDY_s (s := 3) hR).1, moves_eq R1.2.1, show nI 6 = 6 from rfl, obs, bnd_eq, is_0, is_1, is_2, is_3, is_4, is_5, is_6, is_9, tell_eq, refuse_eq, refuse8_eq, b2i_1, b2i_0, if_true, if_false, ↓reduceIte]
    · obtain ⟨kp, pm, pmv, pst, o1, o2, o3⟩ := OT_s hP
      obtain ⟨k, c, hk⟩ := kc_ex o1.1
      obtain ⟨I1, L1, a1, a2, a3, a4⟩ := keepPast_eq hO hC o1 o2 hk
      have C1 : CI I1 L1 rm n m mv st := hC.stt (fun p hp => a3 p (by omega) (by omega)) (fun p hp => a4 p (by omega) (by omega)) (by rw [a4 0 (by decide) (by decide)]; exact hC.2.2.2.1)
      have hmv' : ∀ i, i < m + 1 → IsP n ((fun i => if i = m then p else mv i) i) := fun i hi => by
        dsimp only
        by_cases e1 : i = m
        · rw [if_pos e1]; exact hp
        · rw [if_neg e1]; exact hO.2.2.1 i (by omega)
      have hO2 : OKm n (m + 1) (fun i => if i = m then p else mv i) st := ⟨hn, by omega, hmv', hO.2.2.2⟩
      obtain ⟨I2, L2, g1, g2, g3, g4⟩ := findOut_eq (I := up2 I1 6 1 (nI (m + 1))) (L := up2 L1 7 m (tn n p)) (rm := rm) (st := st) hn hO2.2.1 hmv' (by rw [up2_n (by decide)]; exact C1.1) up2_s (fun i hi => by
        try dsimp only
        by_cases e1 : i = m
        · rw [if_pos e1, e1, up2_s]
        · rw [if_neg e1, up2_n e1]; exact C1.2.2.1 i (by omega)) C1.2.2.2.2.2.2.2.2.2.1 (fun g => by rw [up2_ne (by decide)]; exact C1.2.2.2.2.2.2.2.2.2.2.1 g) (by rw [up2_ne (by decide)]; exact C1.2.2.2.1)
      generalize hmv2 : (fun i => if i = m then p else mv i) = mv' at hmv' hO2 g2
      have hG := Gp_Sub hn hmv'
      obtain ⟨N, e, he⟩ := EL_ex hn hG
      have k1 : ∀ p, p = 1 ∨ p = 2 ∨ p = 42 ∨ (43 ≤ p ∧ p < 69) → up2 I2 0 6 0 p = I p := fun p hp => by rw [up2_ne (by omega), g3 p (by omega), up2_ne (by omega), a3 p (by omega) (by omega)]
      have R1 : RDY (up2 I2 0 6 0) n m mv st := hR.of (by rw [k1 43 (by decide)]) (by rw [k1 43 (by decide)]) (k1 44 (by decide)) (k1 52 (by decide)) (k1 53 (by decide))
      have j3 : Fr [46] (up2 I2 0 6 0) (wp (up2 I2 0 6 0) 46 0 p) := Fr_wp (by decide)
      have R1' := R1.fr j3 (by decide)
      have R2 := RDY_is (a := 0) R1'
      obtain ⟨K, b1, b2, b3, b4⟩ := remembers_eq (L := L2) hO R2.2.1 o1 (o3.fr (I' := is8 (wp (up2 I2 0 6 0) 46 0 p) 0) (by unfold is8; rw [up2_n (by decide), up2_n (by decide), j3 43 (by decide), k1 43 (by decide)]) (by rw [is8_ne (by decide), j3 45 (by decide), k1 45 (by decide)])) hk
      have hN3 : Nw K m mv st := R2.2.1.fr (b3 44 (by decide) (by decide))
      have r46 : Row K 46 0 p := Row_of (b3 46 (by decide) (by decide)) (Row_is (by decide) Row_wp)
      have cpy := copies0y (I := K) (L := L2) (a := 46) (an := 10) (b := 44) (bn := 71) (y := 11 + 10 * m) r46 (by decide) (by decide) (by omega) (by decide) (by decide)
      have e11 : (11 : Int32) + 10 * nI m = nI (11 + 10 * m) := by rw [show (11 : Int32) = nI 11 from rfl, show (10 : Int32) = nI 10 from rfl, pk_mul, nI_add]
      have e440 : wp K 44 (11 + 10 * m) p 44 0 = nI m := by unfold wp; rw [wr_out (by omega)]; exact hN3.1
      generalize hK2 : up2 (up2 (wp K 44 (11 + 10 * m) p) 44 0 (nI (m + 1))) 43 20 0 = K2
      have hK2p : ∀ q, q ≠ 44 → q ≠ 43 → K2 q = K q := fun q h1 h2 => by rw [← hK2, up2_ne h2, up2_ne h1, wp_ne h1]
      have hK43 : ∀ j, j ≠ 20 → K2 43 j = K 43 j := fun j hj => by rw [← hK2, up2_n hj, up2_ne (by decide), wp_ne (by decide)]
      have e44 : ∀ j, j ≠ 0 → K2 44 j = wp K 44 (11 + 10 * m) p 44 j := fun j hj => by rw [← hK2, up2_ne (by decide), up2_n hj]
      have rs : ∀ (y : Nat) (q : Nat → Nat), y ≠ 0 → Row (wp K 44 (11 + 10 * m) p) 44 y q → Row K2 44 y q := fun y q hy hr t ht => by rw [e44 _ (by omega)]; exact hr t ht
      have hN4 : Nw K2 (m + 1) mv' st := by
        refine ⟨by rw [← hK2, up2_ne (by decide), up2_s], by omega, fun i hi => ?_, rs 1 st (by decide) (Row_off (by omega) hN3.2.2.2)⟩
        rw [← hmv2]
        dsimp only
        by_cases e1 : i = m
        · rw [if_pos e1, e1]; exact rs _ _ (by omega) Row_wp
        · rw [if_neg e1]; exact rs _ _ (by omega) (Row_off (by omega) (hN3.2.2.1 i (by omega)))
      have R4 : RDY K2 n (m + 1) mv' st := ⟨by rw [hK43 2 (by decide), b4 2 (by decide)]; exact R2.1, hN4, Or.inl (by rw [← hK2, up2_s])⟩
      obtain ⟨I5, d1, d2, d3, d4, d5⟩ := orderNow_eq (L := L2) hO2 R4 he
      have q2 : Q9 K K2 := ⟨fun q hq => hK2p q (by omega) (by omega), fun j _ _ _ h20 _ => hK43 j h20⟩
      refine ⟨nI N, up2 I2 0 6 0, L2, ?_, I5, L2, ?_, IV_mk h hO2 (CI_s g2) k1 (by rw [up2_n (by decide), g3 0 (by decide), up2_ne (by decide), a3 0 (by decide) (by decide)]) (((((Q8_fr j3 (by decide)).trans Q8_is).q9.trans (Q9_r b3 b4)).trans q2).trans (Q8_b d3 d4).q9) d2.rdy (OT_m (OTo_n hO o1 hk) (a2.fr ?_ ?_ ?_ ?_) (b2.fr ?_ ?_)) ?_⟩
      · have c1 : nI m < 6 := by rw [show (6 : Int32) = nI 6 from rfl, q_lt (by omega) (by decide)]; omega
        have c2 : ¬ 6 ≤ nI m := by rw [show (6 : Int32) = nI 6 from rfl, q_le (by decide) (by omega)]; omega
        simp (config := { decide := true }) only [f_X7_add, read_eq hC.1 e1, cmp_tn hn hp, hC.2.1, c1, a1, f_X2_take, C1.2.1, c2, q_chk (show m < 6 by omega) (show 6 < 2 ^ 31 by decide), q_ix (show m < 2 ^ 31 by omega), nI_1, g1, size2_eq hO2 g2 he, obs, bnd_eq, is_0, is_1, is_2, is_3, is_4, is_5, is_6, is_9, tell_eq, refuse_eq, refuse8_eq, b2i_1, b2i_0, if_true, if_false, ↓reduceIte]
      · unfold f_X8_add
        rw [ob (e2 46 _ L2 (by decide) R1.1), bnd_eq]
        dsimp only
        rw [if_neg b2i_t, ob (moves_eq R1'.2.1), if_neg (show ¬ nI m = 6 by rw [show (6 : Int32) = nI 6 from rfl, q_eq (by omega) (by decide)]; exact hm6), ob is_0]
        dsimp only
        rw [if_neg b2i_t, ob b1]
        dsimp only
        rw [ob (moves_eq hN3), e11, ob cpy]
        dsimp only
        rw [show (0 : Int32) = nI 0 from rfl, q_chk (by decide) (by decide), q_chk (by decide) (by decide), bnd_eq, q_ix (by decide), e440, nI_1, bnd_eq, nI_0, hK2, ob d1]
      · rw [d3 37 (by decide), hK2p 37 (by decide) (by decide), b3 37 (by decide) (by decide), is8_ne (by decide), j3 37 (by decide), up2_ne (by decide), g3 37 (by decide), up2_ne (by decide)]
      · rw [d3 40 (by decide), hK2p 40 (by decide) (by decide), b3 40 (by decide) (by decide), is8_ne (by decide), j3 40 (by decide), up2_ne (by decide), g3 40 (by decide), up2_ne (by decide)]
      · rw [g4 39 (by decide), up2_ne (by decide)]
      · rw [g4 41 (by decide), up2_ne (by decide)]
      · rw [d4 3 (by decide), hK43 3 (by decide)]
      · rw [d3 45 (by decide), hK2p 45 (by decide) (by decide)]
      · rw [up2_s, d4 0 (by decide), hK43 0 (by decide), b4 0 (by decide)]; exact is8_0.symm
  · obtain ⟨I', f1, f2⟩ := e2 46 (up2 I 0 6 1) L (by decide) (RDY_s (s := 1) hR).1
    refine ⟨-1, up2 I 0 6 1, L, ?_, _, L, ?_, IV_q h ((Q8_fr f2 (by decide)).trans (Q8_is (a := 1))) (RDY_is ((RDY_s hR).fr f2 (by decide))) is8_0⟩
    · simp (config := { decide := true }) only [f_X7_add, read_eq hC.1 e1, cmp_m1, obs, bnd_eq, is_0, is_1, is_2, is_3, is_4, is_5, is_6, is_9, tell_eq, refuse_eq, refuse8_eq, b2i_1, b2i_0, if_true, if_false, ↓reduceIte]
    · simp (config := { decide := true }) only [f_X8_add, f1, obs, bnd_eq, is_0, is_1, is_2, is_3, is_4, is_5, is_6, is_9, tell_eq, refuse_eq, refuse8_eq, b2i_1, b2i_0, if_true, if_false, ↓reduceIte]
end CH
