/-! Two of one class -/
section SM
theorem PR_34h : PR_34 Inv := by
  intro I L rm x y ⟨n, m, mv, st, h⟩
  obtain ⟨hO, hC, hR, hP, hT, hU, hF, hS⟩ := id h
  have hn := hO.1
  have hG := Gp_Sub hn hO.2.2.1
  obtain ⟨N, e, he⟩ := EL_ex hn hG
  have hu := hurdle_eq hO hC he
  rcases rd hn x with ⟨p, hp, h0, e1, e2⟩ | ⟨e1, e2⟩
  · rcases rd hn y with ⟨q, hq, _, g1, g2⟩ | ⟨g1, g2⟩
    · rcases hz_3 n N with hz | hz | hz
      · obtain ⟨hN, hn0⟩ := hz_N hz
        rw [hz] at hu
        obtain ⟨I1, L1, rm1, a1, a2, ⟨B, a3, a4⟩, a5⟩ := sorted_eq hO hC he hN
        obtain ⟨r, r1, r2⟩ := find_eq hn hG he a2.2.2.2.2.1 hp
        obtain ⟨t, t1, t2⟩ := find_eq hn hG he a2.2.2.2.2.1 hq
        have hrm := a2.2.2.2.2.1.2.2.2.1
        have ref : ∀ s : Int32, ∃ J r' t' I3 I4, f_X8_lies x 46 (up2 I1 0 6 s) L1 = some (true, wp (up2 I1 0 6 s) 46 0 p, L1) ∧ f_X8_lies y 47 (wp (up2 I1 0 6 s) 46 0 p) L1 = some (true, wp (wp (up2 I1 0 6 s) 46 0 p) 47 0 q, L1) ∧ f_X8_whySmall 0 (wp (wp (up2 I1 0 6 s) 46 0 p) 47 0 q) L1 = some (0, J, L1) ∧ f_X8_placeOf 46 (is8 J 0) L1 = some (r', I3, L1) ∧ f_X8_placeOf 47 I3 L1 = some (t', I4, L1) ∧ BD I4 n m mv st ∧ Q8 (up2 I1 0 6 s) I4 ∧ I4 43 0 = 0 ∧ r' = r ∧ t' = t := fun s => by
          have hR1 := RDY_a (s := s) a2 hR
          have j2 : Fr [46] (up2 I1 0 6 s) (wp (up2 I1 0 6 s) 46 0 p) := Fr_wp (by decide)
          have j3 : Fr [46, 47] (up2 I1 0 6 s) (wp (wp (up2 I1 0 6 s) 46 0 p) 47 0 q) := (Fr_wp (by decide)).trans (Fr_wp (by decide))
          obtain ⟨J, b1, b2, b3, b4⟩ := wS0 (L := L1) hO (hR1.fr j3 (by decide)) he hz
          have B2 := BD_is (a := 0) b2
          obtain ⟨r', I3, c1, c2, c3⟩ := placeOf8_eq (L := L1) (a := 46) hn hG (by decide) hp B2.1 B2.2.2.1 (Row_is (by decide) (Row_of (b4 46 (by decide)) (Row_ne (by decide) Row_wp))) he
          have B3 := B2.fr c2 (by decide)
          obtain ⟨t', I4, d1, d2, d3⟩ := placeOf8_eq (L := L1) (a := 47) hn hG (by decide) hq B3.1 B3.2.2.1 (Row_of (c2 47 (by decide)) (Row_is (by decide) (Row_of (b4 47 (by decide)) Row_wp))) he
          have un : ∀ (p : Nat → Nat) (r r' : Int32), ((∃ i, i < N ∧ e i = p ∧ r = nI i) ∨ (¬ Gp n m mv p ∧ r = -1)) → ((∃ i, i < N ∧ e i = p ∧ r' = nI i) ∨ (¬ Gp n m mv p ∧ r' = -1)) → r' = r := fun p r r' k1 k2 => by
            rcases k1 with ⟨i, i1, i2, i3⟩ | ⟨i1, i2⟩
            · rcases k2 with ⟨j, j1, j2, j3⟩ | ⟨j1, _⟩
              · rw [i3, j3, EL_inj he j1 i1 (j2.trans i2.symm)]
              · exact absurd (i2 ▸ he.1 i i1) j1
            · rcases k2 with ⟨j, j1, j2, j3⟩ | ⟨_, j2⟩
              · exact absurd (j2 ▸ he.1 j j1) i1
              · rw [i2, j2]
          exact ⟨J, r', t', I3, I4, e2 46 _ L1 (by decide) hR1.1, g2 47 _ L1 (by decide) (hR1.fr j2 (by decide)).1, b1, c1, d1, B3.fr d2 (by decide), ((((Q8_fr j3 (by decide)).trans b3).trans Q8_is).trans (Q8_fr c2 (by decide))).trans (Q8_fr d2 (by decide)), by rw [d2 43 (by decide), c2 43 (by decide)]; exact is8_0, un p r r' r2 c3, un q t t' t2 d3⟩
        rcases r2 with ⟨i, i1, i2, i3⟩ | ⟨_, i3⟩
        · subst i3
          have ip : ¬ nI i < 0 := Int32.not_lt.mpr (nI_pos' (by omega))
          rcases t2 with ⟨j, j1, j2, j3⟩ | ⟨_, j3⟩
          · subst j3
            obtain ⟨J, r', t', I3, I4, v1, v2, v3, v4, v5, v6, v7, v8, v9, v10⟩ := ref 0
            subst v9 v10
            obtain ⟨I5, k1, k2, k3, k4, k5⟩ := laysClasses_eq (L := L1) hO v6.rdy he hN a3
            have fin : Inv I5 L1 rm1 := IV_a h a2 (v7.trans k4) k2.1.rdy (by rw [k5]; exact v8)
            by_cases c : Cj (Gp n m mv) (e i) (e j)
            · refine ⟨1, up2 I1 0 6 0, L1, rm1, ?_, a2.1, I5, L1, ?_, fin⟩
              · simp (config := { decide := true }) only [f_X7_same, read_eq hC.1 e1, read_eq hC.1 g1, cmp_tn' hn hp, cmp_tn hn hq, hu, nI_0, a1, a2.kA, a2.kB, r1, t1, ip, nI_pos' (show j < 2 ^ 31 by omega), q_chk (show i < rm1 by omega) (show rm1 < 2 ^ 31 by have := a2.2.2.1; omega), q_chk (show j < rm1 by omega) (show rm1 < 2 ^ 31 by have := a2.2.2.1; omega), q_ix (show i < 2 ^ 31 by omega), q_ix (show j < 2 ^ 31 by omega), (a5 i j i1 j1).mpr c, obs, bnd_eq, is_0, is_1, is_2, is_3, is_4, is_5, is_6, is_9, tell_eq, refuse_eq, refuse8_eq, b2i_1, b2i_0, if_true, if_false, ↓reduceIte]
              · simp (config := { decide := true }) only [f_X8_same, v1, v2, v3, v4, v5, nI_nm1 (show i < 2 ^ 31 by omega), nI_nm1 (show j < 2 ^ 31 by omega), k1, q_chk (show i < 5040 by omega) (show 5040 < 2 ^ 31 by decide), q_chk (show j < 5040 by omega) (show 5040 < 2 ^ 31 by decide), q_ix (show i < 2 ^ 31 by omega), q_ix (show j < 2 ^ 31 by omega), (k3 i j i1 j1).mpr c, obs, bnd_eq, is_0, is_1, is_2, is_3, is_4, is_5, is_6, is_9, tell_eq, refuse_eq, refuse8_eq, b2i_1, b2i_0, if_true, if_false, ↓reduceIte]
            · refine ⟨0, up2 I1 0 6 0, L1, rm1, ?_, a2.1, I5, L1, ?_, fin⟩
              · simp (config := { decide := true }) only [f_X7_same, read_eq hC.1 e1, read_eq hC.1 g1, cmp_tn' hn hp, cmp_tn hn hq, hu, nI_0, a1, a2.kA, a2.kB, r1, t1, ip, nI_pos' (show j < 2 ^ 31 by omega), q_chk (show i < rm1 by omega) (show rm1 < 2 ^ 31 by have := a2.2.2.1; omega), q_chk (show j < rm1 by omega) (show rm1 < 2 ^ 31 by have := a2.2.2.1; omega), q_ix (show i < 2 ^ 31 by omega), q_ix (show j < 2 ^ 31 by omega), (show ¬ I1 71 i = I1 71 j from fun g => c ((a5 i j i1 j1).mp g)), obs, bnd_eq, is_0, is_1, is_2, is_3, is_4, is_5, is_6, is_9, tell_eq, refuse_eq, refuse8_eq, b2i_1, b2i_0, if_true, if_false, ↓reduceIte]
              · simp (config := { decide := true }) only [f_X8_same, v1, v2, v3, v4, v5, nI_nm1 (show i < 2 ^ 31 by omega), nI_nm1 (show j < 2 ^ 31 by omega), k1, q_chk (show i < 5040 by omega) (show 5040 < 2 ^ 31 by decide), q_chk (show j < 5040 by omega) (show 5040 < 2 ^ 31 by decide), q_ix (show i < 2 ^ 31 by omega), q_ix (show j < 2 ^ 31 by omega), (show ¬ I5 63 i = I5 63 j from fun g => c ((k3 i j i1 j1).mp g)), obs, bnd_eq, is_0, is_1, is_2, is_3, is_4, is_5, is_6, is_9, tell_eq, refuse_eq, refuse8_eq, b2i_1, b2i_0, if_true, if_false, ↓reduceIte]
          · subst j3
            obtain ⟨J, r', t', I3, I4, v1, v2, v3, v4, v5, v6, v7, v8, v9, v10⟩ := ref 6
            subst v9 v10
            refine ⟨-1, up2 I1 0 6 6, L1, rm1, ?_, a2.1, up2 I4 43 0 6, L1, ?_, IV_a h a2 (v7.trans Q8_r) (RDY_r v6.rdy) up2_s⟩
            · simp (config := { decide := true }) only [f_X7_same, read_eq hC.1 e1, read_eq hC.1 g1, cmp_tn' hn hp, cmp_tn hn hq, hu, nI_0, a1, a2.kA, a2.kB, r1, t1, ip, obs, bnd_eq, is_0, is_1, is_2, is_3, is_4, is_5, is_6, is_9, tell_eq, refuse_eq, refuse8_eq, b2i_1, b2i_0, if_true, if_false, ↓reduceIte]
            · simp (config := { decide := true }) only [f_X8_same, v1, v2, v3, v4, v5, nI_nm1 (show i < 2 ^ 31 by omega), obs, bnd_eq, is_0, is_1, is_2, is_3, is_4, is_5, is_6, is_9, tell_eq, refuse_eq, refuse8_eq, b2i_1, b2i_0, if_true, if_false, ↓reduceIte]
        · subst i3
          obtain ⟨J, r', t', I3, I4, v1, v2, v3, v4, v5, v6, v7, v8, v9, v10⟩ := ref 6
          subst v9 v10
          refine ⟨-1, up2 I1 0 6 6, L1, rm1, ?_, a2.1, up2 I4 43 0 6, L1, ?_, IV_a h a2 (v7.trans Q8_r) (RDY_r v6.rdy) up2_s⟩
          · simp (config := { decide := true }) only [f_X7_same, read_eq hC.1 e1, read_eq hC.1 g1, cmp_tn' hn hp, cmp_tn hn hq, hu, nI_0, a1, a2.kA, a2.kB, r1, t1, obs, bnd_eq, is_0, is_1, is_2, is_3, is_4, is_5, is_6, is_9, tell_eq, refuse_eq, refuse8_eq, b2i_1, b2i_0, if_true, if_false, ↓reduceIte]
          · simp (config := { decide := true }) only [f_X8_same, v1, v2, v3, v4, v5, obs, bnd_eq, is_0, is_1, is_2, is_3, is_4, is_5, is_6, is_9, tell_eq, refuse_eq, refuse8_eq, b2i_1, b2i_0, if_true, if_false, ↓reduceIte]
      · rw [hz] at hu
        have j2 : Fr [46] (up2 I 0 6 5) (wp (up2 I 0 6 5) 46 0 p) := Fr_wp (by decide)
        have j3 : Fr [46, 47] (up2 I 0 6 5) (wp (wp (up2 I 0 6 5) 46 0 p) 47 0 q) := (Fr_wp (by decide)).trans (Fr_wp (by decide))
        obtain ⟨I2, b1, b2, b3, b4⟩ := wS (L := L) hO ((RDY_s (s := 5) hR).fr j3 (by decide)) he hz
        refine ⟨-1, up2 I 0 6 5, L, rm, ?_, RS_r, is8 I2 5, L, ?_, IV_q h (((Q8_fr j3 (by decide)).trans b3).trans Q8_is) (RDY_is b2) is8_0⟩
        · simp (config := { decide := true }) only [f_X7_same, read_eq hC.1 e1, read_eq hC.1 g1, cmp_tn' hn hp, cmp_tn hn hq, hu, show nI 5 = 5 from rfl, obs, bnd_eq, is_0, is_1, is_2, is_3, is_4, is_5, is_6, is_9, tell_eq, refuse_eq, refuse8_eq, b2i_1, b2i_0, if_true, if_false, ↓reduceIte]
        · simp (config := { decide := true }) only [f_X8_same, e2 46 _ L (by decide) (RDY_s (s := 5) hR).1, g2 47 _ L (by decide) ((RDY_s (s := 5) hR).fr j2 (by decide)).1, b1, show nI 5 = 5 from rfl, obs, bnd_eq, is_0, is_1, is_2, is_3, is_4, is_5, is_6, is_9, tell_eq, refuse_eq, refuse8_eq, b2i_1, b2i_0, if_true, if_false, ↓reduceIte]
      · rw [hz] at hu
        have j2 : Fr [46] (up2 I 0 6 3) (wp (up2 I 0 6 3) 46 0 p) := Fr_wp (by decide)
        have j3 : Fr [46, 47] (up2 I 0 6 3) (wp (wp (up2 I 0 6 3) 46 0 p) 47 0 q) := (Fr_wp (by decide)).trans (Fr_wp (by decide))
        obtain ⟨I2, b1, b2, b3, b4⟩ := wS (L := L) hO ((RDY_s (s := 3) hR).fr j3 (by decide)) he hz
        refine ⟨-1, up2 I 0 6 3, L, rm, ?_, RS_r, is8 I2 3, L, ?_, IV_q h (((Q8_fr j3 (by decide)).trans b3).trans Q8_is) (RDY_is b2) is8_0⟩
        · simp (config := { decide := true }) only [f_X7_same, read_eq hC.1 e1, read_eq hC.1 g1, cmp_tn' hn hp, cmp_tn hn hq, hu, show nI 3 = 3 from rfl, obs, bnd_eq, is_0, is_1, is_2, is_3, is_4, is_5, is_6, is_9, tell_eq, refuse_eq, refuse8_eq, b2i_1, b2i_0, if_true, if_false, ↓reduceIte]
        · simp (config := { decide := true }) only [f_X8_same, e2 46 _ L (by decide) (RDY_s (s := 3) hR).1, g2 47 _ L (by decide) ((RDY_s (s := 3) hR).fr j2 (by decide)).1, b1, show nI 3 = 3 from rfl, obs, bnd_eq, is_0, is_1, is_2, is_3, is_4, is_5, is_6, is_9, tell_eq, refuse_eq, refuse8_eq, b2i_1, b2i_0, if_true, if_false, ↓reduceIte]
    · have hR1 := (RDY_s (s := 1) hR).fr (S := [46]) (I' := wp (up2 I 0 6 1) 46 0 p) (Fr_wp (by decide)) (by decide)
      obtain ⟨I', f1, f2⟩ := g2 47 (wp (up2 I 0 6 1) 46 0 p) L (by decide) hR1.1
      refine ⟨-1, up2 I 0 6 1, L, rm, ?_, RS_r, _, L, ?_, IV_q h (((Q8_fr (S := [46]) (Fr_wp (by decide)) (by decide)).trans (Q8_fr f2 (by decide))).trans (Q8_is (a := 1))) (RDY_is (hR1.fr f2 (by decide))) is8_0⟩
      · simp (config := { decide := true }) only [f_X7_same, read_eq hC.1 e1, read_eq hC.1 g1, cmp_tn' hn hp, cmp_m1, obs, bnd_eq, is_0, is_1, is_2, is_3, is_4, is_5, is_6, is_9, tell_eq, refuse_eq, refuse8_eq, b2i_1, b2i_0, if_true, if_false, ↓reduceIte]
      · simp (config := { decide := true }) only [f_X8_same, e2 46 _ L (by decide) (RDY_s (s := 1) hR).1, f1, wS_1, obs, bnd_eq, is_0, is_1, is_2, is_3, is_4, is_5, is_6, is_9, tell_eq, refuse_eq, refuse8_eq, b2i_1, b2i_0, if_true, if_false, ↓reduceIte]
  · obtain ⟨I', f1, f2⟩ := e2 46 (up2 I 0 6 1) L (by decide) (RDY_s (s := 1) hR).1
    obtain ⟨w, hw⟩ : ∃ w, f_X6_fromNumber y (nI n) = some w := by
      rcases rd hn y with ⟨q, _, _, g1, _⟩ | ⟨g1, _⟩
      · exact ⟨_, g1⟩
      · exact ⟨_, g1⟩
    refine ⟨-1, up2 I 0 6 1, L, rm, ?_, RS_r, _, L, ?_, IV_q h ((Q8_fr f2 (by decide)).trans (Q8_is (a := 1))) (RDY_is ((RDY_s hR).fr f2 (by decide))) is8_0⟩
    · simp (config := { decide := true }) only [f_X7_same, read_eq hC.1 e1, read_eq hC.1 hw, cmp_m1', obs, bnd_eq, is_0, is_1, is_2, is_3, is_4, is_5, is_6, is_9, tell_eq, refuse_eq, refuse8_eq, b2i_1, b2i_0, if_true, if_false, ↓reduceIte]
    · simp (config := { decide := true }) only [f_X8_same, f1, wS_1, obs, bnd_eq, is_0, is_1, is_2, is_3, is_4, is_5, is_6, is_9, tell_eq, refuse_eq, refuse8_eq, b2i_1, b2i_0, if_true, if_false, ↓reduceIte]
end SM
