/-! Placing and going home -/
section PL
theorem PR_53h : PR_53 Inv := by
  intro I L rm x ⟨n, m, mv, st, h⟩
  obtain ⟨hO, hC, hR, hP, hT, hU, hF, hS⟩ := id h
  have hn := hO.1
  rcases rd hn x with ⟨p, hp, h0, e1, e2⟩ | ⟨e1, e2⟩
  · by_cases hps : p = st
    · subst hps
      have j3 : Fr [46, 47] (up2 I 0 6 4) (wp (wp (up2 I 0 6 4) 46 0 p) 47 0 p) := (Fr_wp (by decide)).trans (Fr_wp (by decide))
      have j2 : Fr [46] (up2 I 0 6 4) (wp (up2 I 0 6 4) 46 0 p) := Fr_wp (by decide)
      have sm := areSame_eq (I := wp (wp (up2 I 0 6 4) 46 0 p) 47 0 p) (L := L) (a := 46) (b := 47) (Row_ne (by decide) Row_wp) Row_wp (IsP_mono hp hn) (IsP_mono hp hn) (c := true) ⟨fun _ => rfl, fun _ => rfl⟩
      have cz : lg_cmp (tn n p) (tn n p) = 0 := (q_cmp0 _ _).mpr rfl
      refine ⟨-1, up2 I 0 6 4, L, ?_, is8 (wp (wp (up2 I 0 6 4) 46 0 p) 47 0 p) 4, L, ?_, IV_q h ((Q8_fr j3 (by decide)).trans Q8_is) (RDY_is ((RDY_s hR).fr j3 (by decide))) is8_0⟩
      · simp (config := { decide := true }) only [f_X7_place, read_eq hC.1 e1, cmp_tn hn hp, hC.2.2.2.1, cz, obs, bnd_eq, is_0, is_1, is_2, is_3, is_4, is_5, is_6, is_9, tell_eq, refuse_eq, refuse8_eq, b2i_1, b2i_0, if_true, if_false, ↓reduceIte]
      · simp (config := { decide := true }) only [f_X8_place, e2 46 _ L (by decide) (RDY_s (s := 4) hR).1, laysStand_eq ((RDY_s (s := 4) hR).fr j2 (by decide)).2.1 (show 47 ≠ 44 by decide), sm, obs, bnd_eq, is_0, is_1, is_2, is_3, is_4, is_5, is_6, is_9, tell_eq, refuse_eq, refuse8_eq, b2i_1, b2i_0, if_true, if_false, ↓reduceIte]
    · have cz : ¬ lg_cmp (tn n p) (tn n st) = 0 := fun g => hps ((tn_inj hn hp hO.2.2.2).mp ((q_cmp0 _ _).mp g))
      obtain ⟨kp, pm, pmv, pst, o1, o2, o3⟩ := OT_s hP
      obtain ⟨k, c, hk⟩ := kc_ex o1.1
      obtain ⟨I1, L1, a1, a2, a3, a4⟩ := keepPast_eq hO hC o1 o2 hk
      have C1 : CI I1 L1 rm n m mv st := hC.stt (fun p hp => a3 p (by omega) (by omega)) (fun p hp => a4 p (by omega) (by omega)) (by rw [a4 0 (by decide) (by decide)]; exact hC.2.2.2.1)
      have C3 : CI I1 (up2 L1 0 5 (tn n p)) rm n m mv p := C1.stt (fun p hp => rfl) (fun p hp => up2_ne (by omega)) up2_s
      have C2 : CI (up2 I1 0 6 0) (up2 L1 0 5 (tn n p)) rm n m mv p := C1.stt (fun p hp => up2_ne (by omega)) (fun p hp => up2_ne (by omega)) up2_s
      have k1 : ∀ p, p = 1 ∨ p = 2 ∨ p = 42 ∨ (43 ≤ p ∧ p < 69) → up2 I1 0 6 0 p = I p := fun p hp => by rw [up2_ne (by omega), a3 p (by omega) (by omega)]
      have R1 : RDY (up2 I1 0 6 0) n m mv st := hR.of (by rw [k1 43 (by decide)]) (by rw [k1 43 (by decide)]) (k1 44 (by decide)) (k1 52 (by decide)) (k1 53 (by decide))
      generalize hL2 : up2 L1 0 5 (tn n p) = L2 at C2 C3
      have j2 : Fr [46] (up2 I1 0 6 0) (wp (up2 I1 0 6 0) 46 0 p) := Fr_wp (by decide)
      have j3 : Fr [46, 47] (up2 I1 0 6 0) (wp (wp (up2 I1 0 6 0) 46 0 p) 47 0 st) := (Fr_wp (by decide)).trans (Fr_wp (by decide))
      have sm := areSame_eq (I := wp (wp (up2 I1 0 6 0) 46 0 p) 47 0 st) (L := L2) (a := 46) (b := 47) (Row_ne (by decide) Row_wp) Row_wp (IsP_mono hp hn) (IsP_mono hO.2.2.2 hn) (c := false) ⟨(fun h => by cases h), fun h => absurd h hps⟩
      have R2 := RDY_is (a := 0) (R1.fr j3 (by decide))
      obtain ⟨K, b1, b2, b3, b4⟩ := remembers_eq (L := L2) hO R2.2.1 o1 (o3.fr (I' := is8 (wp (wp (up2 I1 0 6 0) 46 0 p) 47 0 st) 0) (by unfold is8; rw [up2_n (by decide), up2_n (by decide), j3 43 (by decide), k1 43 (by decide)]) (by rw [is8_ne (by decide), j3 45 (by decide), k1 45 (by decide)])) hk
      have R3 : RDY K n m mv st := R2.of (b4 2 (by decide)) (b4 20 (by decide)) (b3 44 (by decide) (by decide)) (b3 52 (by decide) (by decide)) (b3 53 (by decide) (by decide))
      have r46 : Row K 46 0 p := Row_of (b3 46 (by decide) (by decide)) (Row_is (by decide) (Row_ne (by decide) Row_wp))
      have f4 : Fr [44] K (wp K 44 1 p) := Fr_wp (by decide)
      have R6 := RDY_st (p := p) R3
      have cpy : f_X8_copies 46 10 0 44 71 1 K L2 = some (wp K 44 1 p, L2) := copies0y (I := K) (L := L2) (a := 46) (an := 10) (b := 44) (bn := 71) (y := 1) r46 (by decide) (by decide) (by decide) (by decide) (by decide)
      have hO2 : OKm n m mv p := ⟨hn, hO.2.1, hO.2.2.1, hp⟩
      obtain ⟨q, I4, d1, d2, d3, d4, d5⟩ := followedOf_eq hO2 C3 R6 hp (a := 46) (Row_of (f4 46 (by decide)) r46) (by decide)
      refine ⟨nI q, up2 I1 0 6 0, L2, ?_, I4, L2, ?_, IV_mk h hO2 C2 k1 (by rw [up2_n (by decide), a3 0 (by decide) (by decide)]) (((((Q8_fr j3 (by decide)).trans Q8_is).q9.trans (Q9_r b3 b4)).trans (Q9_44 f4)).trans (Q8_b d4 d5).q9) d3 (OT_m (OTo_n hO o1 hk) (a2.fr ?_ ?_ ?_ ?_) (b2.fr ?_ ?_)) ?_⟩
      · simp (config := { decide := true }) only [f_X7_place, read_eq hC.1 e1, cmp_tn hn hp, hC.2.2.2.1, cz, a1, hL2, d1, obs, bnd_eq, is_0, is_1, is_2, is_3, is_4, is_5, is_6, is_9, tell_eq, refuse_eq, refuse8_eq, b2i_1, b2i_0, if_true, if_false, ↓reduceIte]
      · unfold f_X8_place
        rw [ob (e2 46 _ L2 (by decide) R1.1), bnd_eq]
        dsimp only
        rw [ob (laysStand_eq (R1.fr j2 (by decide)).2.1 (show 47 ≠ 44 by decide)), bnd_eq]
        dsimp only
        rw [if_neg b2i_t, ob sm, if_pos b2i_f, ob is_0]
        dsimp only
        rw [if_neg b2i_t, ob b1]
        dsimp only
        rw [ob cpy]
        dsimp only
        rw [ob d2]
      · rw [d4 37 (by decide), f4 37 (by decide), b3 37 (by decide) (by decide), is8_ne (by decide), j3 37 (by decide), up2_ne (by decide)]
      · rw [d4 40 (by decide), f4 40 (by decide), b3 40 (by decide) (by decide), is8_ne (by decide), j3 40 (by decide), up2_ne (by decide)]
      · rw [← hL2, up2_ne (by decide)]
      · rw [← hL2, up2_ne (by decide)]
      · rw [d5 3 (by decide), f4 43 (by decide)]
      · rw [d4 45 (by decide), f4 45 (by decide)]
      · rw [up2_s, d5 0 (by decide), f4 43 (by decide), b4 0 (by decide)]; exact is8_0.symm
  · obtain ⟨I', f1, f2⟩ := e2 46 (up2 I 0 6 1) L (by decide) (RDY_s (s := 1) hR).1
    have R1 := (RDY_s (s := 1) hR).fr f2 (by decide)
    have j3 : Fr [47] I' (wp I' 47 0 st) := Fr_wp (by decide)
    refine ⟨-1, up2 I 0 6 1, L, ?_, is8 (wp I' 47 0 st) 1, L, ?_, IV_q h (((Q8_fr f2 (by decide)).trans (Q8_fr j3 (by decide))).trans (Q8_is (a := 1))) (RDY_is (R1.fr j3 (by decide))) is8_0⟩
    · simp (config := { decide := true }) only [f_X7_place, read_eq hC.1 e1, cmp_m1, obs, bnd_eq, is_0, is_1, is_2, is_3, is_4, is_5, is_6, is_9, tell_eq, refuse_eq, refuse8_eq, b2i_1, b2i_0, if_true, if_false, ↓reduceIte]
    · simp (config := { decide := true }) only [f_X8_place, f1, laysStand_eq R1.2.1 (show 47 ≠ 44 by decide), obs, bnd_eq, is_0, is_1, is_2, is_3, is_4, is_5, is_6, is_9, tell_eq, refuse_eq, refuse8_eq, b2i_1, b2i_0, if_true, if_false, ↓reduceIte]
theorem PR_54h : PR_54 Inv := by
  intro I L rm ⟨n, m, mv, st, h⟩
  obtain ⟨hO, hC, hR, hP, hT, hU, hF, hS⟩ := id h
  have hn := hO.1
  by_cases h0 : n = 0
  · have e0 : nI n = 0 := by rw [h0]; rfl
    have j3 : Fr [46] (up2 I 0 6 5) (wp (up2 I 0 6 5) 46 0 st) := Fr_wp (by decide)
    have e43 : wp (up2 I 0 6 5) 46 0 st 43 2 = 0 := by rw [j3 43 (by decide), ← e0]; exact (RDY_s (s := 5) hR).1
    refine ⟨-1, up2 I 0 6 5, L, ?_, is8 (wp (up2 I 0 6 5) 46 0 st) 5, L, ?_, IV_q h ((Q8_fr j3 (by decide)).trans Q8_is) (RDY_is ((RDY_s hR).fr j3 (by decide))) is8_0⟩
    · simp (config := { decide := true }) only [f_X7_home, hC.1, e0, obs, bnd_eq, is_0, is_1, is_2, is_3, is_4, is_5, is_6, is_9, tell_eq, refuse_eq, refuse8_eq, b2i_1, b2i_0, if_true, if_false, ↓reduceIte]
    · simp (config := { decide := true }) only [f_X8_home, laysStand_eq (RDY_s (s := 5) hR).2.1 (show 46 ≠ 44 by decide), e43, obs, bnd_eq, is_0, is_1, is_2, is_3, is_4, is_5, is_6, is_9, tell_eq, refuse_eq, refuse8_eq, b2i_1, b2i_0, if_true, if_false, ↓reduceIte]
  · have e0 : ¬ nI n = 0 := nI_ne0 (by omega) (by omega)
    obtain ⟨b, hb⟩ := em_B (st = idp)
    have hh := stand_home hO hC hb
    cases b
    · obtain ⟨kp, pm, pmv, pst, o1, o2, o3⟩ := OT_s hP
      obtain ⟨k, c, hk⟩ := kc_ex o1.1
      obtain ⟨I1, L1, a1, a2, a3, a4⟩ := keepPast_eq hO hC o1 o2 hk
      have C1 : CI I1 L1 rm n m mv st := hC.stt (fun p hp => a3 p (by omega) (by omega)) (fun p hp => a4 p (by omega) (by omega)) (by rw [a4 0 (by decide) (by decide)]; exact hC.2.2.2.1)
      have C2 : CI (up2 I1 0 6 0) (up2 L1 0 5 (tn n idp)) rm n m mv idp := C1.stt (fun p hp => up2_ne (by omega)) (fun p hp => up2_ne (by omega)) up2_s
      have ca := countAway_eq hn hO.2.2.2 C1.1 C1.2.2.2.1
      have k1 : ∀ p, p = 1 ∨ p = 2 ∨ p = 42 ∨ (43 ≤ p ∧ p < 69) → up2 I1 0 6 0 p = I p := fun p hp => by rw [up2_ne (by omega), a3 p (by omega) (by omega)]
      have R1 : RDY (up2 I1 0 6 0) n m mv st := hR.of (by rw [k1 43 (by decide)]) (by rw [k1 43 (by decide)]) (k1 44 (by decide)) (k1 52 (by decide)) (k1 53 (by decide))
      generalize hL2 : up2 L1 0 5 (tn n idp) = L2 at C2
      have j3 : Fr [46] (up2 I1 0 6 0) (wp (up2 I1 0 6 0) 46 0 st) := Fr_wp (by decide)
      have R1' := R1.fr j3 (by decide)
      have sty0 := stays_eq (I := wp (up2 I1 0 6 0) 46 0 st) (L := L2) (a := 46) Row_wp (IsP_mono hO.2.2.2 hn) hb
      have R2 := RDY_is (a := 0) R1'
      obtain ⟨K, b1, b2, b3, b4⟩ := remembers_eq (L := L2) hO R2.2.1 o1 (o3.fr (I' := is8 (wp (up2 I1 0 6 0) 46 0 st) 0) (by unfold is8; rw [up2_n (by decide), up2_n (by decide), j3 43 (by decide), k1 43 (by decide)]) (by rw [is8_ne (by decide), j3 45 (by decide), k1 45 (by decide)])) hk
      have R3 : RDY K n m mv st := R2.of (b4 2 (by decide)) (b4 20 (by decide)) (b3 44 (by decide) (by decide)) (b3 52 (by decide) (by decide)) (b3 53 (by decide) (by decide))
      have f3 : Fr [47] K (wp K 47 0 idp) := Fr_wp (by decide)
      have R5 := R3.fr f3 (by decide)
      have f4 : Fr [44] (wp K 47 0 idp) (wp (wp K 47 0 idp) 44 1 idp) := Fr_wp (by decide)
      have R6 := RDY_st (p := idp) R5
      have cpy : f_X8_copies 47 10 0 44 71 1 (wp K 47 0 idp) L2 = some (wp (wp K 47 0 idp) 44 1 idp, L2) := copies0y (I := wp K 47 0 idp) (L := L2) (a := 47) (an := 10) (b := 44) (bn := 71) (y := 1) Row_wp (by decide) (by decide) (by decide) (by decide) (by decide)
      have r46 : Row (wp (wp K 47 0 idp) 44 1 idp) 46 0 st := Row_of (f4 46 (by decide)) (Row_of (f3 46 (by decide)) (Row_of (b3 46 (by decide) (by decide)) (Row_is (by decide) Row_wp)))
      have sty := staying8_eq (I := wp (wp K 47 0 idp) 44 1 idp) (L := L2) (a := 46) hn hO.2.2.2 R6.1 r46
      have hsy : sy n st ≤ n := cT_le _ _
      have em : nI n - nI (sy n st) = nI (n - sy n st) := pk_sub hsy
      refine ⟨nI (n - sy n st), up2 I1 0 6 0, L2, ?_, wp (wp K 47 0 idp) 44 1 idp, L2, ?_, IV_mk h ⟨hn, hO.2.1, hO.2.2.1, IsP_id n⟩ C2 k1 (by rw [up2_n (by decide), a3 0 (by decide) (by decide)]) (((((Q8_fr j3 (by decide)).trans Q8_is).q9.trans (Q9_r b3 b4)).trans (Q8_fr f3 (by decide)).q9).trans (Q9_44 f4)) R6 (OT_m (OTo_n hO o1 hk) (a2.fr ?_ ?_ ?_ ?_) (b2.fr ?_ ?_)) ?_⟩
      · simp (config := { decide := true }) only [f_X7_home, hC.1, e0, hh, a1, ca, C1.1, identity_eq hn, hL2, obs, bnd_eq, is_0, is_1, is_2, is_3, is_4, is_5, is_6, is_9, tell_eq, refuse_eq, refuse8_eq, b2i_1, b2i_0, if_true, if_false, ↓reduceIte]
      · unfold f_X8_home
        rw [ob (laysStand_eq R1.2.1 (show 46 ≠ 44 by decide)), bnd_eq]
        dsimp only
        rw [if_neg (show ¬ wp (up2 I1 0 6 0) 46 0 st 43 2 = 0 by rw [R1'.1]; exact e0), ob sty0, if_pos b2i_f, ob is_0]
        dsimp only
        rw [if_neg b2i_t, ob b1]
        dsimp only
        rw [ob isHome_eq]
        dsimp only
        rw [ob cpy]
        dsimp only
        rw [ob sty, R6.1, em]
      · rw [f4 37 (by decide), f3 37 (by decide), b3 37 (by decide) (by decide), is8_ne (by decide), j3 37 (by decide), up2_ne (by decide)]
      · rw [f4 40 (by decide), f3 40 (by decide), b3 40 (by decide) (by decide), is8_ne (by decide), j3 40 (by decide), up2_ne (by decide)]
      · rw [← hL2, up2_ne (by decide)]
      · rw [← hL2, up2_ne (by decide)]
      · rw [f4 43 (by decide), f3 43 (by decide)]
      · rw [f4 45 (by decide), f3 45 (by decide)]
      · rw [up2_s, f4 43 (by decide), f3 43 (by decide), b4 0 (by decide)]; exact is8_0.symm
    · have j3 : Fr [46] (up2 I 0 6 4) (wp (up2 I 0 6 4) 46 0 st) := Fr_wp (by decide)
      have R1' := (RDY_s (s := 4) hR).fr j3 (by decide)
      have sty0 := stays_eq (I := wp (up2 I 0 6 4) 46 0 st) (L := L) (a := 46) Row_wp (IsP_mono hO.2.2.2 hn) hb
      refine ⟨-1, up2 I 0 6 4, L, ?_, is8 (wp (up2 I 0 6 4) 46 0 st) 4, L, ?_, IV_q h ((Q8_fr j3 (by decide)).trans Q8_is) (RDY_is R1') is8_0⟩
      · simp (config := { decide := true }) only [f_X7_home, hC.1, e0, hh, obs, bnd_eq, is_0, is_1, is_2, is_3, is_4, is_5, is_6, is_9, tell_eq, refuse_eq, refuse8_eq, b2i_1, b2i_0, if_true, if_false, ↓reduceIte]
      · unfold f_X8_home
        rw [ob (laysStand_eq (RDY_s (s := 4) hR).2.1 (show 46 ≠ 44 by decide)), bnd_eq]
        dsimp only
        rw [if_neg (show ¬ wp (up2 I 0 6 4) 46 0 st 43 2 = 0 by rw [R1'.1]; exact e0), ob sty0, if_neg b2i_t, ob is_4]
        rfl
end PL
