/-! Meeting, keeping under turning, spare moves -/
section ME
variable {n m N rm : Nat} {mv : Nat → Nat → Nat} {st : Nat → Nat} {I : MI} {L : ML} {e : Nat → Nat → Nat}
theorem cont_eq {cb : Nat} {G : PS} {p : Nat → Nat} {c : Bool} (hn : n ≤ 10) (h : ChG I L cb n G) (hp : IsP n p) (hc : c = true ↔ G p) : f_X0_contains cb (tn n p) I L = some c := by
  obtain ⟨rb, th, a, b, hG⟩ := ChG_tab hn h
  exact contains_eq hn a b.1 hp (hc.trans ((TabG_SM hn hG b n (Nat.le_refl n) p).trans ⟨fun h => h.1, fun h => ⟨h, fun i hi => by omega⟩⟩).symm)
theorem cib45 {G H : PS} {B : Nat → Bool} (hn : n ≤ 10) (hG : Sub n (Gp n m mv)) (he : EL n (Gp n m mv) N e) (hL : Lst I L rm n N e) (h15 : ChG I L 15 n G) (h22 : ChG I L 22 n H) (hB : ∀ x, x < N → (B x = true ↔ (G (e x) ∧ H (e x)))) : f_X2_countInBoth_45 rm I L FU 0 0 = some ((nI (cT B N), I, L), rm) := by
  have l3 := hL.2.2.2.1
  have l4 := hL.2.2.2.2.1
  have := for0 (fun fu z => f_X2_countInBoth_45 rm I L fu z.1 z.2) (fun i => (nI (cT B i), nI i)) N (some ((nI (cT B N), I, L), rm)) (by omega)
    (fun fu => by
      dsimp only
      rw [f_X2_countInBoth_45, hL.2.1, if_pos (by rw [q_le (by omega) (by omega)]; omega)])
    (fun fu i hi => by
      dsimp only
      have eP := EL_P hG he hi
      have ta : f_X4_turnAt rm (nI i) I L = some (tn n (e i)) := by
        unfold f_X4_turnAt
        rw [if_neg (Int32.not_lt.mpr (nI_pos' (by omega))), hL.2.1, if_neg (by rw [q_le (by omega) (by omega)]; omega), q_chk (by omega) (by omega), q_ix (by omega), hL.2.2.2.2.2 i hi]
      obtain ⟨b1, hb1⟩ := em_B (G (e i))
      obtain ⟨b2, hb2⟩ := em_B (H (e i))
      rw [f_X2_countInBoth_45, hL.2.1, if_neg (by rw [q_le (by omega) (by omega)]; omega), ob ta, ob (cont_eq hn h15 eP hb1)]
      have hBi := hB i hi
      cases b1
      · have : B i = false := by
          cases hb : B i
          · rfl
          · exact absurd (hb1.mpr (hBi.mp hb).1) (by decide)
        rw [if_pos b2i_f, bnd_eq, nI_1, cT_f this]
      · rw [if_neg b2i_t, ob (cont_eq hn h22 eP hb2)]
        cases b2
        · have : B i = false := by
            cases hb : B i
            · rfl
            · exact absurd (hb2.mpr (hBi.mp hb).2) (by decide)
          rw [if_pos b2i_f, bnd_eq, nI_1, cT_f this]
        · rw [if_neg b2i_t, bnd_eq, bnd_eq, nI_1, nI_1, cT_t (hBi.mpr ⟨hb1.mp rfl, hb2.mp rfl⟩)])
  rw [nI_0] at this
  exact this
theorem meet55 {G H : PS} {B : Nat → Bool} (hO : OKm n m mv st) (he : EL n (Gp n m mv) N e) (hN : N ≤ 5040) (h24 : I 43 24 = nI N) (h60 : ∀ k, k < N → Row I 60 (10 * k) (e k)) (h1 : SlotG I 1 G) (h2 : SlotG I 2 H) (hB : ∀ x, x < N → (B x = true ↔ (G (e x) ∧ H (e x)))) : ∃ I', f_X8_meet_55 FU 0 0 I L = some (nI (cT B N), I', L) ∧ Fr [46, 54, 55, 56] I I' := by
  have hn := hO.1
  have hG := Gp_Sub hn hO.2.2.1
  have := loop0 (fun fu (z : Int32 × Int32 × MI × ML) => f_X8_meet_55 fu z.1 z.2.1 z.2.2.1 z.2.2.2) (fun i z => i ≤ N ∧ z.1 = nI (cT B i) ∧ z.2.1 = nI i ∧ z.2.2.2 = L ∧ Fr [46, 54, 55, 56] I z.2.2.1) (fun o => ∃ I', o = some (nI (cT B N), I', L) ∧ Fr [46, 54, 55, 56] I I') N (by omega) (nI 0, nI 0, I, L) ⟨Nat.zero_le _, rfl, rfl, rfl, Fr.refl⟩
    (fun fu i z hi hP => by
      obtain ⟨z1, z2, K, M⟩ := z
      obtain ⟨_, p1, p2, p3, p4⟩ := hP
      dsimp only at p1 p2 p3 p4 ⊢
      subst p1 p2 p3
      have e24 : K 43 24 = nI N := by rw [p4 43 (by decide)]; exact h24
      rw [f_X8_meet_55, e24, ifc (q_le (by omega) (by omega))]
      by_cases c1 : N ≤ i
      · left
        rw [if_pos c1, show i = N by omega]
        exact ⟨K, rfl, p4⟩
      · right
        have eP := EL_P hG he (show i < N by omega)
        have r60 : ∀ k, k < N → Row K 60 (10 * k) (e k) := fun k hk => Row_of (p4 60 (by decide)) (h60 k hk)
        have f1 : Fr [46, 54, 55, 56] I (wp K 46 0 (e i)) := p4.trans (Fr_wp (by decide))
        obtain ⟨b1, hb1⟩ := em_B (G (e i))
        obtain ⟨b2, hb2⟩ := em_B (H (e i))
        obtain ⟨K1, g1, g2⟩ := isMemberG (L := M) (s := 1) (by decide) (h1.fr (I' := wp K 46 0 (e i)) (f1 52 (by decide)) (f1 53 (by decide))) (a := 46) (by decide) Row_wp (IsP_mono eP hn) hb1
        have f2 : Fr [46, 54, 55, 56] I K1 := f1.trans (g2.mono (by decide))
        obtain ⟨K2, k1, k2⟩ := isMemberG (L := M) (s := 2) (by decide) (h2.fr (I' := K1) (f2 52 (by decide)) (f2 53 (by decide))) (a := 46) (by decide) (Row_of (g2 46 (by decide)) Row_wp) (IsP_mono eP hn) hb2
        have f3 : Fr [46, 54, 55, 56] I K2 := f2.trans (k2.mono (by decide))
        have g1 : f_X8_isMember 1 46 (wp K 46 0 (e i)) M = some (b1, K1, M) := g1
        have k1 : f_X8_isMember 2 46 K1 M = some (b2, K2, M) := k1
        have hBi := hB i (by omega)
        rw [if_neg c1, ob (laysOne_eq hN r60 (show i < N by omega) (by decide)), ob g1]
        dsimp only
        cases b1
        · have : B i = false := by
            cases hb : B i
            · rfl
            · exact absurd (hb1.mpr (hBi.mp hb).1) (by decide)
          refine ⟨by omega, (nI (cT B (i + 1)), nI (i + 1), K1, M), ?_, by omega, rfl, rfl, rfl, f2⟩
          rw [if_pos b2i_f, bnd_eq, bnd_eq, nI_1, show (0 : Int32) = nI 0 from rfl, nI_add, cT_f this]
          rfl
        · rw [if_neg b2i_t, ob k1]
          dsimp only
          cases b2
          · have : B i = false := by
              cases hb : B i
              · rfl
              · exact absurd (hb2.mpr (hBi.mp hb).2) (by decide)
            refine ⟨by omega, (nI (cT B (i + 1)), nI (i + 1), K2, M), ?_, by omega, rfl, rfl, rfl, f3⟩
            rw [if_pos b2i_f, bnd_eq, bnd_eq, nI_1, show (0 : Int32) = nI 0 from rfl, nI_add, cT_f this]
            rfl
          · refine ⟨by omega, (nI (cT B (i + 1)), nI (i + 1), K2, M), ?_, by omega, rfl, rfl, rfl, f3⟩
            rw [if_neg b2i_t, bnd_eq, bnd_eq, nI_1, nI_1, cT_t (hBi.mpr ⟨hb1.mp rfl, hb2.mp rfl⟩)])
  rw [nI_0] at this
  exact this
theorem PR_37h : PR_37 Inv := by
  intro I L rm a b ⟨n, m, mv, st, h⟩
  obtain ⟨hO, hC, hR, hP, hT, hU, hF, hS⟩ := id h
  have hn := hO.1
  have hG := Gp_Sub hn hO.2.2.1
  obtain ⟨N, e, he⟩ := EL_ex hn hG
  have hu := hurdle_eq hO hC he
  have hs2 := hasMoves_eq (L := L) hO.2.1 hC.2.1 a
  have hs4 := hasMoves_eq (L := L) hO.2.1 hC.2.1 b
  have am : ∀ (x : Int32) (J : MI) (M : ML), Nw J m mv st → f_X8_areMoves x J M = some (mB x m) := fun x J M hJ => areMoves_eq hJ x
  cases hb : mB a m
  · refine ⟨-1, up2 I 0 6 2, L, rm, ?_, RS_r, is8 (up2 I 0 6 2) 2, L, ?_, IV_q h (Q8_is (a := 2)) (RDY_is (RDY_s hR)) is8_0⟩
    · simp (config := { decide := true }) only [f_X7_meet, hs2, hb, obs, bnd_eq, is_0, is_1, is_2, is_3, is_4, is_5, is_6, is_9, tell_eq, refuse_eq, refuse8_eq, b2i_1, b2i_0, if_true, if_false, ↓reduceIte]
    · simp (config := { decide := true }) only [f_X8_meet, am a _ _ (RDY_s (s := 2) hR).2.1, hb, wS_2, obs, bnd_eq, is_0, is_1, is_2, is_3, is_4, is_5, is_6, is_9, tell_eq, refuse_eq, refuse8_eq, b2i_1, b2i_0, if_true, if_false, ↓reduceIte]
  · cases hb2 : mB b m
    · refine ⟨-1, up2 I 0 6 2, L, rm, ?_, RS_r, is8 (up2 I 0 6 2) 2, L, ?_, IV_q h (Q8_is (a := 2)) (RDY_is (RDY_s hR)) is8_0⟩
      · simp (config := { decide := true }) only [f_X7_meet, hs2, hb, hs4, hb2, obs, bnd_eq, is_0, is_1, is_2, is_3, is_4, is_5, is_6, is_9, tell_eq, refuse_eq, refuse8_eq, b2i_1, b2i_0, if_true, if_false, ↓reduceIte]
      · simp (config := { decide := true }) only [f_X8_meet, am a _ _ (RDY_s (s := 2) hR).2.1, hb, am b _ _ (RDY_s (s := 2) hR).2.1, hb2, wS_2, obs, bnd_eq, is_0, is_1, is_2, is_3, is_4, is_5, is_6, is_9, tell_eq, refuse_eq, refuse8_eq, b2i_1, b2i_0, if_true, if_false, ↓reduceIte]
    · rw [hb] at hs2
      rw [hb2] at hs4
      have am1 : ∀ (J : MI) (M : ML), Nw J m mv st → f_X8_areMoves a J M = some true := fun J M hJ => by rw [am a J M hJ, hb]
      have am2 : ∀ (J : MI) (M : ML), Nw J m mv st → f_X8_areMoves b J M = some true := fun J M hJ => by rw [am b J M hJ, hb2]
      rcases hz_3 n N with hz | hz | hz
      · obtain ⟨hN, hn0⟩ := hz_N hz
        rw [hz] at hu
        obtain ⟨s, hs, rfl⟩ := mB_t hb
        obtain ⟨t, ht, rfl⟩ := mB_t hb2
        obtain ⟨nd1, Ia, La, x1, x2, x3⟩ := gat (I := I) (L := L) (cb := 15) hO hC.2.2.1 hs (by decide)
        have f1 : ∀ p, p < 15 ∨ 29 ≤ p → Ia p = I p := fun p hp => x3.1 p (by omega) (by omega) (by omega) (by omega)
        have f2 : ∀ p, p < 15 ∨ 29 ≤ p → La p = L p := fun p hp => x3.2 p (by omega) (by omega) (by omega) (by omega)
        obtain ⟨nd2, Ib, Lb, y1, y2, y3⟩ := gat (I := Ia) (L := La) (cb := 22) hO (fun i hi => by rw [f2 7 (by decide)]; exact hC.2.2.1 i hi) ht (by decide)
        have f3 : ∀ p, p < 15 ∨ 29 ≤ p → Ib p = I p := fun p hp => (y3.1 p (by omega) (by omega) (by omega) (by omega)).trans (f1 p hp)
        have f4 : ∀ p, p < 15 ∨ 29 ≤ p → Lb p = L p := fun p hp => (y3.2 p (by omega) (by omega) (by omega) (by omega)).trans (f2 p hp)
        have g15 : ChG Ib Lb 15 n (Gen n (MS mv s m)) := x2.fr (y3.1 15 (by decide) (by decide) (by decide) (by decide)) (y3.1 16 (by decide) (by decide) (by decide) (by decide)) (y3.1 20 (by decide) (by decide) (by decide) (by decide)) (y3.1 21 (by decide) (by decide) (by decide) (by decide)) (y3.2 15 (by decide) (by decide) (by decide) (by decide)) (y3.2 17 (by decide) (by decide) (by decide) (by decide)) (y3.2 18 (by decide) (by decide) (by decide) (by decide)) (y3.2 19 (by decide) (by decide) (by decide) (by decide))
        have Cb : CI Ib Lb rm n m mv st := hC.gen (fun p hp => f3 p (by omega)) (fun p hp => f4 p (by omega)) (Pz_fr hC.2.2.2.2.2.2.1 (f3 29 (by decide)))
        obtain ⟨I1, L1, rm1, a1, a2⟩ := all_eq hO Cb he hN
        obtain ⟨A1, _, A3⟩ := id a2.2.2.2.2.2.1
        have h15 : ChG I1 L1 15 n (Gen n (MS mv s m)) := g15.fr (A1 15 (by decide) (by decide)) (A1 16 (by decide) (by decide)) (A1 20 (by decide) (by decide)) (A1 21 (by decide) (by decide)) (A3 15 (by decide)) (A3 17 (by decide)) (A3 18 (by decide)) (A3 19 (by decide))
        have h22 : ChG I1 L1 22 n (Gen n (MS mv t m)) := y2.fr (A1 22 (by decide) (by decide)) (A1 23 (by decide) (by decide)) (A1 27 (by decide) (by decide)) (A1 28 (by decide) (by decide)) (A3 22 (by decide)) (A3 24 (by decide)) (A3 25 (by decide)) (A3 26 (by decide))
        obtain ⟨B, hB⟩ := dec_ex (fun x => Gen n (MS mv s m) (e x) ∧ Gen n (MS mv t m) (e x))
        have cc := cib45 hn hG he a2.2.2.2.2.1 h15 h22 (fun x _ => hB x)
        have hcb : CO I L Ib Lb := ⟨fun p hp => f3 p (by omega), fun j _ => by rw [f3 0 (by decide)], f4 39 (by decide), f4 41 (by decide)⟩
        have R0 : RDY Ib n m mv st := hR.of (by rw [f3 43 (by decide)]) (by rw [f3 43 (by decide)]) (f3 44 (by decide)) (f3 52 (by decide)) (f3 53 (by decide))
        have R1 := RDY_a (s := 0) a2 R0
        obtain ⟨J, I3, w1, w2, w3, w4, w5, _⟩ := ref_l (L := L1) hO R1 he hz hN
        obtain ⟨I4, b1, b2', b3, b4, b5, b6⟩ := bld1 (L := L1) (k := 1) hO w3.1.rdy hs (by decide) (by decide)
        obtain ⟨I5, c1, c2, c3, c4, c5, c6⟩ := bld1 (L := L1) (k := 2) hO b3 ht (by decide) (by decide)
        have b1 : f_X8_builds 1 (nI s) I3 L1 = some (I4, L1) := b1
        have c1 : f_X8_builds 2 (nI t) I4 L1 = some (I5, L1) := c1
        obtain ⟨I6, v1, v2⟩ := meet55 (L := L1) hO he hN (by rw [c5 43 (by decide), b5 43 (by decide)]; exact w3.2.1) (fun k hk => Row_of (c5 60 (by decide)) (Row_of (b5 60 (by decide)) (w3.2.2 k hk))) (b2'.frS c6 (by decide)) c2 (fun x _ => hB x)
        refine ⟨nI (cT B N), up2 I1 0 6 0, L1, rm1, ?_, a2.1, I6, L1, ?_, IV_fin h (CI_s a2.2.2.2.1) ((hcb.trans a2.2.2.2.2.2.1.co).trans CO_s) (((w4.trans b4).trans c4).trans (Q8_fr v2 (by decide))) (c3.fr v2 (by decide)) (by rw [up2_s, v2 43 (by decide), c5 43 (by decide), b5 43 (by decide)]; exact w5.symm)⟩
        · have e6 : Ia 6 0 = nI n := by rw [f1 6 (by decide)]; exact hC.1
          simp (config := { decide := true }) only [f_X7_meet, hs2, hs4, hu, nI_0, f_X2_countInBoth, hC.1, x1, e6, y1, a1, a2.kA, a2.kB, cc, obs, bnd_eq, is_0, is_1, is_2, is_3, is_4, is_5, is_6, is_9, tell_eq, refuse_eq, refuse8_eq, b2i_1, b2i_0, if_true, if_false, ↓reduceIte]
        · simp (config := { decide := true }) only [f_X8_meet, am1 _ _ R1.2.1, am2 _ _ R1.2.1, w1, w2, b1, c1, v1, obs, bnd_eq, is_0, is_1, is_2, is_3, is_4, is_5, is_6, is_9, tell_eq, refuse_eq, refuse8_eq, b2i_1, b2i_0, if_true, if_false, ↓reduceIte]
      · rw [hz] at hu
        obtain ⟨I2, b1, b2, b3, b4⟩ := wS (L := L) hO (RDY_s (s := 5) hR) he hz
        refine ⟨-1, up2 I 0 6 5, L, rm, ?_, RS_r, is8 I2 5, L, ?_, IV_q h (b3.trans Q8_is) (RDY_is b2) is8_0⟩
        · simp (config := { decide := true }) only [f_X7_meet, hs2, hs4, hu, show nI 5 = 5 from rfl, obs, bnd_eq, is_0, is_1, is_2, is_3, is_4, is_5, is_6, is_9, tell_eq, refuse_eq, refuse8_eq, b2i_1, b2i_0, if_true, if_false, ↓reduceIte]
        · simp (config := { decide := true }) only [f_X8_meet, am1 _ _ (RDY_s hR).2.1, am2 _ _ (RDY_s hR).2.1, b1, show nI 5 = 5 from rfl, obs, bnd_eq, is_0, is_1, is_2, is_3, is_4, is_5, is_6, is_9, tell_eq, refuse_eq, refuse8_eq, b2i_1, b2i_0, if_true, if_false, ↓reduceIte]
      · rw [hz] at hu
        obtain ⟨I2, b1, b2, b3, b4⟩ := wS (L := L) hO (RDY_s (s := 3) hR) he hz
        refine ⟨-1, up2 I 0 6 3, L, rm, ?_, RS_r, is8 I2 3, L, ?_, IV_q h (b3.trans Q8_is) (RDY_is b2) is8_0⟩
        · simp (config := { decide := true }) only [f_X7_meet, hs2, hs4, hu, show nI 3 = 3 from rfl, obs, bnd_eq, is_0, is_1, is_2, is_3, is_4, is_5, is_6, is_9, tell_eq, refuse_eq, refuse8_eq, b2i_1, b2i_0, if_true, if_false, ↓reduceIte]
        · simp (config := { decide := true }) only [f_X8_meet, am1 _ _ (RDY_s hR).2.1, am2 _ _ (RDY_s hR).2.1, b1, show nI 3 = 3 from rfl, obs, bnd_eq, is_0, is_1, is_2, is_3, is_4, is_5, is_6, is_9, tell_eq, refuse_eq, refuse8_eq, b2i_1, b2i_0, if_true, if_false, ↓reduceIte]
end ME
