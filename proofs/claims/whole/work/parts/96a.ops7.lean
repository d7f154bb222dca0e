/-! Ways -/
section O7
variable {n m N rm : Nat} {mv : Nat → Nat → Nat} {st : Nat → Nat} {I : MI} {L : ML} {e : Nat → Nat → Nat} {dp kk : Nat → Nat}
def wtail (a : Int32) (J : MI) (L : ML) : Option (Int32 × Mm) :=
  Option.bind (f_X8_isMember 0 47 J L) (fun q_5 =>
  if (b2i q_5.1) = 0 then
  Option.bind (f_X8_refuse 6 q_5.2.1 q_5.2.2) (fun q_9 =>
  some (q_9.1, q_9.2.1, q_9.2.2))
  else
  Option.bind (f_X8_laysDepths q_5.2.1 q_5.2.2) (fun q_6 =>
  Option.bind (f_X8_wayTo 47 a q_6.1 q_6.2) (fun q_7 =>
  Option.bind (f_X8_there q_7.1 q_7.2.1 q_7.2.2) (fun q_8 =>
  some (q_8.1, q_8.2.1, q_8.2.2)))))
/-- class and reference tell the way to one alike -/
theorem tellWay_eq {p : Nat → Nat} {a : Int32} (hO : OKm n m mv st) (hC : CI I L rm n m mv st) (he : EL n (Gp n m mv) N e) (hz : hz n N = 0) (hp : IsP n p) (ha : a = -1 ∨ ∃ k, k < 2 ^ 31 ∧ a = nI k) : ∃ I1 L1 rm1 r s, f_X7_tellWay rm (tn n p) a I L = some ((r, up2 I1 0 6 s, L1), rm1) ∧ GD rm I L n m mv st N e I1 L1 rm1 ∧ ∀ J, BD J n m mv st → Row J 47 0 p → J 43 0 = 0 → ∃ I', wtail a J L1 = some (r, I', L1) ∧ RDY I' n m mv st ∧ Q8 J I' ∧ I' 43 0 = s := by
  have hn := hO.1
  have hG := Gp_Sub hn hO.2.2.1
  have hu := hurdle_eq hO hC he
  obtain ⟨hN, hn0⟩ := hz_N hz
  rw [hz] at hu
  obtain ⟨I1, L1, rm1, a1, a2, dp, kk, nx, D, d1, d2, d3, d4, d5, d6, d7, d8, d9⟩ := measured_eq hO hC he hN
  have hl : ∀ x, x < N → dp x < N := fun x hx => DK_lt hn hO.2.1 hO.2.2.1 he d1 hx
  have hNr := a2.2.2.2.2.1.2.2.2.1
  have hr5 := a2.2.2.1
  obtain ⟨r, r1, r2⟩ := find_eq hn hG he a2.2.2.2.2.1 hp
  rcases r2 with ⟨x, x1, x2, x3⟩ | ⟨g, x3⟩
  · subst x3
    have hxl := hl x x1
    have xp : 0 ≤ nI x := nI_pos' (show x < 2 ^ 31 by omega)
    have ref : ∀ J, BD J n m mv st → Row J 47 0 p → J 43 0 = 0 → ∃ I3 I4, f_X8_isMember 0 47 J L1 = some (true, I3, L1) ∧ f_X8_laysDepths I3 L1 = some (I4, L1) ∧ AD I4 n m mv st N e ∧ (∀ x, x < N → I4 61 x = nI (dp x)) ∧ Row I4 47 0 (e x) ∧ Q8 J I4 ∧ I4 43 0 = 0 := fun J hJ hr h0 => by
      obtain ⟨I3, g1, g2⟩ := isMemberG (L := L1) (s := 0) (by decide) hJ.2.2.1 (a := 47) (by decide) hr (IsP_mono hp hn) (c := true) ⟨fun _ => x2 ▸ he.1 x x1, fun _ => rfl⟩
      rw [nI_0] at g1
      obtain ⟨I4, k1, k2, k3, k4, k5, k6⟩ := ref_d (L := L1) hO (hJ.fr g2 (by decide)).rdy he hN d1
      exact ⟨I3, I4, g1, k1, k2, k3, by rw [x2]; exact Row_of (k6 47 (by decide)) (Row_of (g2 47 (by decide)) hr), (Q8_fr g2 (by decide)).trans k4, by rw [k5, g2 43 (by decide)]; exact h0⟩
    rcases ha with rfl | ⟨k, hk, rfl⟩
    · refine ⟨I1, L1, rm1, nI (dp x), 0, ?_, a2, fun J hJ hr h0 => ?_⟩
      · simp (config := { decide := true }) only [f_X7_tellWay, hu, nI_0, a1, a2.kA, a2.kB, r1, xp, q_chk (show x < rm1 by omega) (show rm1 < 2 ^ 31 by omega), q_ix (show x < 2 ^ 31 by omega), d7 x x1, obs, bnd_eq, is_0, is_1, is_2, is_3, is_4, is_5, is_6, is_9, tell_eq, refuse_eq, refuse8_eq, b2i_1, b2i_0, if_true, if_false, ↓reduceIte]
      · obtain ⟨I3, I4, w1, w2, w3, w4, w5, w6, w7⟩ := ref J hJ hr h0
        obtain ⟨⟨I5, v1, v2⟩, _, _⟩ := wayTo_eq (L := L1) (k := 0) hO he hN d1 w3 w4 x1 (show 47 ≠ 46 by decide) w5
        refine ⟨I5, ?_, (w3.fr v2 (by decide)).1.rdy, w6.trans (Q8_fr v2 (by decide)), by rw [v2 43 (by decide)]; exact w7⟩
        simp (config := { decide := true }) only [wtail, w1, w2, v1, f_X8_there, nI_nm1 (show dp x < 2 ^ 31 by omega), obs, bnd_eq, is_0, is_1, is_2, is_3, is_4, is_5, is_6, is_9, tell_eq, refuse_eq, refuse8_eq, b2i_1, b2i_0, if_true, if_false, ↓reduceIte]
    · have km := nI_nm1 hk
      by_cases c1 : k < dp x
      · have c2 : nI k < nI (dp x) := by rw [q_lt hk (by omega)]; exact c1
        refine ⟨I1, L1, rm1, nI (kk x / 12 ^ (dp x - 1 - k) % 12), 0, ?_, a2, fun J hJ hr h0 => ?_⟩
        · simp (config := { decide := true }) only [f_X7_tellWay, hu, nI_0, a1, a2.kA, a2.kB, r1, xp, km, q_chk (show x < rm1 by omega) (show rm1 < 2 ^ 31 by omega), q_ix (show x < 2 ^ 31 by omega), d7 x x1, c2, stepOfWay_eq (L := L1) hn hO.2.2.1 hO.2.1 he d1 d2 hNr hr5 d7 d8 d9 x1 c1, obs, bnd_eq, is_0, is_1, is_2, is_3, is_4, is_5, is_6, is_9, tell_eq, refuse_eq, refuse8_eq, b2i_1, b2i_0, if_true, if_false, ↓reduceIte]
        · obtain ⟨I3, I4, w1, w2, w3, w4, w5, w6, w7⟩ := ref J hJ hr h0
          obtain ⟨_, _, v⟩ := wayTo_eq (L := L1) (k := k) hO he hN d1 w3 w4 x1 (show 47 ≠ 46 by decide) w5
          obtain ⟨I5, v1, v2⟩ := v c1
          refine ⟨I5, ?_, (w3.fr v2 (by decide)).1.rdy, w6.trans (Q8_fr v2 (by decide)), by rw [v2 43 (by decide)]; exact w7⟩
          simp (config := { decide := true }) only [wtail, w1, w2, v1, f_X8_there, nI_nm1 (show kk x / 12 ^ (dp x - 1 - k) % 12 < 2 ^ 31 by omega), obs, bnd_eq, is_0, is_1, is_2, is_3, is_4, is_5, is_6, is_9, tell_eq, refuse_eq, refuse8_eq, b2i_1, b2i_0, if_true, if_false, ↓reduceIte]
      · have c2 : ¬ nI k < nI (dp x) := by rw [q_lt hk (by omega)]; exact c1
        refine ⟨I1, L1, rm1, -1, 5, ?_, a2, fun J hJ hr h0 => ?_⟩
        · simp (config := { decide := true }) only [f_X7_tellWay, hu, nI_0, a1, a2.kA, a2.kB, r1, xp, km, q_chk (show x < rm1 by omega) (show rm1 < 2 ^ 31 by omega), q_ix (show x < 2 ^ 31 by omega), d7 x x1, c2, obs, bnd_eq, is_0, is_1, is_2, is_3, is_4, is_5, is_6, is_9, tell_eq, refuse_eq, refuse8_eq, b2i_1, b2i_0, if_true, if_false, ↓reduceIte]
        · obtain ⟨I3, I4, w1, w2, w3, w4, w5, w6, w7⟩ := ref J hJ hr h0
          obtain ⟨_, v, _⟩ := wayTo_eq (L := L1) (k := k) hO he hN d1 w3 w4 x1 (show 47 ≠ 46 by decide) w5
          obtain ⟨I5, v1, v2⟩ := v hk (by omega)
          refine ⟨up2 I5 43 0 5, ?_, RDY_r (w3.fr v2 (by decide)).1.rdy, (w6.trans (Q8_fr v2 (by decide))).trans Q8_r, up2_s⟩
          simp (config := { decide := true }) only [wtail, w1, w2, v1, f_X8_there, obs, bnd_eq, is_0, is_1, is_2, is_3, is_4, is_5, is_6, is_9, tell_eq, refuse_eq, refuse8_eq, b2i_1, b2i_0, if_true, if_false, ↓reduceIte]
  · subst x3
    refine ⟨I1, L1, rm1, -1, 6, ?_, a2, fun J hJ hr h0 => ?_⟩
    · simp (config := { decide := true }) only [f_X7_tellWay, hu, nI_0, a1, a2.kA, a2.kB, r1, obs, bnd_eq, is_0, is_1, is_2, is_3, is_4, is_5, is_6, is_9, tell_eq, refuse_eq, refuse8_eq, b2i_1, b2i_0, if_true, if_false, ↓reduceIte]
    · obtain ⟨I3, g1, g2⟩ := isMemberG (L := L1) (s := 0) (by decide) hJ.2.2.1 (a := 47) (by decide) hr (IsP_mono hp hn) (c := false) ⟨(fun h => by cases h), fun h => absurd h g⟩
      rw [nI_0] at g1
      refine ⟨up2 I3 43 0 6, ?_, RDY_r (hJ.fr g2 (by decide)).rdy, (Q8_fr g2 (by decide)).trans Q8_r, up2_s⟩
      simp (config := { decide := true }) only [wtail, g1, obs, bnd_eq, is_0, is_1, is_2, is_3, is_4, is_5, is_6, is_9, tell_eq, refuse_eq, refuse8_eq, b2i_1, b2i_0, if_true, if_false, ↓reduceIte]
theorem way_tail {a : Int32} {x : Int64} {p : Nat → Nat} {J : MI} (c : ¬ a < -1) (e2 : f_X8_lies x 47 I L = some (true, wp I 47 0 p, L)) (hw : f_X8_whySmall 0 (wp I 47 0 p) L = some (0, J, L)) : f_X8_way x a I L = wtail a (is8 J 0) L := by
  unfold f_X8_way wtail
  rw [ob e2]
  simp only [bnd_eq]
  rw [if_neg b2i_t, if_neg c]
  show Option.bind (f_X8_whySmall 0 (wp I 47 0 p) L) _ = _
  rw [ob hw]
  dsimp only
  rw [ob is_0]
  dsimp only
  rw [if_neg b2i_t]
theorem PR_21h : PR_21 Inv := by
  intro I L rm x a ⟨n, m, mv, st, h⟩
  obtain ⟨hO, hC, hR, hP, hT, hU, hF, hS⟩ := id h
  have hn := hO.1
  have hG := Gp_Sub hn hO.2.2.1
  obtain ⟨N, e, he⟩ := EL_ex hn hG
  have hu := hurdle_eq hO hC he
  rcases rd hn x with ⟨p, hp, h0, e1, e2⟩ | ⟨e1, e2⟩
  · by_cases h1 : a < -1
    · have c1 : ¬ -1 ≤ a := Int32.not_le.mpr h1
      have j3 : Fr [47] (up2 I 0 6 1) (wp (up2 I 0 6 1) 47 0 p) := Fr_wp (by decide)
      refine ⟨-1, up2 I 0 6 1, L, rm, ?_, RS_r, _, L, ?_, IV_q h ((Q8_fr j3 (by decide)).trans (Q8_is (a := 1))) (RDY_is ((RDY_s hR).fr j3 (by decide))) is8_0⟩
      · simp (config := { decide := true }) only [f_X7_way, read_eq hC.1 e1, cmp_tn' hn hp, c1, obs, bnd_eq, is_0, is_1, is_2, is_3, is_4, is_5, is_6, is_9, tell_eq, refuse_eq, refuse8_eq, b2i_1, b2i_0, if_true, if_false, ↓reduceIte]
      · simp (config := { decide := true }) only [f_X8_way, e2 47 _ L (by decide) (RDY_s (s := 1) hR).1, h1, wS_1, obs, bnd_eq, is_0, is_1, is_2, is_3, is_4, is_5, is_6, is_9, tell_eq, refuse_eq, refuse8_eq, b2i_1, b2i_0, if_true, if_false, ↓reduceIte]
    · have c1 : -1 ≤ a := Int32.not_lt.mp h1
      have ha : a = -1 ∨ ∃ k, k < 2 ^ 31 ∧ a = nI k := by
        rcases neg1_cases a with g | g | g
        · exact absurd g h1
        · exact Or.inl g
        · exact Or.inr g
      rcases hz_3 n N with hz | hz | hz
      · obtain ⟨I1, L1, rm1, r, s, a1, a2, a3⟩ := tellWay_eq hO hC he hz hp ha
        have hR1 := RDY_a (s := s) a2 hR
        have j3 : Fr [47] (up2 I1 0 6 s) (wp (up2 I1 0 6 s) 47 0 p) := Fr_wp (by decide)
        obtain ⟨J, b1, b2, b3, b4⟩ := wS0 (L := L1) hO (hR1.fr j3 (by decide)) he hz
        obtain ⟨I', w1, w2, w3, w4⟩ := a3 (is8 J 0) (BD_is b2) (Row_is (by decide) (Row_of (b4 47 (by decide)) Row_wp)) is8_0
        refine ⟨r, up2 I1 0 6 s, L1, rm1, ?_, a2.1, I', L1, ?_, IV_a h a2 ((((Q8_fr j3 (by decide)).trans b3).trans Q8_is).trans w3) w2 w4⟩
        · simp (config := { decide := true }) only [f_X7_way, read_eq hC.1 e1, cmp_tn' hn hp, c1, a1, a2.kA, obs, bnd_eq, is_0, is_1, is_2, is_3, is_4, is_5, is_6, is_9, tell_eq, refuse_eq, refuse8_eq, b2i_1, b2i_0, if_true, if_false, ↓reduceIte]
        · rw [way_tail h1 (e2 47 _ L1 (by decide) hR1.1) b1]; exact w1
      · rw [hz] at hu
        have j3 : Fr [47] (up2 I 0 6 5) (wp (up2 I 0 6 5) 47 0 p) := Fr_wp (by decide)
        obtain ⟨I2, b1, b2, b3, b4⟩ := wS (L := L) hO ((RDY_s (s := 5) hR).fr j3 (by decide)) he hz
        refine ⟨-1, up2 I 0 6 5, L, rm, ?_, RS_r, is8 I2 5, L, ?_, IV_q h (((Q8_fr j3 (by decide)).trans b3).trans Q8_is) (RDY_is b2) is8_0⟩
        · simp (config := { decide := true }) only [f_X7_way, read_eq hC.1 e1, cmp_tn' hn hp, c1, f_X7_tellWay, chk_pos (decide_eq_true hC.2.2.2.2.2.2.2.2.2.1), hu, show nI 5 = 5 from rfl, obs, bnd_eq, is_0, is_1, is_2, is_3, is_4, is_5, is_6, is_9, tell_eq, refuse_eq, refuse8_eq, b2i_1, b2i_0, if_true, if_false, ↓reduceIte]
        · simp (config := { decide := true }) only [f_X8_way, e2 47 _ L (by decide) (RDY_s (s := 5) hR).1, h1, b1, show nI 5 = 5 from rfl, obs, bnd_eq, is_0, is_1, is_2, is_3, is_4, is_5, is_6, is_9, tell_eq, refuse_eq, refuse8_eq, b2i_1, b2i_0, if_true, if_false, ↓reduceIte]
      · rw [hz] at hu
        have j3 : Fr [47] (up2 I 0 6 3) (wp (up2 I 0 6 3) 47 0 p) := Fr_wp (by decide)
        obtain ⟨I2, b1, b2, b3, b4⟩ := wS (L := L) hO ((RDY_s (s := 3) hR).fr j3 (by decide)) he hz
        refine ⟨-1, up2 I 0 6 3, L, rm, ?_, RS_r, is8 I2 3, L, ?_, IV_q h (((Q8_fr j3 (by decide)).trans b3).trans Q8_is) (RDY_is b2) is8_0⟩
        · simp (config := { decide := true }) only [f_X7_way, read_eq hC.1 e1, cmp_tn' hn hp, c1, f_X7_tellWay, chk_pos (decide_eq_true hC.2.2.2.2.2.2.2.2.2.1), hu, show nI 3 = 3 from rfl, obs, bnd_eq, is_0, is_1, is_2, is_3, is_4, is_5, is_6, is_9, tell_eq, refuse_eq, refuse8_eq, b2i_1, b2i_0, if_true, if_false, ↓reduceIte]
        · simp (config := { decide := true }) only [f_X8_way, e2 47 _ L (by decide) (RDY_s (s := 3) hR).1, h1, b1, show nI 3 = 3 from rfl, obs, bnd_eq, is_0, is_1, is_2, is_3, is_4, is_5, is_6, is_9, tell_eq, refuse_eq, refuse8_eq, b2i_1, b2i_0, if_true, if_false, ↓reduceIte]
  · obtain ⟨I', f1, f2⟩ := e2 47 (up2 I 0 6 1) L (by decide) (RDY_s (s := 1) hR).1
    refine ⟨-1, up2 I 0 6 1, L, rm, ?_, RS_r, _, L, ?_, IV_q h ((Q8_fr f2 (by decide)).trans (Q8_is (a := 1))) (RDY_is ((RDY_s hR).fr f2 (by decide))) is8_0⟩
    · simp (config := { decide := true }) only [f_X7_way, read_eq hC.1 e1, cmp_m1', obs, bnd_eq, is_0, is_1, is_2, is_3, is_4, is_5, is_6, is_9, tell_eq, refuse_eq, refuse8_eq, b2i_1, b2i_0, if_true, if_false, ↓reduceIte]
    · simp (config := { decide := true }) only [f_X8_way, f1, wS_1, obs, bnd_eq, is_0, is_1, is_2, is_3, is_4, is_5, is_6, is_9, tell_eq, refuse_eq, refuse8_eq, b2i_1, b2i_0, if_true, if_false, ↓reduceIte]
theorem solve_tail {a : Int32} {p : Nat → Nat} {J : MI} (hp : IsP 10 p) (c : ¬ a < -1) (hw : f_X8_whySmall 0 I L = some (0, J, L)) (e2 : f_X8_laysStand 46 (is8 J 0) L = some (wp (is8 J 0) 46 0 p, L)) : f_X8_solve a I L = wtail a (wp (wp (is8 J 0) 46 0 p) 47 0 (iv p)) L := by
  unfold f_X8_solve wtail
  simp only [bnd_eq]
  rw [if_neg c]
  show Option.bind (f_X8_whySmall 0 I L) _ = _
  rw [ob hw]
  dsimp only
  rw [ob is_0]
  dsimp only
  rw [if_neg b2i_t, ob e2]
  dsimp only
  rw [ob (inverts_eq Row_wp hp (by decide))]
theorem PR_26h : PR_26 Inv := by
  intro I L rm a ⟨n, m, mv, st, h⟩
  obtain ⟨hO, hC, hR, hP, hT, hU, hF, hS⟩ := id h
  have hn := hO.1
  have hG := Gp_Sub hn hO.2.2.1
  obtain ⟨N, e, he⟩ := EL_ex hn hG
  have hu := hurdle_eq hO hC he
  have iv1 := invert_eq hn hO.2.2.2
  by_cases h1 : a < -1
  · have c1 : ¬ -1 ≤ a := Int32.not_le.mpr h1
    refine ⟨-1, up2 I 0 6 1, L, rm, ?_, RS_r, is8 (up2 I 0 6 1) 1, L, ?_, IV_q h (Q8_is (a := 1)) (RDY_is (RDY_s hR)) is8_0⟩
    · simp (config := { decide := true }) only [f_X7_solve, c1, obs, bnd_eq, is_0, is_1, is_2, is_3, is_4, is_5, is_6, is_9, tell_eq, refuse_eq, refuse8_eq, b2i_1, b2i_0, if_true, if_false, ↓reduceIte]
    · simp (config := { decide := true }) only [f_X8_solve, h1, wS_1, obs, bnd_eq, is_0, is_1, is_2, is_3, is_4, is_5, is_6, is_9, tell_eq, refuse_eq, refuse8_eq, b2i_1, b2i_0, if_true, if_false, ↓reduceIte]
  · have c1 : -1 ≤ a := Int32.not_lt.mp h1
    have ha : a = -1 ∨ ∃ k, k < 2 ^ 31 ∧ a = nI k := by
      rcases neg1_cases a with g | g | g
      · exact absurd g h1
      · exact Or.inl g
      · exact Or.inr g
    rcases hz_3 n N with hz | hz | hz
    · obtain ⟨I1, L1, rm1, r, s, a1, a2, a3⟩ := tellWay_eq hO hC he hz (IsP_iv hn hO.2.2.2) ha
      obtain ⟨J, b1, b2, b3, b4⟩ := wS0 (L := L1) hO (RDY_a (s := s) a2 hR) he hz
      have B2 := BD_is (a := 0) b2
      have f1 : Fr [46, 47] (is8 J 0) (wp (wp (is8 J 0) 46 0 st) 47 0 (iv st)) := (Fr_wp (by decide)).trans (Fr_wp (by decide))
      obtain ⟨I', w1, w2, w3, w4⟩ := a3 (wp (wp (is8 J 0) 46 0 st) 47 0 (iv st)) (B2.fr f1 (by decide)) Row_wp (by rw [f1 43 (by decide)]; exact is8_0)
      refine ⟨r, up2 I1 0 6 s, L1, rm1, ?_, a2.1, I', L1, ?_, IV_a h a2 (((b3.trans Q8_is).trans (Q8_fr f1 (by decide))).trans w3) w2 w4⟩
      · simp (config := { decide := true }) only [f_X7_solve, c1, hC.2.2.2.1, hC.1, iv1, a1, a2.kA, obs, bnd_eq, is_0, is_1, is_2, is_3, is_4, is_5, is_6, is_9, tell_eq, refuse_eq, refuse8_eq, b2i_1, b2i_0, if_true, if_false, ↓reduceIte]
      · rw [solve_tail (IsP_mono hO.2.2.2 hn) h1 b1 (laysStand_eq B2.2.1 (by decide))]; exact w1
    · rw [hz] at hu
      obtain ⟨I2, b1, b2, b3, b4⟩ := wS (L := L) hO (RDY_s (s := 5) hR) he hz
      refine ⟨-1, up2 I 0 6 5, L, rm, ?_, RS_r, is8 I2 5, L, ?_, IV_q h (b3.trans Q8_is) (RDY_is b2) is8_0⟩
      · simp (config := { decide := true }) only [f_X7_solve, c1, hC.2.2.2.1, hC.1, iv1, f_X7_tellWay, chk_pos (decide_eq_true hC.2.2.2.2.2.2.2.2.2.1), hu, show nI 5 = 5 from rfl, obs, bnd_eq, is_0, is_1, is_2, is_3, is_4, is_5, is_6, is_9, tell_eq, refuse_eq, refuse8_eq, b2i_1, b2i_0, if_true, if_false, ↓reduceIte]
      · simp (config := { decide := true }) only [f_X8_solve, h1, b1, show nI 5 = 5 from rfl, obs, bnd_eq, is_0, is_1, is_2, is_3, is_4, is_5, is_6, is_9, tell_eq, refuse_eq, refuse8_eq, b2i_1, b2i_0, if_true, if_false, ↓reduceIte]
    · rw [hz] at hu
      obtain ⟨I2, b1, b2, b3, b4⟩ := wS (L := L) hO (RDY_s (s := 3) hR) he hz
      refine ⟨-1, up2 I 0 6 3, L, rm, ?_, RS_r, is8 I2 3, L, ?_, IV_q h (b3.trans Q8_is) (RDY_is b2) is8_0⟩
      · simp (config := { decide := true }) only [f_X7_solve, c1, hC.2.2.2.1, hC.1, iv1, f_X7_tellWay, chk_pos (decide_eq_true hC.2.2.2.2.2.2.2.2.2.1), hu, show nI 3 = 3 from rfl, obs, bnd_eq, is_0, is_1, is_2, is_3, is_4, is_5, is_6, is_9, tell_eq, refuse_eq, refuse8_eq, b2i_1, b2i_0, if_true, if_false, ↓reduceIte]
      · simp (config := { decide := true }) only [f_X8_solve, h1, b1, show nI 3 = 3 from rfl, obs, bnd_eq, is_0, is_1, is_2, is_3, is_4, is_5, is_6, is_9, tell_eq, refuse_eq, refuse8_eq, b2i_1, b2i_0, if_true, if_false, ↓reduceIte]
end O7
