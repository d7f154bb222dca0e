/-! Shapes of all the ones -/
section SP
variable {n m N rm : Nat} {mv : Nat → Nat → Nat} {st : Nat → Nat} {I : MI} {L : ML} {e : Nat → Nat → Nat} {p : Nat → Nat}
abbrev sy (n : Nat) (p : Nat → Nat) : Nat := cT (fun i => decide (p i = i)) n
theorem shaped_eq (hO : OKm n m mv st) (hC : CI I L rm n m mv st) (he : EL n (Gp n m mv) N e) (hN : N ≤ 5040) : ∃ I1 L1 rm1, f_X2_shaped rm I L = some ((I1, L1), rm1) ∧ GD rm I L n m mv st N e I1 L1 rm1 ∧ Shp L1 n N e := by
  have hn := hO.1
  have hG := Gp_Sub hn hO.2.2.1
  obtain ⟨I1, L1, rm1, a1, a2⟩ := all_eq hO hC he hN
  obtain ⟨b1, b2, b3, b4, b5, b6, b7, b8, b9, b10⟩ := id a2
  have hNr := b5.2.2.2.1
  unfold f_X2_shaped
  rw [ob a1]
  dsimp only
  rw [a2.kA, a2.kB]
  rcases b10 with g | ⟨g1, g2⟩
  · have key : ∃ L2, f_X4_shapeAll rm1 I1 L1 = some (up2 I1 69 15 1, L2) ∧ (∀ q, q ≠ 73 → L2 q = L1 q) ∧ Shp L2 n N e := by
      unfold f_X4_shapeAll
      rw [if_pos g]
      exact loop0 (fun fu (z : Int32 × ML) => f_X4_shapeAll_10 rm1 I1 (fun (L_6 : ML) => bnd (up2 I1 69 15 1) (fun I_7 => some (I_7, L_6))) fu z.1 z.2) (fun i z => i ≤ N ∧ z.1 = nI i ∧ (∀ q, q ≠ 73 → z.2 q = L1 q) ∧ ∀ x, x < i → z.2 73 x = lN (SH (e x) n)) (fun o => ∃ L2, o = some (up2 I1 69 15 1, L2) ∧ (∀ q, q ≠ 73 → L2 q = L1 q) ∧ Shp L2 n N e) N (by omega) (nI 0, L1) ⟨Nat.zero_le _, rfl, fun _ _ => rfl, fun x hx => by omega⟩
        (fun fu i z hi hP => by
          obtain ⟨z1, M⟩ := z
          obtain ⟨_, p1, p2, p3⟩ := hP
          dsimp only at p1 p2 p3 ⊢
          subst p1
          rw [f_X4_shapeAll_10, b5.2.1, ifc (q_le (by omega) (by omega))]
          by_cases c1 : N ≤ i
          · left
            rw [if_pos c1, bnd_eq]
            exact ⟨M, rfl, p2, fun x hx => p3 x (by omega)⟩
          · right
            have e72 : M 72 i = tn n (e i) := by rw [p2 72 (by decide)]; exact b5.2.2.2.2.2 i (by omega)
            refine ⟨by omega, (nI (i + 1), up2 M 73 i (lN (SH (e i) n))), ?_, by omega, rfl, fun q hq => ?_, fun x hx => ?_⟩
            · rw [if_neg c1, q_chk (by omega) (by omega), q_ix (by omega), e72, b5.2.2.1, ob (shape_eq hn (EL_P hG he (by omega))), q_chk (by omega) (by omega), bnd_eq, bnd_eq, nI_1]
            · dsimp only
              rw [up2_ne hq]; exact p2 q hq
            · dsimp only
              by_cases e1 : x = i
              · rw [e1, up2_s]
              · rw [up2_n e1]; exact p3 x (by omega))
    obtain ⟨L2, k1, k2, k3⟩ := key
    rw [ob k1]
    have A2 : AF I L (up2 I1 69 15 1) L2 := b6.trans ⟨fun p hp _ => up2_ne (by omega), fun j _ => by rw [up2_ne (by decide)], fun p hp => k2 p (by omega)⟩
    have Ls2 : Lst (up2 I1 69 15 1) L2 rm1 n N e := by
      obtain ⟨d1, d2, d3, d4, d5, d6⟩ := b5
      exact ⟨by rw [up2_n (by decide)]; exact d1, by rw [up2_n (by decide)]; exact d2, by rw [up2_n (by decide)]; exact d3, d4, d5, fun x hx => by rw [k2 72 (by decide)]; exact d6 x hx⟩
    have e6 : up2 I1 69 15 1 6 11 = 1 := by rw [up2_ne (by decide)]; exact b7
    have F2 : FL (up2 I1 69 15 1) L2 n m mv N e := by
      refine ⟨?_, ?_, Or.inr ⟨up2_s, k3⟩⟩
      · rw [up2_n (by decide)]
        exact b8.imp id (fun ⟨w1, w2⟩ => ⟨w1, w2.fr (up2_n (by decide)) (up2_n (by decide)) (up2_ne (by decide)) (up2_ne (by decide)) (fun s => up2_ne (by omega))⟩)
      · rw [up2_n (by decide)]
        refine b9.imp id (fun ⟨w1, w2⟩ => ⟨w1, ?_⟩)
        unfold Srt at w2 ⊢
        rw [up2_n (by decide), up2_ne (by decide)]; exact w2
    exact ⟨_, _, _, rfl, ⟨b1, b2, b3, CI_ros hC A2 ⟨b3, fun _ => Ls2.1, Or.inr ⟨e6, b2, N, e, he, Ls2, F2⟩⟩, Ls2, A2, e6, F2⟩, k3⟩
  · have : f_X4_shapeAll rm1 I1 L1 = some (I1, L1) := by
      unfold f_X4_shapeAll
      rw [if_neg (by rw [g1]; decide)]
    rw [ob this]
    exact ⟨_, _, _, rfl, a2, g2⟩
theorem countStaying_eq {a : Int32} (hn : n ≤ 10) (hG : Sub n (Gp n m mv)) (he : EL n (Gp n m mv) N e) (hL : Lst I L rm n N e) (hS : Shp L n N e) : f_X4_countStaying rm a I L = some (nI (cT (fun x => decide (nI (sy n (e x)) = a)) N)) := by
  have l3 := hL.2.2.2.1
  have l4 := hL.2.2.2.2.1
  unfold f_X4_countStaying
  have := for0 (fun fu z => f_X4_countStaying_4 rm a I L fu z.1 z.2) (fun i => (nI (cT (fun x => decide (nI (sy n (e x)) = a)) i), nI i)) N (some (nI (cT (fun x => decide (nI (sy n (e x)) = a)) N))) (by omega)
    (fun fu => by
      dsimp only
      rw [f_X4_countStaying_4, hL.2.1, if_pos (by rw [q_le (by omega) (by omega)]; omega)])
    (fun fu i hi => by
      dsimp only
      rw [f_X4_countStaying_4, hL.2.1, if_neg (by rw [q_le (by omega) (by omega)]; omega), q_chk (by omega) (by omega), q_ix (by omega), hS i hi, ob (staying_eq hn (EL_P hG he hi))]
      by_cases c : nI (sy n (e i)) = a
      · rw [if_pos c, bnd_eq, bnd_eq, nI_1, nI_1, cT_t (P := (fun x => decide (nI (sy n (e x)) = a))) (decide_eq_true c)]
      · rw [if_neg c, bnd_eq, nI_1, cT_f (P := (fun x => decide (nI (sy n (e x)) = a))) (decide_eq_false c)])
  rw [nI_0] at this
  exact this
theorem countPeriod_eq {a : Int32} (hn : n ≤ 10) (hG : Sub n (Gp n m mv)) (he : EL n (Gp n m mv) N e) (hL : Lst I L rm n N e) (hS : Shp L n N e) : f_X4_countPeriod rm a I L = some (nI (cT (fun x => decide (nI (lcf (e x) n) = a)) N)) := by
  have l3 := hL.2.2.2.1
  have l4 := hL.2.2.2.2.1
  unfold f_X4_countPeriod
  have := for0 (fun fu z => f_X4_countPeriod_4 rm a I L fu z.1 z.2) (fun i => (nI (cT (fun x => decide (nI (lcf (e x) n) = a)) i), nI i)) N (some (nI (cT (fun x => decide (nI (lcf (e x) n) = a)) N))) (by omega)
    (fun fu => by
      dsimp only
      rw [f_X4_countPeriod_4, hL.2.1, if_pos (by rw [q_le (by omega) (by omega)]; omega)])
    (fun fu i hi => by
      dsimp only
      rw [f_X4_countPeriod_4, hL.2.1, if_neg (by rw [q_le (by omega) (by omega)]; omega), q_chk (by omega) (by omega), q_ix (by omega), hS i hi, ob (period_eq hn (EL_P hG he hi))]
      by_cases c : nI (lcf (e i) n) = a
      · rw [if_pos c, bnd_eq, bnd_eq, nI_1, nI_1, cT_t (P := (fun x => decide (nI (lcf (e x) n) = a))) (decide_eq_true c)]
      · rw [if_neg c, bnd_eq, nI_1, cT_f (P := (fun x => decide (nI (lcf (e x) n) = a))) (decide_eq_false c)])
  rw [nI_0] at this
  exact this
theorem countShaped_eq {v : Int64} (hL : Lst I L rm n N e) (hS : Shp L n N e) : f_X4_countShaped rm v I L = some (nI (cT (fun x => decide (lN (SH (e x) n) = v)) N)) := by
  have l3 := hL.2.2.2.1
  have l4 := hL.2.2.2.2.1
  unfold f_X4_countShaped
  have := for0 (fun fu z => f_X4_countShaped_5 rm v I L fu z.1 z.2) (fun i => (nI (cT (fun x => decide (lN (SH (e x) n) = v)) i), nI i)) N (some (nI (cT (fun x => decide (lN (SH (e x) n) = v)) N))) (by omega)
    (fun fu => by
      dsimp only
      rw [f_X4_countShaped_5, hL.2.1, if_pos (by rw [q_le (by omega) (by omega)]; omega)])
    (fun fu i hi => by
      dsimp only
      rw [f_X4_countShaped_5, hL.2.1, if_neg (by rw [q_le (by omega) (by omega)]; omega), q_chk (by omega) (by omega), q_ix (by omega), hS i hi, ifc (q_cmp0 _ _)]
      by_cases c : lN (SH (e i) n) = v
      · rw [if_pos c, bnd_eq, bnd_eq, nI_1, nI_1, cT_t (P := fun x => decide (lN (SH (e x) n) = v)) (decide_eq_true c)]
      · rw [if_neg c, bnd_eq, nI_1, cT_f (P := fun x => decide (lN (SH (e x) n) = v)) (decide_eq_false c)])
  rw [nI_0] at this
  exact this
theorem fixing38_eq {a : Int32} (hO : OKm n m mv st) (he : EL n (Gp n m mv) N e) (hN : N ≤ 5040) (hA : AD I n m mv st N e) : ∃ I', f_X8_fixing_38 a FU 0 0 I L = some (nI (cT (fun x => decide (nI (sy n (e x)) = a)) N), I', L) ∧ Fr [46] I I' := by
  have hn := hO.1
  have hG := Gp_Sub hn hO.2.2.1
  have := loop0 (fun fu (z : Int32 × Int32 × MI × ML) => f_X8_fixing_38 a fu z.1 z.2.1 z.2.2.1 z.2.2.2) (fun i z => i ≤ N ∧ z.1 = nI (cT (fun x => decide (nI (sy n (e x)) = a)) i) ∧ z.2.1 = nI i ∧ z.2.2.2 = L ∧ Fr [46] I z.2.2.1) (fun o => ∃ I', o = some (nI (cT (fun x => decide (nI (sy n (e x)) = a)) N), I', L) ∧ Fr [46] I I') N (by omega) (nI 0, nI 0, I, L) ⟨Nat.zero_le _, rfl, rfl, rfl, Fr.refl⟩
    (fun fu i z hi hP => by
      obtain ⟨z1, z2, K, M⟩ := z
      obtain ⟨_, p1, p2, p3, p4⟩ := hP
      dsimp only at p1 p2 p3 p4 ⊢
      subst p1 p2 p3
      have A := hA.fr p4 (by decide)
      rw [f_X8_fixing_38, A.2.1, ifc (q_le (by omega) (by omega))]
      by_cases c1 : N ≤ i
      · left
        rw [if_pos c1, show i = N by omega]
        exact ⟨K, rfl, p4⟩
      · right
        have eP := EL_P hG he (show i < N by omega)
        have f1 : Fr [46] I (wp K 46 0 (e i)) := p4.trans (Fr_wp (by decide))
        have A1 := hA.fr f1 (by decide)
        skip
        rw [if_neg c1, ob (laysOne_eq hN A.2.2 (show i < N by omega) (by decide)), ob (staying8_eq hn eP A1.1.1 Row_wp)]
        by_cases c : nI (sy n (e i)) = a
        · refine ⟨by omega, (nI (cT (fun x => decide (nI (sy n (e x)) = a)) (i + 1)), nI (i + 1), wp K 46 0 (e i), M), ?_, by omega, rfl, rfl, rfl, f1⟩
          rw [if_pos c, bnd_eq, bnd_eq, nI_1, nI_1, cT_t (P := (fun x => decide (nI (sy n (e x)) = a))) (decide_eq_true c)]
        · refine ⟨by omega, (nI (cT (fun x => decide (nI (sy n (e x)) = a)) (i + 1)), nI (i + 1), wp K 46 0 (e i), M), ?_, by omega, rfl, rfl, rfl, f1⟩
          rw [if_neg c, bnd_eq, bnd_eq, nI_1, show (0 : Int32) = nI 0 from rfl, nI_add, cT_f (P := (fun x => decide (nI (sy n (e x)) = a))) (decide_eq_false c)]
          rfl)
  rw [nI_0] at this
  exact this
theorem ofOrder31_eq {a : Int32} (hO : OKm n m mv st) (he : EL n (Gp n m mv) N e) (hN : N ≤ 5040) (hA : AD I n m mv st N e) (k0 : Int32 → MI → ML → Option (Int32 × Mm)) : ∃ I', f_X8_ofOrder_31 a k0 FU 0 0 I L = k0 (nI (cT (fun x => decide (nI (lcf (e x) n) = a)) N)) I' L ∧ Fr [46] I I' := by
  have hn := hO.1
  have hG := Gp_Sub hn hO.2.2.1
  have := loop0 (fun fu (z : Int32 × Int32 × MI × ML) => f_X8_ofOrder_31 a k0 fu z.1 z.2.1 z.2.2.1 z.2.2.2) (fun i z => i ≤ N ∧ z.1 = nI (cT (fun x => decide (nI (lcf (e x) n) = a)) i) ∧ z.2.1 = nI i ∧ z.2.2.2 = L ∧ Fr [46] I z.2.2.1) (fun o => ∃ I', o = k0 (nI (cT (fun x => decide (nI (lcf (e x) n) = a)) N)) I' L ∧ Fr [46] I I') N (by omega) (nI 0, nI 0, I, L) ⟨Nat.zero_le _, rfl, rfl, rfl, Fr.refl⟩
    (fun fu i z hi hP => by
      obtain ⟨z1, z2, K, M⟩ := z
      obtain ⟨_, p1, p2, p3, p4⟩ := hP
      dsimp only at p1 p2 p3 p4 ⊢
      subst p1 p2 p3
      have A := hA.fr p4 (by decide)
      rw [f_X8_ofOrder_31, A.2.1, ifc (q_le (by omega) (by omega))]
      by_cases c1 : N ≤ i
      · left
        rw [if_pos c1, show i = N by omega]
        exact ⟨K, rfl, p4⟩
      · right
        have eP := EL_P hG he (show i < N by omega)
        have f1 : Fr [46] I (wp K 46 0 (e i)) := p4.trans (Fr_wp (by decide))
        have A1 := hA.fr f1 (by decide)
        skip
        rw [if_neg c1, ob (laysOne_eq hN A.2.2 (show i < N by omega) (by decide)), ob (orderOf__eq hn eP A1.1.1 Row_wp)]
        by_cases c : nI (lcf (e i) n) = a
        · refine ⟨by omega, (nI (cT (fun x => decide (nI (lcf (e x) n) = a)) (i + 1)), nI (i + 1), wp K 46 0 (e i), M), ?_, by omega, rfl, rfl, rfl, f1⟩
          rw [if_pos c, bnd_eq, bnd_eq, nI_1, nI_1, cT_t (P := (fun x => decide (nI (lcf (e x) n) = a))) (decide_eq_true c)]
        · refine ⟨by omega, (nI (cT (fun x => decide (nI (lcf (e x) n) = a)) (i + 1)), nI (i + 1), wp K 46 0 (e i), M), ?_, by omega, rfl, rfl, rfl, f1⟩
          rw [if_neg c, bnd_eq, bnd_eq, nI_1, show (0 : Int32) = nI 0 from rfl, nI_add, cT_f (P := (fun x => decide (nI (lcf (e x) n) = a))) (decide_eq_false c)]
          rfl)
  rw [nI_0] at this
  exact this
theorem typed39_eq (hp : IsP n p) (hr : Row I 47 0 p) (hO : OKm n m mv st) (he : EL n (Gp n m mv) N e) (hN : N ≤ 5040) (hA : AD I n m mv st N e) : ∃ I', f_X8_typed_39 FU 0 0 I L = some (nI (cT (fun x => decide (lN (SH (e x) n) = lN (SH p n))) N), I', L) ∧ Fr [46] I I' := by
  have hn := hO.1
  have hG := Gp_Sub hn hO.2.2.1
  have := loop0 (fun fu (z : Int32 × Int32 × MI × ML) => f_X8_typed_39 fu z.1 z.2.1 z.2.2.1 z.2.2.2) (fun i z => i ≤ N ∧ z.1 = nI (cT (fun x => decide (lN (SH (e x) n) = lN (SH p n))) i) ∧ z.2.1 = nI i ∧ z.2.2.2 = L ∧ Fr [46] I z.2.2.1) (fun o => ∃ I', o = some (nI (cT (fun x => decide (lN (SH (e x) n) = lN (SH p n))) N), I', L) ∧ Fr [46] I I') N (by omega) (nI 0, nI 0, I, L) ⟨Nat.zero_le _, rfl, rfl, rfl, Fr.refl⟩
    (fun fu i z hi hP => by
      obtain ⟨z1, z2, K, M⟩ := z
      obtain ⟨_, p1, p2, p3, p4⟩ := hP
      dsimp only at p1 p2 p3 p4 ⊢
      subst p1 p2 p3
      have A := hA.fr p4 (by decide)
      rw [f_X8_typed_39, A.2.1, ifc (q_le (by omega) (by omega))]
      by_cases c1 : N ≤ i
      · left
        rw [if_pos c1, show i = N by omega]
        exact ⟨K, rfl, p4⟩
      · right
        have eP := EL_P hG he (show i < N by omega)
        have f1 : Fr [46] I (wp K 46 0 (e i)) := p4.trans (Fr_wp (by decide))
        have A1 := hA.fr f1 (by decide)
        skip
        rw [if_neg c1, ob (laysOne_eq hN A.2.2 (show i < N by omega) (by decide)), ob (typeOf_eq hn eP A1.1.1 Row_wp), ob (typeOf_eq hn hp A1.1.1 (Row_of (f1 47 (by decide)) hr))]
        by_cases c : lN (SH (e i) n) = lN (SH p n)
        · refine ⟨by omega, (nI (cT (fun x => decide (lN (SH (e x) n) = lN (SH p n))) (i + 1)), nI (i + 1), wp K 46 0 (e i), M), ?_, by omega, rfl, rfl, rfl, f1⟩
          rw [ifc (q_cmp0 _ _), if_pos c, bnd_eq, bnd_eq, nI_1, nI_1, cT_t (P := (fun x => decide (lN (SH (e x) n) = lN (SH p n)))) (decide_eq_true c)]
        · refine ⟨by omega, (nI (cT (fun x => decide (lN (SH (e x) n) = lN (SH p n))) (i + 1)), nI (i + 1), wp K 46 0 (e i), M), ?_, by omega, rfl, rfl, rfl, f1⟩
          rw [ifc (q_cmp0 _ _), if_neg c, bnd_eq, bnd_eq, nI_1, show (0 : Int32) = nI 0 from rfl, nI_add, cT_f (P := (fun x => decide (lN (SH (e x) n) = lN (SH p n)))) (decide_eq_false c)]
          rfl)
  rw [nI_0] at this
  exact this
theorem ref_l (hO : OKm n m mv st) (hR : RDY I n m mv st) (he : EL n (Gp n m mv) N e) (hz : hz n N = 0) (hN : N ≤ 5040) : ∃ J I3, f_X8_whySmall 0 I L = some (0, J, L) ∧ f_X8_laysAll (is8 J 0) L = some (I3, L) ∧ AD I3 n m mv st N e ∧ Q8 I I3 ∧ I3 43 0 = 0 ∧ (∀ q, q ∉ (43 :: 48 :: 60 :: SC) → I3 q = I q) := by
  obtain ⟨J, b1, b2, b3, b4⟩ := wS0 (L := L) hO hR he hz
  obtain ⟨I3, g1, g2, g3, g4⟩ := laysAll_eq (L := L) hO (RDY_is (a := 0) b2.rdy) he hN
  refine ⟨J, I3, b1, g1, g2, (b3.trans Q8_is).trans (Q8_l g3 g4), by rw [g4 0 (by decide) (by decide)]; exact is8_0, fun q hq => ?_⟩
  rw [g3 q hq, is8_ne (fun g => hq (by rw [g]; decide)), b4 q (fun g => hq ?_)]
  have hm : ∀ x, x ∈ (43 :: 48 :: SC) → x ∈ (43 :: 48 :: 60 :: SC) := by decide
  exact hm q g
theorem dshR {lo hi : Nat} (a : Int32) (hl : lo ≤ hi) (hh : hi < 2 ^ 31) : (∃ k, lo ≤ k ∧ k ≤ hi ∧ a = nI k ∧ f_X8_isIn a.toInt64 (lN lo) (lN hi) = some true ∧ ¬ a < nI lo ∧ a ≤ nI hi) ∨ (f_X8_isIn a.toInt64 (lN lo) (lN hi) = some false ∧ (a < nI lo ∨ (¬ a < nI lo ∧ ¬ a ≤ nI hi))) := by
  by_cases hn : a < 0
  · right
    refine ⟨isIn_neg hn (by omega) hh, Or.inl ?_⟩
    rw [Int32.lt_iff_toInt_lt, nI_toInt (by omega)]
    have := lt0 hn
    omega
  · obtain ⟨j, hj, rfl⟩ := nI_of hn
    have e1 := isIn_pos (j := j) (lo := lo) (hi := hi) hj (by omega) hh
    by_cases h1 : lo ≤ j ∧ j ≤ hi
    · left
      refine ⟨j, h1.1, h1.2, rfl, by rw [e1, decide_eq_true h1], by rw [q_lt hj (by omega)]; omega, by rw [q_le hj hh]; omega⟩
    · right
      refine ⟨by rw [e1, decide_eq_false h1], ?_⟩
      rw [q_lt hj (by omega), q_le hj hh]
      omega
theorem PR_46h : PR_46 Inv := by
  intro I L rm a ⟨n, m, mv, st, h⟩
  obtain ⟨hO, hC, hR, hP, hT, hU, hF, hS⟩ := id h
  have hn := hO.1
  have hG := Gp_Sub hn hO.2.2.1
  obtain ⟨N, e, he⟩ := EL_ex hn hG
  have hu := hurdle_eq hO hC he
  rcases dshR (lo := 0) (hi := 10) a (by decide) (by decide) with ⟨k, k1, k2, k3, hin, c1, c2⟩ | ⟨hin, hb⟩
  · have hin : f_X8_isIn a.toInt64 0 10 = some true := hin
    have c1 : ¬ a < 0 := c1
    have c2 : a ≤ 10 := c2
    rcases hz_3 n N with hz | hz | hz
    · obtain ⟨hN, hn0⟩ := hz_N hz
      rw [hz] at hu
      obtain ⟨I1, L1, rm1, a1, a2, a3⟩ := shaped_eq hO hC he hN
      obtain ⟨J, I3, w1, w2, w3, w4, w5, _⟩ := ref_l (L := L1) hO (RDY_a (s := 0) a2 hR) he hz hN
      obtain ⟨I4, x1, x2⟩ := fixing38_eq (a := a) (L := L1) hO he hN w3
      refine ⟨nI (cT (fun x => decide (nI (sy n (e x)) = a)) N), up2 I1 0 6 0, L1, rm1, ?_, a2.1, I4, L1, ?_, IV_a h a2 (w4.trans (Q8_fr x2 (by decide))) (w3.fr x2 (by decide)).1.rdy (by rw [x2 43 (by decide)]; exact w5)⟩
      · simp (config := { decide := true }) only [f_X7_fixing, c1, c2, hu, nI_0, a1, a2.kA, a2.kB, countStaying_eq (a := a) hn hG he a2.2.2.2.2.1 a3, obs, bnd_eq, is_0, is_1, is_2, is_3, is_4, is_5, is_6, is_9, tell_eq, refuse_eq, refuse8_eq, b2i_1, b2i_0, if_true, if_false, ↓reduceIte]
      · simp (config := { decide := true }) only [f_X8_fixing, hin, w1, w2, x1, obs, bnd_eq, is_0, is_1, is_2, is_3, is_4, is_5, is_6, is_9, tell_eq, refuse_eq, refuse8_eq, b2i_1, b2i_0, if_true, if_false, ↓reduceIte]
    · rw [hz] at hu
      obtain ⟨I2, b1, b2, b3, b4⟩ := wS (L := L) hO (RDY_s (s := 5) hR) he hz
      refine ⟨-1, up2 I 0 6 5, L, rm, ?_, RS_r, is8 I2 5, L, ?_, IV_q h (b3.trans Q8_is) (RDY_is b2) is8_0⟩
      · simp (config := { decide := true }) only [f_X7_fixing, c1, c2, hu, show nI 5 = 5 from rfl, obs, bnd_eq, is_0, is_1, is_2, is_3, is_4, is_5, is_6, is_9, tell_eq, refuse_eq, refuse8_eq, b2i_1, b2i_0, if_true, if_false, ↓reduceIte]
      · simp (config := { decide := true }) only [f_X8_fixing, hin, b1, show nI 5 = 5 from rfl, obs, bnd_eq, is_0, is_1, is_2, is_3, is_4, is_5, is_6, is_9, tell_eq, refuse_eq, refuse8_eq, b2i_1, b2i_0, if_true, if_false, ↓reduceIte]
    · rw [hz] at hu
      obtain ⟨I2, b1, b2, b3, b4⟩ := wS (L := L) hO (RDY_s (s := 3) hR) he hz
      refine ⟨-1, up2 I 0 6 3, L, rm, ?_, RS_r, is8 I2 3, L, ?_, IV_q h (b3.trans Q8_is) (RDY_is b2) is8_0⟩
      · simp (config := { decide := true }) only [f_X7_fixing, c1, c2, hu, show nI 3 = 3 from rfl, obs, bnd_eq, is_0, is_1, is_2, is_3, is_4, is_5, is_6, is_9, tell_eq, refuse_eq, refuse8_eq, b2i_1, b2i_0, if_true, if_false, ↓reduceIte]
      · simp (config := { decide := true }) only [f_X8_fixing, hin, b1, show nI 3 = 3 from rfl, obs, bnd_eq, is_0, is_1, is_2, is_3, is_4, is_5, is_6, is_9, tell_eq, refuse_eq, refuse8_eq, b2i_1, b2i_0, if_true, if_false, ↓reduceIte]
  · have hin : f_X8_isIn a.toInt64 0 10 = some false := hin
    refine ⟨-1, up2 I 0 6 1, L, rm, ?_, RS_r, is8 (up2 I 0 6 1) 1, L, ?_, IV_q h (Q8_is (a := 1)) (RDY_is (RDY_s hR)) is8_0⟩
    · rcases hb with hb | ⟨hb, hc⟩
      · have hb : a < 0 := hb
        simp (config := { decide := true }) only [f_X7_fixing, hb, obs, bnd_eq, is_0, is_1, is_2, is_3, is_4, is_5, is_6, is_9, tell_eq, refuse_eq, refuse8_eq, b2i_1, b2i_0, if_true, if_false, ↓reduceIte]
      · have hb : ¬ a < 0 := hb
        have hc : ¬ a ≤ 10 := hc
        simp (config := { decide := true }) only [f_X7_fixing, hb, hc, obs, bnd_eq, is_0, is_1, is_2, is_3, is_4, is_5, is_6, is_9, tell_eq, refuse_eq, refuse8_eq, b2i_1, b2i_0, if_true, if_false, ↓reduceIte]
    · simp (config := { decide := true }) only [f_X8_fixing, hin, wS_1, obs, bnd_eq, is_0, is_1, is_2, is_3, is_4, is_5, is_6, is_9, tell_eq, refuse_eq, refuse8_eq, b2i_1, b2i_0, if_true, if_false, ↓reduceIte]
theorem PR_48h : PR_48 Inv := by
  intro I L rm x ⟨n, m, mv, st, h⟩
  obtain ⟨hO, hC, hR, hP, hT, hU, hF, hS⟩ := id h
  have hn := hO.1
  have hG := Gp_Sub hn hO.2.2.1
  obtain ⟨N, e, he⟩ := EL_ex hn hG
  have hu := hurdle_eq hO hC he
  rcases rd hn x with ⟨p, hp, h0, e1, e2⟩ | ⟨e1, e2⟩
  · rcases hz_3 n N with hz | hz | hz
    · obtain ⟨hN, hn0⟩ := hz_N hz
      rw [hz] at hu
      obtain ⟨I1, L1, rm1, a1, a2, a3⟩ := shaped_eq hO hC he hN
      have hR1 := RDY_a (s := 0) a2 hR
      have j3 : Fr [47] (up2 I1 0 6 0) (wp (up2 I1 0 6 0) 47 0 p) := Fr_wp (by decide)
      obtain ⟨J, I3, w1, w2, w3, w4, w5, w6⟩ := ref_l (L := L1) hO (hR1.fr j3 (by decide)) he hz hN
      obtain ⟨I4, x1, x2⟩ := typed39_eq (L := L1) hp (Row_of (w6 47 (by decide)) Row_wp) hO he hN w3
      refine ⟨nI (cT (fun x => decide (lN (SH (e x) n) = lN (SH p n))) N), up2 I1 0 6 0, L1, rm1, ?_, a2.1, I4, L1, ?_, IV_a h a2 (((Q8_fr j3 (by decide)).trans w4).trans (Q8_fr x2 (by decide))) (w3.fr x2 (by decide)).1.rdy (by rw [x2 43 (by decide)]; exact w5)⟩
      · simp (config := { decide := true }) only [f_X7_typed, read_eq hC.1 e1, cmp_tn hn hp, hu, nI_0, a1, a2.kA, a2.kB, a2.2.2.2.1.1, shape_eq hn hp, countShaped_eq (v := lN (SH p n)) a2.2.2.2.2.1 a3, obs, bnd_eq, is_0, is_1, is_2, is_3, is_4, is_5, is_6, is_9, tell_eq, refuse_eq, refuse8_eq, b2i_1, b2i_0, if_true, if_false, ↓reduceIte]
      · simp (config := { decide := true }) only [f_X8_typed, e2 47 _ L1 (by decide) hR1.1, w1, w2, x1, obs, bnd_eq, is_0, is_1, is_2, is_3, is_4, is_5, is_6, is_9, tell_eq, refuse_eq, refuse8_eq, b2i_1, b2i_0, if_true, if_false, ↓reduceIte]
    · rw [hz] at hu
      have j3 : Fr [47] (up2 I 0 6 5) (wp (up2 I 0 6 5) 47 0 p) := Fr_wp (by decide)
      obtain ⟨I2, b1, b2, b3, b4⟩ := wS (L := L) hO ((RDY_s (s := 5) hR).fr j3 (by decide)) he hz
      refine ⟨-1, up2 I 0 6 5, L, rm, ?_, RS_r, is8 I2 5, L, ?_, IV_q h (((Q8_fr j3 (by decide)).trans b3).trans Q8_is) (RDY_is b2) is8_0⟩
      · simp (config := { decide := true }) only [f_X7_typed, read_eq hC.1 e1, cmp_tn hn hp, hu, show nI 5 = 5 from rfl, obs, bnd_eq, is_0, is_1, is_2, is_3, is_4, is_5, is_6, is_9, tell_eq, refuse_eq, refuse8_eq, b2i_1, b2i_0, if_true, if_false, ↓reduceIte]
      · simp (config := { decide := true }) only [f_X8_typed, e2 47 _ L (by decide) (RDY_s (s := 5) hR).1, b1, show nI 5 = 5 from rfl, obs, bnd_eq, is_0, is_1, is_2, is_3, is_4, is_5, is_6, is_9, tell_eq, refuse_eq, refuse8_eq, b2i_1, b2i_0, if_true, if_false, ↓reduceIte]
    · rw [hz] at hu
      have j3 : Fr [47] (up2 I 0 6 3) (wp (up2 I 0 6 3) 47 0 p) := Fr_wp (by decide)
      obtain ⟨I2, b1, b2, b3, b4⟩ := wS (L := L) hO ((RDY_s (s := 3) hR).fr j3 (by decide)) he hz
      refine ⟨-1, up2 I 0 6 3, L, rm, ?_, RS_r, is8 I2 3, L, ?_, IV_q h (((Q8_fr j3 (by decide)).trans b3).trans Q8_is) (RDY_is b2) is8_0⟩
      · simp (config := { decide := true }) only [f_X7_typed, read_eq hC.1 e1, cmp_tn hn hp, hu, show nI 3 = 3 from rfl, obs, bnd_eq, is_0, is_1, is_2, is_3, is_4, is_5, is_6, is_9, tell_eq, refuse_eq, refuse8_eq, b2i_1, b2i_0, if_true, if_false, ↓reduceIte]
      · simp (config := { decide := true }) only [f_X8_typed, e2 47 _ L (by decide) (RDY_s (s := 3) hR).1, b1, show nI 3 = 3 from rfl, obs, bnd_eq, is_0, is_1, is_2, is_3, is_4, is_5, is_6, is_9, tell_eq, refuse_eq, refuse8_eq, b2i_1, b2i_0, if_true, if_false, ↓reduceIte]
  · obtain ⟨I', f1, f2⟩ := e2 47 (up2 I 0 6 1) L (by decide) (RDY_s (s := 1) hR).1
    refine ⟨-1, up2 I 0 6 1, L, rm, ?_, RS_r, _, L, ?_, IV_q h ((Q8_fr f2 (by decide)).trans (Q8_is (a := 1))) (RDY_is ((RDY_s hR).fr f2 (by decide))) is8_0⟩
    · simp (config := { decide := true }) only [f_X7_typed, read_eq hC.1 e1, cmp_m1, obs, bnd_eq, is_0, is_1, is_2, is_3, is_4, is_5, is_6, is_9, tell_eq, refuse_eq, refuse8_eq, b2i_1, b2i_0, if_true, if_false, ↓reduceIte]
    · simp (config := { decide := true }) only [f_X8_typed, f1, wS_1, obs, bnd_eq, is_0, is_1, is_2, is_3, is_4, is_5, is_6, is_9, tell_eq, refuse_eq, refuse8_eq, b2i_1, b2i_0, if_true, if_false, ↓reduceIte]
theorem PR_51h : PR_51 Inv := by
  intro I L rm a ⟨n, m, mv, st, h⟩
  obtain ⟨hO, hC, hR, hP, hT, hU, hF, hS⟩ := id h
  have hn := hO.1
  have hG := Gp_Sub hn hO.2.2.1
  obtain ⟨N, e, he⟩ := EL_ex hn hG
  have hu := hurdle_eq hO hC he
  by_cases h1 : a < 1
  · have c1 : ¬ 1 ≤ a := Int32.not_le.mpr h1
    refine ⟨-1, up2 I 0 6 1, L, rm, ?_, RS_r, is8 (up2 I 0 6 1) 1, L, ?_, IV_q h (Q8_is (a := 1)) (RDY_is (RDY_s hR)) is8_0⟩
    · simp (config := { decide := true }) only [f_X7_ofOrder, c1, obs, bnd_eq, is_0, is_1, is_2, is_3, is_4, is_5, is_6, is_9, tell_eq, refuse_eq, refuse8_eq, b2i_1, b2i_0, if_true, if_false, ↓reduceIte]
    · simp (config := { decide := true }) only [f_X8_ofOrder, h1, wS_1, obs, bnd_eq, is_0, is_1, is_2, is_3, is_4, is_5, is_6, is_9, tell_eq, refuse_eq, refuse8_eq, b2i_1, b2i_0, if_true, if_false, ↓reduceIte]
  · have c1 : 1 ≤ a := Int32.not_lt.mp h1
    rcases hz_3 n N with hz | hz | hz
    · obtain ⟨hN, hn0⟩ := hz_N hz
      rw [hz] at hu
      obtain ⟨I1, L1, rm1, a1, a2, a3⟩ := shaped_eq hO hC he hN
      have cp := countPeriod_eq (a := a) hn hG he a2.2.2.2.2.1 a3
      have ref : ∀ s : Int32, ∃ I', f_X8_ofOrder a (up2 I1 0 6 s) L1 = (if nI (cT (fun x => decide (nI (lcf (e x) n) = a)) N) = 0 then some (-1, up2 I' 43 0 5, L1) else some (nI (cT (fun x => decide (nI (lcf (e x) n) = a)) N), I', L1)) ∧ RDY I' n m mv st ∧ Q8 (up2 I1 0 6 s) I' ∧ I' 43 0 = 0 := fun s => by
        obtain ⟨J, I3, w1, w2, w3, w4, w5, _⟩ := ref_l (L := L1) hO (RDY_a (s := s) a2 hR) he hz hN
        obtain ⟨I4, x1, x2⟩ := ofOrder31_eq (a := a) (L := L1) hO he hN w3 (fun (v2_16 : Int32) (I_17 : MI) (L_18 : ML) => if v2_16 = 0 then some (-1, up2 I_17 43 0 5, L_18) else some (v2_16, I_17, L_18))
        refine ⟨I4, ?_, (w3.fr x2 (by decide)).1.rdy, w4.trans (Q8_fr x2 (by decide)), by rw [x2 43 (by decide)]; exact w5⟩
        simp (config := { decide := true }) only [f_X8_ofOrder, h1, w1, w2, x1, obs, bnd_eq, is_0, is_1, is_2, is_3, is_4, is_5, is_6, is_9, tell_eq, refuse_eq, refuse8_eq, b2i_1, b2i_0, if_true, if_false, ↓reduceIte]
      by_cases c0 : nI (cT (fun x => decide (nI (lcf (e x) n) = a)) N) = 0
      · obtain ⟨I', b1, b2, b3, b4⟩ := ref 5
        rw [if_pos c0] at b1
        refine ⟨-1, up2 I1 0 6 5, L1, rm1, ?_, a2.1, _, L1, b1, IV_a h a2 (b3.trans Q8_r) (RDY_r b2) up2_s⟩
        simp (config := { decide := true }) only [f_X7_ofOrder, c1, hu, nI_0, a1, a2.kA, a2.kB, cp, c0, obs, bnd_eq, is_0, is_1, is_2, is_3, is_4, is_5, is_6, is_9, tell_eq, refuse_eq, refuse8_eq, b2i_1, b2i_0, if_true, if_false, ↓reduceIte]
      · obtain ⟨I', b1, b2, b3, b4⟩ := ref 0
        rw [if_neg c0] at b1
        refine ⟨_, up2 I1 0 6 0, L1, rm1, ?_, a2.1, I', L1, b1, IV_a h a2 b3 b2 b4⟩
        simp (config := { decide := true }) only [f_X7_ofOrder, c1, hu, nI_0, a1, a2.kA, a2.kB, cp, c0, obs, bnd_eq, is_0, is_1, is_2, is_3, is_4, is_5, is_6, is_9, tell_eq, refuse_eq, refuse8_eq, b2i_1, b2i_0, if_true, if_false, ↓reduceIte]
    · rw [hz] at hu
      obtain ⟨I2, b1, b2, b3, b4⟩ := wS (L := L) hO (RDY_s (s := 5) hR) he hz
      refine ⟨-1, up2 I 0 6 5, L, rm, ?_, RS_r, is8 I2 5, L, ?_, IV_q h (b3.trans Q8_is) (RDY_is b2) is8_0⟩
      · simp (config := { decide := true }) only [f_X7_ofOrder, c1, hu, show nI 5 = 5 from rfl, obs, bnd_eq, is_0, is_1, is_2, is_3, is_4, is_5, is_6, is_9, tell_eq, refuse_eq, refuse8_eq, b2i_1, b2i_0, if_true, if_false, ↓reduceIte]
      · simp (config := { decide := true }) only [f_X8_ofOrder, h1, b1, show nI 5 = 5 from rfl, obs, bnd_eq, is_0, is_1, is_2, is_3, is_4, is_5, is_6, is_9, tell_eq, refuse_eq, refuse8_eq, b2i_1, b2i_0, if_true, if_false, ↓reduceIte]
    · rw [hz] at hu
      obtain ⟨I2, b1, b2, b3, b4⟩ := wS (L := L) hO (RDY_s (s := 3) hR) he hz
      refine ⟨-1, up2 I 0 6 3, L, rm, ?_, RS_r, is8 I2 3, L, ?_, IV_q h (b3.trans Q8_is) (RDY_is b2) is8_0⟩
      · simp (config := { decide := true }) only [f_X7_ofOrder, c1, hu, show nI 3 = 3 from rfl, obs, bnd_eq, is_0, is_1, is_2, is_3, is_4, is_5, is_6, is_9, tell_eq, refuse_eq, refuse8_eq, b2i_1, b2i_0, if_true, if_false, ↓reduceIte]
      · simp (config := { decide := true }) only [f_X8_ofOrder, h1, b1, show nI 3 = 3 from rfl, obs, bnd_eq, is_0, is_1, is_2, is_3, is_4, is_5, is_6, is_9, tell_eq, refuse_eq, refuse8_eq, b2i_1, b2i_0, if_true, if_false, ↓reduceIte]
end SP
