/-! Groups that turning keeps -/
section NO
variable {n m N rm : Nat} {mv : Nat → Nat → Nat} {st : Nat → Nat} {I : MI} {L : ML}
theorem cj_mul {a b g : Nat → Nat} (hn : n ≤ 10) (hg : IsP n g) : cj (cp a b) g = cp (cj a g) (cj b g) := by
  unfold cj
  simp only [cp_as]
  rw [← cp_as g (iv g) (cp b g), cp_iv hn hg, id_cp]
theorem cj_iv {a g : Nat → Nat} (hn : n ≤ 10) (ha : IsP n a) (hg : IsP n g) : cj (iv a) g = iv (cj a g) := by
  unfold cj
  rw [iv_cpp hn (IsP_cp (IsP_iv hn hg) ha) hg, iv_cpp hn (IsP_iv hn hg) ha, iv_iv hn hg, cp_as]
theorem cj_1 {g : Nat → Nat} (hn : n ≤ 10) (hg : IsP n g) : cj idp g = idp := by
  unfold cj
  rw [cp_id, iv_cp hn hg]
theorem norm_gen {S : PS} {H : PS} {g : Nat → Nat} (hn : n ≤ 10) (hS : ∀ s, S s → IsP n s) (hH : Sub n H) (hg : IsP n g) (h : ∀ s, S s → H (cj s g)) : ∀ x, Gen n S x → H (cj x g) := by
  have : Sub n (fun x => IsP n x ∧ H (cj x g)) := ⟨fun a h => h.1, ⟨IsP_id n, by rw [cj_1 hn hg]; exact hH.2.1⟩, fun a b ha hb => ⟨IsP_cp ha.1 hb.1, by rw [cj_mul hn hg]; exact hH.2.2.1 _ _ ha.2 hb.2⟩, fun a ha => ⟨IsP_iv hn ha.1, by rw [cj_iv hn ha.1 hg]; exact hH.2.2.2 _ ha.2⟩⟩
  intro x hx
  exact (Gen_le this (fun s hs => ⟨hS s hs, h s hs⟩) x hx).2
theorem st32 {H : PS} {i : Nat} {mk : Nat → Nat} (hO : OKm n m mv st) (hm1 : I 6 1 = nI m) (hn1 : I 6 0 = nI n) (h7 : ∀ i, i < m → L 7 i = tn n (mv i)) (hC : ChG I L 15 n H) (hmk : f_X0_maker 15 (nI i) I L = some (tn n mk)) (hP : IsP n mk) (k0 : Option (Bool × Mm)) : (f_X2_staysTurned_32 (nI i) I L k0 FU 0 = k0 ∧ ∀ j, j < m → H (cj mk (mv j))) ∨ (f_X2_staysTurned_32 (nI i) I L k0 FU 0 = some (false, I, L) ∧ ∃ j, j < m ∧ ¬ H (cj mk (mv j))) := by
  have hn := hO.1
  have hm := hO.2.1
  have := loop0 (fun fu z => f_X2_staysTurned_32 (nI i) I L k0 fu z) (fun j z => j ≤ m ∧ z = nI j ∧ ∀ t, t < j → H (cj mk (mv t))) (fun o => (o = k0 ∧ ∀ j, j < m → H (cj mk (mv j))) ∨ (o = some (false, I, L) ∧ ∃ j, j < m ∧ ¬ H (cj mk (mv j)))) m (by omega) (nI 0) ⟨Nat.zero_le _, rfl, fun t ht => by omega⟩
    (fun fu j z hj hP2 => by
      obtain ⟨_, p1, p2⟩ := hP2
      subst p1
      rw [f_X2_staysTurned_32, hm1, ifc (q_le (by omega) (by omega))]
      by_cases c1 : m ≤ j
      · left; left
        rw [if_pos c1]
        exact ⟨rfl, fun t ht => p2 t (by omega)⟩
      · obtain ⟨c, hc⟩ := em_B (H (cj mk (mv j)))
        have mP := hO.2.2.1 j (by omega)
        rw [if_neg c1, ob hmk, q_chk (by omega) (by decide), q_ix (by omega), h7 j (by omega), hn1, ob (conjugate_eq hn hP mP), ob (cont_eq hn hC (IsP_cj hn hP mP) hc)]
        cases c
        · left; right
          rw [if_pos b2i_f]
          exact ⟨rfl, j, by omega, fun g => absurd (hc.mpr g) (by decide)⟩
        · right
          refine ⟨by omega, nI (j + 1), ?_, by omega, rfl, fun t ht => ?_⟩
          · rw [if_neg b2i_t, bnd_eq, nI_1]
          · by_cases e1 : t = j
            · rw [e1]; exact hc.mp rfl
            · exact p2 t (by omega))
  rw [nI_0] at this
  exact this
theorem staysT_eq {s : Nat} {c : Bool} (hO : OKm n m mv st) (hC : CI I L rm n m mv st) (h0 : 0 < n) (hs : s < 2 ^ m) (hc : c = true ↔ ∀ j, j < m → ∀ x, Gen n (MS mv s m) x → Gen n (MS mv s m) (cj x (mv j))) : ∃ I' L', f_X2_staysTurned (nI s) I L = some (c, I', L') ∧ CI I' L' rm n m mv st ∧ (∀ p, p < 15 ∨ 29 ≤ p → I' p = I p) ∧ (∀ p, p < 15 ∨ 29 ≤ p → L' p = L p) := by
  have hn := hO.1
  have hm := hO.2.1
  obtain ⟨nd1, Ia, La, x1, x2, x3⟩ := gat (I := I) (L := L) (cb := 15) hO hC.2.2.1 hs (by decide)
  have f1 : ∀ p, p < 15 ∨ 29 ≤ p → Ia p = I p := fun p hp => x3.1 p (by omega) (by omega) (by omega) (by omega)
  have f2 : ∀ p, p < 15 ∨ 29 ≤ p → La p = L p := fun p hp => x3.2 p (by omega) (by omega) (by omega) (by omega)
  have Ca : CI Ia La rm n m mv st := hC.gen (fun p hp => f1 p (by omega)) (fun p hp => f2 p (by omega)) (Pz_fr hC.2.2.2.2.2.2.1 (f1 29 (by decide)))
  obtain ⟨rb, th, mc, mk, tr, ⟨_, hM, hGI⟩, hCp, hH⟩ := id x2
  have hsub : Sub n (Gen n (MS mv s m)) := Gen_Sub hn (MS_P hO.2.2.1 s)
  have hmc : mc 0 ≤ 15 := lag hn (fun i hi => (hGI.2.1 0 i h0 hi).1) (fun i hi => hGI.2.2.2.2.2.1 0 i h0 hi)
  have hmkP : ∀ i, i < mc 0 → IsP n (mk 0 i) := fun i hi => (hGI.2.1 0 i h0 hi).1
  have hSKP : ∀ a, SK n mc mk 0 a → IsP n a := fun a ⟨_, i, i1, i2⟩ => by rw [i2]; exact hmkP i i1
  have hmake : ∀ i, i < mc 0 → f_X0_maker 15 (nI i) Ia La = some (tn n (mk 0 i)) := fun i hi => by
    unfold f_X0_maker
    have e1 := hM.2.1 0 i h0 hi
    rw [Nat.mul_zero, Nat.zero_add] at e1
    rw [if_neg (Int32.not_lt.mpr (nI_pos' (by omega))), show (16 : Int32) = nI 16 from rfl, if_neg (by rw [q_le (by decide) (by omega)]; omega), q_chk (by omega) (by decide), q_ix (by omega), e1]
  have hcnt : f_X0_countMakers 15 Ia La = some (nI (mc 0)) := by
    unfold f_X0_countMakers
    rw [show (0 : Int32) = nI 0 from rfl, q_chk (by decide) (by decide), q_ix (by decide), hM.1 0 h0]
  refine ⟨Ia, La, ?_, Ca, f1, f2⟩
  unfold f_X2_staysTurned
  rw [hC.1, ob x1]
  have := loop0 (fun fu z => f_X2_staysTurned_19 Ia La fu z) (fun i z => i ≤ mc 0 ∧ z = nI i ∧ ∀ t, t < i → ∀ j, j < m → Gen n (MS mv s m) (cj (mk 0 t) (mv j))) (fun o => o = some (c, Ia, La)) (mc 0) (by omega) (nI 0) ⟨Nat.zero_le _, rfl, fun t ht => by omega⟩
    (fun fu i z hi hP => by
      obtain ⟨_, p1, p2⟩ := hP
      subst p1
      rw [f_X2_staysTurned_19, ob hcnt, ifc (q_le (by omega) (by omega))]
      by_cases c1 : mc 0 ≤ i
      · left
        rw [if_pos c1, hc.mpr (fun j hj x hx => norm_gen hn hSKP hsub (hO.2.2.1 j hj) (fun a ⟨_, t, t1, t2⟩ => by rw [t2]; exact p2 t (by omega) j hj) x (by rw [← hH]; exact hx))]
      · rw [if_neg c1]
        rcases st32 (mk := mk 0 i) hO Ca.2.1 Ca.1 Ca.2.2.1 x2 (hmake i (by omega)) (hmkP i (by omega)) (bnd (nI i + 1 : Int32) (fun v2_10 => f_X2_staysTurned_19 Ia La fu v2_10)) with ⟨g1, g2⟩ | ⟨g1, j, g2, g3⟩
        · right
          refine ⟨by omega, nI (i + 1), ?_, by omega, rfl, fun t ht j hj => ?_⟩
          · rw [g1, bnd_eq, nI_1]
          · by_cases e1 : t = i
            · rw [e1]; exact g2 j hj
            · exact p2 t (by omega) j hj
        · left
          rw [g1]
          cases c
          · rfl
          · exact absurd (hc.mp rfl j g2 _ (by rw [hH]; exact Gen_in ⟨h0, i, by omega, rfl⟩)) g3)
  rw [nI_0] at this
  exact this
abbrev NS : List Nat := [46, 47, 48, 49, 50, 54, 55, 56]
theorem no58 {H : PS} {i : Nat} {v1 : Int32} {b0 : Bool} (hO : OKm n m mv st) (hN : Nw I m mv st) (h1 : SlotG I 1 H) (hi : i < m) (k0 : Int32 → MI → ML → Option (Int32 × Mm)) : ∃ b I', f_X8_normal_58 v1 (nI i) k0 FU (b2i b0) 0 I L = k0 (b2i b) I' L ∧ Fr NS I I' ∧ (b = true ↔ (b0 = true ∧ ∀ j, j < m → H (cj (mv i) (mv j)))) := by
  have hn := hO.1
  have hm := hO.2.1
  have iP := IsP_mono (hO.2.2.1 i hi) hn
  have := loop0 (fun fu (z : Int32 × Int32 × MI × ML) => f_X8_normal_58 v1 (nI i) k0 fu z.1 z.2.1 z.2.2.1 z.2.2.2) (fun j z => j ≤ m ∧ z.2.1 = nI j ∧ z.2.2.2 = L ∧ Fr NS I z.2.2.1 ∧ ∃ b, z.1 = b2i b ∧ (b = true ↔ (b0 = true ∧ ∀ t, t < j → H (cj (mv i) (mv t))))) (fun o => ∃ b I', o = k0 (b2i b) I' L ∧ Fr NS I I' ∧ (b = true ↔ (b0 = true ∧ ∀ j, j < m → H (cj (mv i) (mv j))))) m (by omega) (b2i b0, nI 0, I, L) ⟨Nat.zero_le _, rfl, rfl, Fr.refl, b0, rfl, ⟨fun g => ⟨g, fun t ht => by omega⟩, fun g => g.1⟩⟩
    (fun fu j z hj hP => by
      obtain ⟨z1, z2, K, M⟩ := z
      obtain ⟨_, p1, p2, p3, b, p4, p5⟩ := hP
      dsimp only at p1 p2 p3 p4 ⊢
      subst p1 p2 p4
      have hNK := hN.fr (I' := K) (p3 44 (by decide))
      rw [f_X8_normal_58, ob (moves_eq hNK), ifc (q_le (by omega) (by omega))]
      by_cases c1 : m ≤ j
      · left
        rw [if_pos c1]
        exact ⟨b, K, rfl, p3, p5.trans ⟨fun g => ⟨g.1, fun t ht => g.2 t (by omega)⟩, fun g => ⟨g.1, fun t ht => g.2 t (by omega)⟩⟩⟩
      · right
        have jP := IsP_mono (hO.2.2.1 j (by omega)) hn
        have hNK1 := hNK.fr (I' := wp K 46 0 (mv i)) (wp_ne (by decide))
        have tu := turns_eq (I := wp (wp K 46 0 (mv i)) 47 0 (mv j)) (L := M) (a := 46) (b := 47) (c := 48) iP jP (Row_ne (by decide) Row_wp) Row_wp (by decide) (by decide) (by decide) (by decide) (by decide) (by decide)
        generalize hJ : wp (wp (wp (wp (wp K 46 0 (mv i)) 47 0 (mv j)) 49 0 (iv (mv j))) 50 0 (cp (iv (mv j)) (mv i))) 48 0 (cj (mv i) (mv j)) = J at tu
        have f3 : Fr NS I J := by rw [← hJ]; exact ((((p3.trans (Fr_wp (by decide))).trans (Fr_wp (by decide))).trans (Fr_wp (by decide))).trans (Fr_wp (by decide))).trans (Fr_wp (by decide))
        have r48 : Row J 48 0 (cj (mv i) (mv j)) := by rw [← hJ]; exact Row_wp
        refine ⟨by omega, ?_⟩
        rw [if_neg c1, ob (laysMove_eq hNK hi (by decide)), ob (laysMove_eq hNK1 (show j < m by omega) (by decide)), ob tu]
        dsimp only
        cases b
        · refine ⟨(0, nI (j + 1), J, M), ?_, by omega, rfl, rfl, f3, false, rfl, ⟨(fun g => by cases g), fun g => p5.mpr ⟨g.1, fun t ht => g.2 t (by omega)⟩⟩⟩
          rw [if_pos b2i_f, bnd_eq, nI_1]
        · obtain ⟨c, hc⟩ := em_B (H (cj (mv i) (mv j)))
          obtain ⟨K1, g1, g2⟩ := isMemberG (L := M) (s := 1) (by decide) (h1.fr (I' := J) (f3 52 (by decide)) (f3 53 (by decide))) (a := 48) (by decide) r48 (IsP_cj (Nat.le_refl 10) iP jP) hc
          have g1 : f_X8_isMember 1 48 J M = some (c, K1, M) := g1
          have hp := p5.mp rfl
          rw [if_neg b2i_t, ob g1]
          dsimp only
          cases c
          · refine ⟨(0, nI (j + 1), K1, M), ?_, by omega, rfl, rfl, f3.trans (g2.mono (by decide)), false, rfl, ⟨(fun g => by cases g), fun g => hc.mpr (g.2 j (by omega))⟩⟩
            rw [if_pos b2i_f, bnd_eq, nI_1]
          · refine ⟨(1, nI (j + 1), K1, M), ?_, by omega, rfl, rfl, f3.trans (g2.mono (by decide)), true, rfl, ⟨fun _ => ⟨hp.1, fun t ht => ?_⟩, fun _ => rfl⟩⟩
            · rw [if_neg b2i_t, bnd_eq, nI_1]
            · by_cases e1 : t = j
              · rw [e1]; exact hc.mp rfl
              · exact hp.2 t (by omega))
  rw [nI_0] at this
  exact this
theorem no36 {H : PS} {s : Nat} (hO : OKm n m mv st) (hN : Nw I m mv st) (h1 : SlotG I 1 H) (hs : s < 2 ^ m) (k0 : Int32 → MI → ML → Option (Int32 × Mm)) : ∃ b I', f_X8_normal_36 (nI s) k0 FU 1 0 I L = k0 (b2i b) I' L ∧ Fr NS I I' ∧ (b = true ↔ ∀ i, i < m → s.testBit i = true → ∀ j, j < m → H (cj (mv i) (mv j))) := by
  have hm := hO.2.1
  have hp2 : 2 ^ m ≤ 2 ^ 6 := Nat.pow_le_pow_right (by decide) hm
  have := loop0 (fun fu (z : Int32 × Int32 × MI × ML) => f_X8_normal_36 (nI s) k0 fu z.1 z.2.1 z.2.2.1 z.2.2.2) (fun i z => i ≤ m ∧ z.2.1 = nI i ∧ z.2.2.2 = L ∧ Fr NS I z.2.2.1 ∧ ∃ b, z.1 = b2i b ∧ (b = true ↔ ∀ t, t < i → s.testBit t = true → ∀ j, j < m → H (cj (mv t) (mv j)))) (fun o => ∃ b I', o = k0 (b2i b) I' L ∧ Fr NS I I' ∧ (b = true ↔ ∀ i, i < m → s.testBit i = true → ∀ j, j < m → H (cj (mv i) (mv j)))) m (by omega) (1, nI 0, I, L) ⟨Nat.zero_le _, rfl, rfl, Fr.refl, true, rfl, ⟨fun _ t ht => by omega, fun _ => rfl⟩⟩
    (fun fu i z hi hP => by
      obtain ⟨z1, z2, K, M⟩ := z
      obtain ⟨_, p1, p2, p3, b, p4, p5⟩ := hP
      dsimp only at p1 p2 p3 p4 ⊢
      subst p1 p2 p4
      have hNK := hN.fr (I' := K) (p3 44 (by decide))
      rw [f_X8_normal_36, ob (moves_eq hNK), ifc (q_le (by omega) (by omega))]
      by_cases c1 : m ≤ i
      · left
        rw [if_pos c1]
        exact ⟨b, K, rfl, p3, p5.trans ⟨fun g t ht => g t (by omega), fun g t ht => g t (by omega)⟩⟩
      · right
        refine ⟨by omega, ?_⟩
        rw [if_neg c1, ob (bit_eq (by omega) (by omega))]
        cases hb : s.testBit i
        · refine ⟨(b2i b, nI (i + 1), K, M), ?_, by omega, rfl, rfl, p3, b, rfl, p5.trans ⟨fun g t ht hbt => ?_, fun g t ht => g t (by omega)⟩⟩
          · rw [if_pos b2i_f, bnd_eq, nI_1]
          · by_cases e1 : t = i
            · subst e1; rw [hb] at hbt; cases hbt
            · exact g t (by omega) hbt
        · rw [if_neg b2i_t]
          generalize hk0 : (fun (v2_27 : Int32) (I_28 : MI) (L_29 : ML) => bnd (nI i + 1 : Int32) (fun v3_30 => f_X8_normal_36 (nI s) k0 fu v2_27 v3_30 I_28 L_29)) = k1
          obtain ⟨b', K1, g1, g2, g3⟩ := no58 (L := M) (v1 := nI s) (b0 := b) hO hNK (h1.fr (I' := K) (p3 52 (by decide)) (p3 53 (by decide))) (show i < m by omega) k1
          refine ⟨(b2i b', nI (i + 1), K1, M), ?_, by omega, rfl, rfl, p3.trans g2, b', rfl, g3.trans ⟨fun ⟨q1, q2⟩ t ht hbt => ?_, fun g => ⟨p5.mpr (fun t ht => g t (by omega)), g i (by omega) hb⟩⟩⟩
          · rw [g1, ← hk0]
            dsimp only
            rw [bnd_eq, nI_1]
          · by_cases e1 : t = i
            · rw [e1]; exact q2
            · exact p5.mp q1 t (by omega) hbt)
  rw [nI_0] at this
  exact this
theorem PR_38h : PR_38 Inv := by
  intro I L rm a ⟨n, m, mv, st, h⟩
  obtain ⟨hO, hC, hR, hP, hT, hU, hF, hS⟩ := id h
  have hn := hO.1
  cases hb : mB a m
  · refine ⟨-1, up2 I 0 6 2, L, ?_, is8 (up2 I 0 6 2) 2, L, ?_, IV_q h (Q8_is (a := 2)) (RDY_is (RDY_s hR)) is8_0⟩
    · simp (config := { decide := true }) only [f_X7_normal, hasMoves_eq hO.2.1 hC.2.1 a, hb, obs, bnd_eq, is_0, is_1, is_2, is_3, is_4, is_5, is_6, is_9, tell_eq, refuse_eq, refuse8_eq, b2i_1, b2i_0, if_true, if_false, ↓reduceIte]
    · unfold f_X8_normal
      rw [ob (areMoves_eq (RDY_s (s := 2) hR).2.1 a), bnd_eq]
      dsimp only
      rw [hb, if_pos b2i_f, ob whyHere_2, ob is_2]
      dsimp only
      rw [if_pos b2i_f]
  · have hb1 := hasMoves_eq (L := L) hO.2.1 hC.2.1 a
    have hb2 : ∀ (J : MI) (M : ML), Nw J m mv st → f_X8_areMoves a J M = some true := fun J M hJ => by rw [areMoves_eq hJ a, hb]
    rw [hb] at hb1
    by_cases h0 : n = 0
    · have e0 : nI n = 0 := by rw [h0]; rfl
      refine ⟨-1, up2 I 0 6 5, L, ?_, is8 (up2 I 0 6 5) 5, L, ?_, IV_q h (Q8_is (a := 5)) (RDY_is (RDY_s hR)) is8_0⟩
      · simp (config := { decide := true }) only [f_X7_normal, hb1, hC.1, e0, obs, bnd_eq, is_0, is_1, is_2, is_3, is_4, is_5, is_6, is_9, tell_eq, refuse_eq, refuse8_eq, b2i_1, b2i_0, if_true, if_false, ↓reduceIte]
      · unfold f_X8_normal
        rw [ob (hb2 _ _ (RDY_s (s := 5) hR).2.1), bnd_eq]
        dsimp only
        rw [if_neg b2i_t, ob (whyHere_n (w := 0) (RDY_s (s := 5) hR).1 h0), ob is_5]
        dsimp only
        rw [if_pos b2i_f]
    · have e0 : ¬ nI n = 0 := nI_ne0 (by omega) (by omega)
      obtain ⟨s, hs, rfl⟩ := mB_t hb
      obtain ⟨c, hc⟩ := em_B (∀ j, j < m → ∀ x, Gen n (MS mv s m) x → Gen n (MS mv s m) (cj x (mv j)))
      obtain ⟨I1, L1, a1, a3, a4, a5⟩ := staysT_eq hO hC (by omega) hs hc
      have k1 : ∀ p, p = 1 ∨ p = 2 ∨ p = 42 ∨ (43 ≤ p ∧ p < 69) → up2 I1 0 6 0 p = I p := fun p hp => by rw [up2_ne (by omega), a4 p (by omega)]
      have R1 : RDY (up2 I1 0 6 0) n m mv st := hR.of (by rw [k1 43 (by decide)]) (by rw [k1 43 (by decide)]) (k1 44 (by decide)) (k1 52 (by decide)) (k1 53 (by decide))
      obtain ⟨I2, b1, b2, b3, b4, b5, b6⟩ := bld1 (L := L1) (k := 1) hO (RDY_is (a := 0) R1) hs (by decide) (by decide)
      have b1 : f_X8_builds 1 (nI s) (is8 (up2 I1 0 6 0) 0) L1 = some (I2, L1) := b1
      obtain ⟨b, I3, d1, d2, d3⟩ := no36 (L := L1) hO b3.2.1 b2 hs (fun (v2_32 : Int32) (I_33 : MI) (L_34 : ML) => if v2_32 = 0 then some (0, I_33, L_34) else some (1, I_33, L_34))
      have hbc : b = c := by
        rw [Bool.eq_iff_iff, d3, hc]
        have hsub : Sub n (Gen n (MS mv s m)) := Gen_Sub hn (MS_P hO.2.2.1 s)
        exact ⟨fun g j hj x hx => norm_gen hn (MS_P hO.2.2.1 s) hsub (hO.2.2.1 j hj) (fun y ⟨i, i1, i2, i3⟩ => by rw [i3]; exact g i i1 i2 j hj) x hx, fun g i hi hbt j hj => g j hj _ (Gen_in ⟨i, hi, hbt, rfl⟩)⟩
      have hcc : CO I L I1 L1 := ⟨fun p hp => a4 p (by omega), fun j _ => by rw [a4 0 (by decide)], a5 39 (by decide), a5 41 (by decide)⟩
      refine ⟨b2i c, up2 I1 0 6 0, L1, ?_, I3, L1, ?_, IV_fin h (CI_s a3) (hcc.trans CO_s) ((Q8_is.trans b4).trans (Q8_fr d2 (by decide))) (b3.fr d2 (by decide)) (by rw [up2_s, d2 43 (by decide), b5 43 (by decide)]; exact is8_0.symm)⟩
      · cases c <;> simp (config := { decide := true }) only [f_X7_normal, hb1, hC.1, e0, a1, obs, bnd_eq, is_0, is_1, is_2, is_3, is_4, is_5, is_6, is_9, tell_eq, refuse_eq, refuse8_eq, b2i_1, b2i_0, if_true, if_false, ↓reduceIte]
      · unfold f_X8_normal
        rw [ob (hb2 _ _ R1.2.1), bnd_eq]
        dsimp only
        rw [if_neg b2i_t, ob (whyHere_p R1.1 hn h0), ob is_0]
        dsimp only
        rw [if_neg b2i_t, ob b1]
        dsimp only
        rw [d1, hbc]
        cases c
        · rw [if_pos b2i_f]; rfl
        · rw [if_neg b2i_t]; rfl
end NO
