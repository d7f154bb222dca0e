/-! Holding a set of points: the call -/
section HR
variable {n m rm : Nat} {mv : Nat → Nat → Nat} {st : Nat → Nat} {I : MI} {L : ML}
theorem h127 {g : Nat → Nat} {j : Nat} {v1 : Int32} (hO : OKm n m mv st) (hg : IsP 10 g) (hN : Nw I m mv st) (hj : j < m) (r46 : Row I 46 0 (iv g)) (r47 : Row I 47 0 g) (k0 : MI → Option (Int32 × Mm)) : f_X8_holds_127 v1 (nI j) L k0 FU 0 I = k0 (wp I 48 0 (cv mv g j)) := by
  have hm := hO.2.1
  have hmP := IsP_mono (hO.2.2.1 j hj) hO.1
  have hiv := IsP_iv (Nat.le_refl 10) hg
  have := for0 (fun fu (z : Int32 × MI) => f_X8_holds_127 v1 (nI j) L k0 fu z.1 z.2) (fun x => (nI x, wr I 48 0 x (fun t => nI (cv mv g j t)))) 10 (k0 (wp I 48 0 (cv mv g j))) (by decide)
    (fun fu => by
      dsimp only
      rw [f_X8_holds_127, if_pos (by decide)]
      rfl)
    (fun fu x hx => by
      dsimp only
      have i1 := hiv.1 x hx
      have i2 := hmP.1 _ i1
      have i3 := hg.1 _ i2
      have ad : ((11 : Int32) + 10 * nI j) + nI (iv g x) = nI (11 + 10 * j + iv g x) := by rw [show (11 : Int32) = nI 11 from rfl, show (10 : Int32) = nI 10 from rfl, pk_mul, nI_add, nI_add]
      rw [f_X8_holds_127, if_neg (ge10 hx), q_chk hx (by decide), q_ix (by omega), wr_ne (show 46 ≠ 48 by decide), Row0 r46 hx, ad, q_chk (by omega) (by decide), q_ix (by omega), wr_ne (show 44 ≠ 48 by decide), hN.2.2.1 j hj (iv g x) i1, q_chk i2 (by decide), q_chk hx (by decide), bnd_eq, q_ix (by omega), wr_ne (show 47 ≠ 48 by decide), Row0 r47 i2, wr_s0 (v := nI (g (mv j (iv g x)))) (f := fun t => nI (cv mv g j t)) rfl, bnd_eq, nI_1])
  rw [wr_0, nI_0] at this
  exact this
theorem h116 {g : Nat → Nat} {v1 : Int32} (hO : OKm n m mv st) (hg : IsP n g) (hN : Nw I m mv st) (r46 : Row I 46 0 (iv g)) (r47 : Row I 47 0 g) (h1 : SlotG I 1 (fun p => p = idp)) (k0 : MI → ML → Option (Int32 × Mm)) : ∃ I', f_X8_holds_116 v1 k0 FU 0 I L = k0 I' L ∧ SlotG I' 1 (Gp n m (cv mv g)) ∧ Fr (48 :: SC) I I' ∧ FrS 1 I I' := by
  have hn := hO.1
  have hm := hO.2.1
  have g10 := IsP_mono hg hn
  have hcP := cv_P hn hO.2.2.1 hg
  have := loop0 (fun fu (z : Int32 × MI × ML) => f_X8_holds_116 v1 k0 fu z.1 z.2.1 z.2.2) (fun t z => t ≤ m ∧ z.1 = nI t ∧ z.2.2 = L ∧ SlotG z.2.1 1 (Gen 10 (MS (cv mv g) (2 ^ m - 1) t)) ∧ Fr (48 :: SC) I z.2.1 ∧ FrS 1 I z.2.1) (fun o => ∃ I', o = k0 I' L ∧ SlotG I' 1 (Gp n m (cv mv g)) ∧ Fr (48 :: SC) I I' ∧ FrS 1 I I') m (by omega) (nI 0, I, L) ⟨Nat.zero_le _, rfl, rfl, by dsimp only; rw [MS_0 (Nat.le_refl 10)]; exact h1, Fr.refl, FrS.refl⟩
    (fun fu t z ht hP => by
      obtain ⟨z1, K, M⟩ := z
      obtain ⟨_, p1, p2, p3, p4, p5⟩ := hP
      dsimp only at p1 p2 p3 p4 p5 ⊢
      subst p1 p2
      have hNK := hN.fr (I' := K) (p4 44 (by decide))
      rw [f_X8_holds_116, ob (moves_eq hNK), ifc (q_le (by omega) (by omega))]
      by_cases c1 : m ≤ t
      · left
        rw [if_pos c1]
        refine ⟨K, rfl, ?_, p4, p5⟩
        rw [show t = m by omega, Gen_10 hn (MS_P hcP _)] at p3
        exact p3
      · right
        rw [if_neg c1]
        generalize hk1 : (fun (I_40 : MI) => Option.bind (f_X8_adds 1 48 I_40 M) (fun q_41 => bnd (nI t + 1 : Int32) (fun v3_42 => f_X8_holds_116 v1 k0 fu v3_42 q_41.1 q_41.2))) = k1
        rw [h127 (I := K) (L := M) hO g10 hNK (show t < m by omega) (Row_of (p4 46 (by decide)) r46) (Row_of (p4 47 (by decide)) r47) k1]
        obtain ⟨K1, a1, a2, a3, a4⟩ := adds_eq (I := wp K 48 0 (cv mv g t)) (L := M) (s := 1) (by decide) (p3.fr (wp_ne (by decide)) (wp_ne (by decide))) (a := 48) (by decide) Row_wp (IsP_mono (hcP t (by omega)) hn)
        have a1 : f_X8_adds 1 48 (wp K 48 0 (cv mv g t)) M = some (K1, M) := a1
        have f1 : Fr (48 :: SC) K (wp K 48 0 (cv mv g t)) := Fr_wp (by decide)
        refine ⟨by omega, (nI (t + 1), K1, M), ?_, by omega, rfl, rfl, by dsimp only; rw [← MS_t (tb_m m (show t < m by omega))]; exact a2, (p4.trans f1).trans (a3.mono (by decide)), p5.trans ((FrS.of (wp_ne (by decide)) (wp_ne (by decide))).trans a4)⟩
        rw [← hk1]
        dsimp only
        rw [ob a1]
        dsimp only
        rw [bnd_eq, nI_1])
  rw [nI_0] at this
  exact this
theorem PR_41h : PR_41 Inv := by
  intro I L rm a ⟨n, m, mv, st, h⟩
  obtain ⟨hO, hC, hR, hP, hT, hU, hF, hS⟩ := id h
  have hn := hO.1
  cases hb : sB a n
  · refine ⟨-1, up2 I 0 6 2, L, ?_, is8 (up2 I 0 6 2) 2, L, ?_, IV_q h (Q8_is (a := 2)) (RDY_is (RDY_s hR)) is8_0⟩
    · simp (config := { decide := true }) only [f_X7_holds, hasSet_eq hC.1 hn a, hb, obs, bnd_eq, is_0, is_1, is_2, is_3, is_4, is_5, is_6, is_9, tell_eq, refuse_eq, refuse8_eq, b2i_1, b2i_0, if_true, if_false, ↓reduceIte]
    · unfold f_X8_holds
      rw [ob (isSet_eq (RDY_s (s := 2) hR).1 hn a), bnd_eq]
      dsimp only
      rw [hb, if_pos b2i_f, ob is_2]
      dsimp only
      rw [if_pos b2i_f]
  · have hb1 := hasSet_eq (L := L) hC.1 hn a
    have hb2 : ∀ (J : MI) (M : ML), J 43 2 = nI n → f_X8_isSet a J M = some true := fun J M hJ => by rw [isSet_eq hJ hn a, hb]
    rw [hb] at hb1
    obtain ⟨s, s1, s2, rfl⟩ := sB_t hn hb
    have h2n := (two_n hn).2
    obtain ⟨N, I1, L1, a1, a2, a3, a4, a5⟩ := countH_eq hO hC s2
    have k1 : ∀ p, p = 1 ∨ p = 2 ∨ p = 42 ∨ (43 ≤ p ∧ p < 69) → up2 I1 0 6 0 p = I p := fun p hp => by rw [up2_ne (by omega), a4 p (by omega)]
    have R1 : RDY (up2 I1 0 6 0) n m mv st := hR.of (by rw [k1 43 (by decide)]) (by rw [k1 43 (by decide)]) (k1 44 (by decide)) (k1 52 (by decide)) (k1 53 (by decide))
    have R2 := RDY_is (a := 0) R1
    have gP := hg_P (n := n) s
    have g10 := IsP_mono gP hn
    generalize hk1 : (fun (I_43 : MI) (L_44 : ML) => Option.bind (f_X8_bits (nI s)) (fun q_45 => Option.bind (f_X8_orderFrom 1 q_45 I_43 L_44) (fun q_46 => some (q_46, I_43, L_44)))) = k2
    generalize hk2 : (fun (I_25 : MI) => Option.bind (f_X8_copies 51 10 0 46 10 0 I_25 L1) (fun q_26 => Option.bind (f_X8_inverts 46 47 q_26.1 q_26.2) (fun q_27 => Option.bind (f_X8_clears 1 q_27.1 q_27.2) (fun q_28 => f_X8_holds_116 (nI s) k2 FU 0 q_28.1 q_28.2)))) = k3
    obtain ⟨K, b1, b2, b3⟩ := h26 (I := is8 (up2 I1 0 6 0) 0) (L := L1) (show s < 1024 by omega) k3
    rw [hg_10 hn s2] at b3
    have hivP := IsP_iv (Nat.le_refl 10) g10
    have R3 := R2.fr b2 (by decide)
    have f1 : Fr [46, 47] K (wp (wp K 46 0 (iv (hg s n))) 47 0 (iv (iv (hg s n)))) := (Fr_wp (by decide)).trans (Fr_wp (by decide))
    have R4 := R3.fr f1 (by decide)
    obtain ⟨K1, c1, c2, c3, c4⟩ := clears_eq (s := 1) (by decide) (I := wp (wp K 46 0 (iv (hg s n))) 47 0 (iv (iv (hg s n)))) (L := L1)
    have c1 : f_X8_clears 1 (wp (wp K 46 0 (iv (hg s n))) 47 0 (iv (iv (hg s n)))) L1 = some (K1, L1) := c1
    have hNK1 : Nw K1 m mv st := R4.2.1.fr (c3 44 (by decide))
    have r46 : Row K1 46 0 (iv (hg s n)) := Row_of (c3 46 (by decide)) (Row_ne (by decide) Row_wp)
    have r47 : Row K1 47 0 (hg s n) := by
      have : Row K1 47 0 (iv (iv (hg s n))) := Row_of (c3 47 (by decide)) Row_wp
      rw [iv_iv (Nat.le_refl 10) g10] at this; exact this
    obtain ⟨K2, d1, d2, d3, d4⟩ := h116 (I := K1) (L := L1) (v1 := nI s) hO gP hNK1 r46 r47 c2 k2
    have c3' : Fr (48 :: SC) (wp (wp K 46 0 (iv (hg s n))) 47 0 (iv (iv (hg s n)))) K1 := c3.mono (by decide)
    have R5 := (R4.frS c3' c4 (by decide)).frS d3 d4 (by decide)
    obtain ⟨T, hS2, hT2, hG2, _⟩ := id d2
    have hsubn := Gp_Sub hn (cv_P hn hO.2.2.1 gP)
    have hkn := cT_le (fun i => s.testBit i) n
    have ek : pc s = cT (fun i => s.testBit i) n := cT_more 10 hn (fun i hi => Nat.testBit_lt_two_pow (Nat.lt_of_lt_of_le s2 (Nat.pow_le_pow_right (by decide) hi)))
    have orf := orderFrom_eq (I := K2) (L := L1) (s := 1) (l := cT (fun i => s.testBit i) n) (by decide) (by omega)
    rw [sz_n hn hsubn hT2 hkn, ← a2 _ _ (TabG_n hn hsubn hT2)] at orf
    have orf : f_X8_orderFrom 1 (nI (cT (fun i => s.testBit i) n)) K2 L1 = some (nI N) := orf
    have bt := bits_eq2 (v := s) (by omega)
    rw [ek] at bt
    have hc : CO I L I1 L1 := ⟨fun p hp => a4 p (by omega), fun j _ => by rw [a4 0 (by decide)], a5 39 (by decide), a5 41 (by decide)⟩
    refine ⟨nI N, up2 I1 0 6 0, L1, ?_, K2, L1, ?_, IV_fin h (CI_s a3) (hc.trans CO_s) ((((Q8_is.trans (Q8_fr b2 (by decide))).trans (Q8_fr f1 (by decide))).trans (Q8_48 c3')).trans (Q8_48 d3)) R5 (by rw [up2_s, d3 43 (by decide), c3' 43 (by decide), f1 43 (by decide), b2 43 (by decide)]; exact is8_0.symm)⟩
    · simp (config := { decide := true }) only [f_X7_holds, hb1, a1, obs, bnd_eq, is_0, is_1, is_2, is_3, is_4, is_5, is_6, is_9, tell_eq, refuse_eq, refuse8_eq, b2i_1, b2i_0, if_true, if_false, ↓reduceIte]
    · unfold f_X8_holds
      rw [ob (hb2 _ _ R1.1), bnd_eq]
      dsimp only
      rw [if_neg b2i_t, ob is_0]
      dsimp only
      rw [if_neg b2i_t, hk1, hk2, b1, ← hk2]
      dsimp only
      rw [ob (copies10 b3 (show 51 ≠ 46 by decide))]
      dsimp only
      rw [ob (inverts_eq Row_wp hivP (show 46 ≠ 47 by decide))]
      dsimp only
      rw [ob c1]
      dsimp only
      rw [d1, ← hk1]
      dsimp only
      rw [ob bt, ob orf]
end HR
