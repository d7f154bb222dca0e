/-! The fewest moves: the class -/
section FV
variable {n m N rm : Nat} {mv : Nat → Nat → Nat} {st : Nat → Nat} {I : MI} {L : ML} {e : Nat → Nat → Nat}
theorem anot_eq : ∀ a : Nat, a < 64 → ∀ b : Nat, b < 64 → nI a &&& (nI b ^^^ (-1)) = nI (a &&& (63 ^^^ b)) := by decide +kernel
theorem anot_tb : ∀ a : Nat, a < 64 → ∀ b : Nat, b < 64 → ∀ t : Nat, t < 6 → (a &&& (63 ^^^ b)).testBit t = (a.testBit t && !b.testBit t) := by
  intro a _ b _ t ht
  rw [Nat.testBit_and, Nat.testBit_xor, show (63 : Nat) = 2 ^ 6 - 1 from rfl, Nat.testBit_two_pow_sub_one, decide_eq_true ht, Bool.true_xor]
theorem clr_tb : ∀ a : Nat, a < 64 → ∀ j : Nat, j < 6 → ∀ t : Nat, t < 6 → (clr a j).testBit t = (a.testBit t && decide (t ≠ j)) := by decide +kernel
theorem pc_all : ∀ m : Nat, m < 7 → pc (2 ^ m - 1) = m := by decide +kernel
theorem sub_and {u v : Nat} (h : ∀ i, v.testBit i = true → u.testBit i = true) : u &&& v = v := Nat.eq_of_testBit_eq (fun i => by
  rw [Nat.testBit_and]
  cases hv : v.testBit i
  · rw [Bool.and_false]
  · rw [h i hv]; rfl)
theorem fm29 {W : Nat → Prop} {nec c : Nat} (hO : OKm n m mv st) (hC : CI I L rm n m mv st) (he : EL n (Gp n m mv) N e) (hW : ∀ s, W s ↔ En (Gen n (MS mv s m)) N) (hn1 : nec < 2 ^ m) (hnec : ∀ u, u < 2 ^ m → W u → ∀ i, nec.testBit i = true → u.testBit i = true) (hc : c ≤ 10) (k0 : MI → ML → Option (Int32 × Mm)) : ∃ I' L', CI I' L' rm n m mv st ∧ (∀ p, p < 15 ∨ 29 < p → I' p = I p) ∧ (∀ p, p < 15 ∨ 29 ≤ p → L' p = L p) ∧ ((∃ v, f_X2_fewestMoves_29 (nI (2 ^ m - 1)) (nI nec) (nI c) k0 FU (nI nec) I L = some (nI v, I', L') ∧ W v ∧ v < 2 ^ m ∧ pc v = c ∧ ∀ u, u < v → pc u = c → ¬ W u) ∨ (f_X2_fewestMoves_29 (nI (2 ^ m - 1)) (nI nec) (nI c) k0 FU (nI nec) I L = k0 I' L' ∧ ∀ u, u < 2 ^ m → pc u = c → ¬ W u)) := by
  have hn := hO.1
  have hm := hO.2.1
  have hp2 : 2 ^ m ≤ 2 ^ 6 := Nat.pow_le_pow_right (by decide) hm
  have hp1 := Nat.two_pow_pos m
  have hNb := EL_N hO he
  have hlow : ∀ u, u < 2 ^ m → W u → nec ≤ u := fun u hu hw => by
    have := sub_and (hnec u hu hw)
    rw [← this]; exact Nat.and_le_left
  have := loop0 (fun fu (z : Int32 × MI × ML) => f_X2_fewestMoves_29 (nI (2 ^ m - 1)) (nI nec) (nI c) k0 fu z.1 z.2.1 z.2.2) (fun d z => nec + d ≤ 2 ^ m ∧ z.1 = nI (nec + d) ∧ CI z.2.1 z.2.2 rm n m mv st ∧ (∀ p, p < 15 ∨ 29 < p → z.2.1 p = I p) ∧ (∀ p, p < 15 ∨ 29 ≤ p → z.2.2 p = L p) ∧ ∀ u, u < nec + d → pc u = c → ¬ W u) (fun o => ∃ I' L', CI I' L' rm n m mv st ∧ (∀ p, p < 15 ∨ 29 < p → I' p = I p) ∧ (∀ p, p < 15 ∨ 29 ≤ p → L' p = L p) ∧ ((∃ v, o = some (nI v, I', L') ∧ W v ∧ v < 2 ^ m ∧ pc v = c ∧ ∀ u, u < v → pc u = c → ¬ W u) ∨ (o = k0 I' L' ∧ ∀ u, u < 2 ^ m → pc u = c → ¬ W u))) (2 ^ m - nec) (by omega) (nI nec, I, L) ⟨by omega, rfl, hC, fun _ _ => rfl, fun _ _ => rfl, fun u hu _ hw => by have := hlow u (by omega) hw; omega⟩
    (fun fu d z hd hP => by
      obtain ⟨z1, K, M⟩ := z
      obtain ⟨p0, p1, p2, p3, p4, p5⟩ := hP
      dsimp only at p1 p2 p3 p4 ⊢
      subst p1
      rw [f_X2_fewestMoves_29, ifc (q_lt (by omega) (by omega))]
      by_cases c1 : 2 ^ m - 1 < nec + d
      · left
        rw [if_pos c1]
        exact ⟨K, M, p2, p3, p4, Or.inr ⟨rfl, fun u hu => p5 u (by omega)⟩⟩
      · have hpv : cT (fun i => (nec + d).testBit i) 10 ≤ 10 := cT_le _ _
        rw [if_neg c1, ob (bitCount_all _ (by omega)), ifc (q_eq (by omega) (by omega))]
        have skip : (∀ u, u < nec + d + 1 → pc u = c → ¬ W u) → ∀ (K' : MI) (M' : ML), CI K' M' rm n m mv st → (∀ p, p < 15 ∨ 29 < p → K' p = I p) → (∀ p, p < 15 ∨ 29 ≤ p → M' p = L p) → d < 2 ^ m - nec ∧ ∃ s' : Int32 × MI × ML, bnd (nI (nec + d) + 1 : Int32) (fun v5_16 => f_X2_fewestMoves_29 (nI (2 ^ m - 1)) (nI nec) (nI c) k0 fu v5_16 K' M') = f_X2_fewestMoves_29 (nI (2 ^ m - 1)) (nI nec) (nI c) k0 fu s'.1 s'.2.1 s'.2.2 ∧ nec + (d + 1) ≤ 2 ^ m ∧ s'.1 = nI (nec + (d + 1)) ∧ CI s'.2.1 s'.2.2 rm n m mv st ∧ (∀ p, p < 15 ∨ 29 < p → s'.2.1 p = I p) ∧ (∀ p, p < 15 ∨ 29 ≤ p → s'.2.2 p = L p) ∧ ∀ u, u < nec + (d + 1) → pc u = c → ¬ W u := fun hu K' M' q1 q2 q3 => ⟨by omega, (nI (nec + (d + 1)), K', M'), by rw [bnd_eq, nI_1]; rfl, by omega, rfl, q1, q2, q3, hu⟩
        by_cases c2 : pc (nec + d) = c
        · rw [if_pos (show cT (fun i => (nec + d).testBit i) 10 = c from c2), q_and, ifc (q_eq (Nat.lt_of_le_of_lt Nat.and_le_left (by omega)) (by omega))]
          by_cases c3 : (nec + d) &&& nec = nec
          · obtain ⟨Ns, K1, M1, a1, a2, a3, a4, a5⟩ := sizeBy_eq hO p2 (show nec + d < 2 ^ m by omega)
            have hNs := En_bd hn (Gen_Sub hn (MS_P hO.2.2.1 _)) a2
            rw [if_pos c3, ob a1]
            dsimp only
            rw [ob (size2_eq hO a3 he), ifc (q_eq (by omega) (by omega))]
            by_cases c4 : Ns = N
            · left
              rw [if_pos c4]
              exact ⟨K1, M1, a3, fun p hp => (a4 p hp).trans (p3 p hp), fun p hp => (a5 p hp).trans (p4 p hp), Or.inl ⟨nec + d, rfl, (hW _).mpr (c4 ▸ a2), by omega, c2, p5⟩⟩
            · right
              rw [if_neg c4]
              refine skip (fun u hu hpu hw => ?_) K1 M1 a3 (fun p hp => (a4 p hp).trans (p3 p hp)) (fun p hp => (a5 p hp).trans (p4 p hp))
              by_cases e1 : u = nec + d
              · subst e1; exact c4 (En_un a2 ((hW _).mp hw))
              · exact p5 u (by omega) hpu hw
          · right
            rw [if_neg c3]
            refine skip (fun u hu hpu hw => ?_) K M p2 p3 p4
            by_cases e1 : u = nec + d
            · subst e1; exact c3 (sub_and (hnec _ (by omega) hw))
            · exact p5 u (by omega) hpu hw
        · right
          rw [if_neg (show ¬ cT (fun i => (nec + d).testBit i) 10 = c from c2)]
          refine skip (fun u hu hpu hw => ?_) K M p2 p3 p4
          by_cases e1 : u = nec + d
          · subst e1; exact c2 hpu
          · exact p5 u (by omega) hpu hw)
  exact this
theorem pc_n {u : Nat} (hm : m ≤ 6) (hu : u < 2 ^ m) : pc u ≤ m := by
  have : pc u = cT (fun i => u.testBit i) m := cT_more 10 (by omega) (fun i hi => Nat.testBit_lt_two_pow (Nat.lt_of_lt_of_le hu (Nat.pow_le_pow_right (by decide) hi)))
  rw [this]; exact cT_le _ _
theorem fm17 {W : Nat → Prop} {nec : Nat} (hO : OKm n m mv st) (hC : CI I L rm n m mv st) (he : EL n (Gp n m mv) N e) (hW : ∀ s, W s ↔ En (Gen n (MS mv s m)) N) (hall : W (2 ^ m - 1)) (hn1 : nec < 2 ^ m) (hnec : ∀ u, u < 2 ^ m → W u → ∀ i, nec.testBit i = true → u.testBit i = true) : ∃ v I' L', f_X2_fewestMoves_17 (nI (2 ^ m - 1)) (nI nec) FU (nI (pc nec)) I L = some (nI v, I', L') ∧ FWs m W v ∧ CI I' L' rm n m mv st ∧ (∀ p, p < 15 ∨ 29 < p → I' p = I p) ∧ (∀ p, p < 15 ∨ 29 ≤ p → L' p = L p) := by
  have hm := hO.2.1
  have hp1 := Nat.two_pow_pos m
  have hpn := pc_n hm hn1
  have := loop0 (fun fu (z : Int32 × MI × ML) => f_X2_fewestMoves_17 (nI (2 ^ m - 1)) (nI nec) fu z.1 z.2.1 z.2.2) (fun d z => pc nec + d ≤ m ∧ z.1 = nI (pc nec + d) ∧ CI z.2.1 z.2.2 rm n m mv st ∧ (∀ p, p < 15 ∨ 29 < p → z.2.1 p = I p) ∧ (∀ p, p < 15 ∨ 29 ≤ p → z.2.2 p = L p) ∧ ∀ u, u < 2 ^ m → W u → pc nec + d ≤ pc u) (fun o => ∃ v I' L', o = some (nI v, I', L') ∧ FWs m W v ∧ CI I' L' rm n m mv st ∧ (∀ p, p < 15 ∨ 29 < p → I' p = I p) ∧ (∀ p, p < 15 ∨ 29 ≤ p → L' p = L p)) (m - pc nec) (by omega) (nI (pc nec), I, L) ⟨hpn, rfl, hC, fun _ _ => rfl, fun _ _ => rfl, fun u hu hw => cT_imp (hnec u hu hw) 10⟩
    (fun fu d z hd hP => by
      obtain ⟨z1, K, M⟩ := z
      obtain ⟨p0, p1, p2, p3, p4, p5⟩ := hP
      dsimp only at p1 p2 p3 p4 ⊢
      subst p1
      rw [f_X2_fewestMoves_17, p2.2.1, ifc (q_le (by omega) (by omega))]
      by_cases c1 : m ≤ pc nec + d
      · left
        rw [if_pos c1]
        refine ⟨2 ^ m - 1, K, M, rfl, ⟨hall, by omega, fun u hu hw => ?_⟩, p2, p3, p4⟩
        have h1 := p5 u hu hw
        have h2 := pc_n hm hu
        have h3 := pc_all m (by omega)
        have hu2 : u = 2 ^ m - 1 := by
          refine Classical.byContradiction fun hne => ?_
          have hlt := cnS_lt (n := 10) (s := u) (s' := 2 ^ m - 1) (Nat.lt_of_lt_of_le (show 2 ^ m - 1 < 2 ^ m by omega) (Nat.pow_le_pow_right (by decide) (by omega))) (fun i hi => by rw [Nat.testBit_two_pow_sub_one]; exact decide_eq_true (tb_lt hu hi)) hne
          unfold cnS at hlt
          have h4 : pc u < pc (2 ^ m - 1) := hlt
          omega
        right
        rw [hu2]; exact ⟨rfl, Nat.le_refl _⟩
      · rw [if_neg c1]
        generalize hk0 : (fun (I_21 : MI) (L_22 : ML) => bnd (nI (pc nec + d) + 1 : Int32) (fun v4_23 => f_X2_fewestMoves_17 (nI (2 ^ m - 1)) (nI nec) fu v4_23 I_21 L_22)) = k0
        obtain ⟨K1, M1, a1, a2, a3, a4⟩ := fm29 (c := pc nec + d) hO p2 he hW hn1 hnec (by omega) k0
        rcases a4 with ⟨v, v1, v2, v3, v4, v5⟩ | ⟨v1, v2⟩
        · left
          rw [v1]
          refine ⟨v, K1, M1, rfl, ⟨v2, v3, fun u hu hw => ?_⟩, a1, fun p hp => (a2 p hp).trans (p3 p hp), fun p hp => (a3 p hp).trans (p4 p hp)⟩
          have h1 := p5 u hu hw
          by_cases e1 : pc u = pc nec + d
          · right
            refine ⟨by omega, Nat.le_of_not_lt fun hlt => v5 u hlt e1 hw⟩
          · left; omega
        · right
          refine ⟨by omega, (nI (pc nec + (d + 1)), K1, M1), ?_, by omega, rfl, a1, fun p hp => (a2 p hp).trans (p3 p hp), fun p hp => (a3 p hp).trans (p4 p hp), fun u hu hw => ?_⟩
          · rw [v1, ← hk0]
            dsimp only
            rw [bnd_eq, nI_1]
            rfl
          · have h1 := p5 u hu hw
            have h2 : pc u ≠ pc nec + d := fun g => v2 u hu g hw
            omega)
  exact this
theorem PR_40h : PR_40 Inv := by
  intro I L rm ⟨n, m, mv, st, h⟩
  obtain ⟨hO, hC, hR, hP, hT, hU, hF, hS⟩ := id h
  have hn := hO.1
  have hm := hO.2.1
  have hG := Gp_Sub hn hO.2.2.1
  obtain ⟨N, e, he⟩ := EL_ex hn hG
  have hE := EL_En he
  have hp2 : 2 ^ m ≤ 2 ^ 6 := Nat.pow_le_pow_right (by decide) hm
  have hp1 := Nat.two_pow_pos m
  by_cases h0 : n = 0
  · have e0 : nI n = 0 := by rw [h0]; rfl
    refine ⟨-1, up2 I 0 6 5, L, ?_, is8 (up2 I 0 6 5) 5, L, ?_, IV_q h (Q8_is (a := 5)) (RDY_is (RDY_s hR)) is8_0⟩
    · simp (config := { decide := true }) only [f_X7_fewest, hC.1, e0, obs, bnd_eq, is_0, is_1, is_2, is_3, is_4, is_5, is_6, is_9, tell_eq, refuse_eq, refuse8_eq, b2i_1, b2i_0, if_true, if_false, ↓reduceIte]
    · simp (config := { decide := true }) only [f_X8_fewest, whyHere_n (w := 0) (RDY_s (s := 5) hR).1 h0, obs, bnd_eq, is_0, is_1, is_2, is_3, is_4, is_5, is_6, is_9, tell_eq, refuse_eq, refuse8_eq, b2i_1, b2i_0, if_true, if_false, ↓reduceIte]
  · have e0 : ¬ nI n = 0 := nI_ne0 (by omega) (by omega)
    obtain ⟨B, hB⟩ := dec_ex (fun j => En (Gen n (MS mv (clr (2 ^ m - 1) j) m)) N)
    obtain ⟨I1, L1, a1, a3, a4, a5⟩ := spareM_eq hO hC he (fun j _ => hB j)
    have hsp : oS B m < 2 ^ m := oS_lt B m
    have hW : ∀ s, (fun s => En (Gen n (MS mv s m)) N) s ↔ En (Gen n (MS mv s m)) N := fun _ => Iff.rfl
    generalize hWd : (fun s => En (Gen n (MS mv s m)) N) = W at hW
    have hall : W (2 ^ m - 1) := (hW _).mpr hE
    obtain ⟨nec, hnd⟩ : ∃ nec, nec = (2 ^ m - 1) &&& (63 ^^^ oS B m) := ⟨_, rfl⟩
    have hn1 : nec < 2 ^ m := by rw [hnd]; exact Nat.lt_of_le_of_lt Nat.and_le_left (by omega)
    have hnec : ∀ u, u < 2 ^ m → W u → ∀ i, nec.testBit i = true → u.testBit i = true := fun u hu hw i hi => by
      have him := tb_lt hn1 hi
      rw [hnd, anot_tb _ (by omega) _ (by omega) i (by omega), Bool.and_eq_true, oS_tb, decide_eq_true him, Bool.true_and] at hi
      cases hb : u.testBit i
      · have : B i = true := (hB i).mpr (W_mono hn hO.2.2.1 hE (fun t ht => by
          have htm := tb_lt hu ht
          rw [clr_tb _ (by omega) i (by omega) t (by omega), tb_m m htm, Bool.true_and]
          exact decide_eq_true (fun g => by rw [g, hb] at ht; cases ht)) ((hW u).mp hw))
        rw [this] at hi
        exact absurd hi.2 (by decide)
      · rfl
    obtain ⟨v, I2, L2, b1, b2, b3, b4, b5⟩ := fm17 hO a3 he hW hall hn1 hnec
    have k1 : ∀ p, p = 1 ∨ p = 2 ∨ p = 42 ∨ (43 ≤ p ∧ p < 69) → up2 I2 0 6 0 p = I p := fun p hp => by rw [up2_ne (by omega), b4 p (by omega), a4 p (by omega)]
    have R1 : RDY (up2 I2 0 6 0) n m mv st := hR.of (by rw [k1 43 (by decide)]) (by rw [k1 43 (by decide)]) (k1 44 (by decide)) (k1 52 (by decide)) (k1 53 (by decide))
    have R2 := RDY_is (a := 0) R1
    obtain ⟨v', I3, c1, c2, c3, c4, c5⟩ := fewest25 (L := L2) hO R2 he hW hall
    rw [FWs_un c2 b2] at c1
    have hc : CO I L I2 L2 := ⟨fun p hp => (b4 p (by omega)).trans (a4 p (by omega)), fun j _ => by rw [b4 0 (by decide), a4 0 (by decide)], (b5 39 (by decide)).trans (a5 39 (by decide)), (b5 41 (by decide)).trans (a5 41 (by decide))⟩
    refine ⟨nI v, up2 I2 0 6 0, L2, ?_, I3, L2, ?_, IV_fin h (CI_s b3) (hc.trans CO_s) (Q8_is.trans c4) c3 (by rw [up2_s, c5]; exact is8_0.symm)⟩
    · have fm : f_X2_fewestMoves (nI (oS B m)) I1 L1 = some (nI v, I2, L2) := by
        unfold f_X2_fewestMoves
        rw [ob (every_eq hm a3.2.1), anot_eq _ (by omega) _ (by omega), ← hnd, bnd_eq, ob (bitCount_all _ (by omega))]
        exact b1
      simp (config := { decide := true }) only [f_X7_fewest, hC.1, e0, a1, fm, obs, bnd_eq, is_0, is_1, is_2, is_3, is_4, is_5, is_6, is_9, tell_eq, refuse_eq, refuse8_eq, b2i_1, b2i_0, if_true, if_false, ↓reduceIte]
    · unfold f_X8_fewest
      rw [ob (whyHere_p R1.1 hn h0), ob is_0]
      dsimp only
      rw [if_neg b2i_t, ob (moves_eq R2.2.1), q_shl1 (by omega), show (1 : Int32) = nI 1 from rfl, pk_sub (Nat.two_pow_pos m), bnd_eq]
      exact c1
end FV
