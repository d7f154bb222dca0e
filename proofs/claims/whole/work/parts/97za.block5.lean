/-! Blocks: the call -/
section BE
variable {n m rm : Nat} {mv : Nat → Nat → Nat} {st : Nat → Nat} {I : MI} {L : ML}
theorem r139 {a : Nat} {B : Nat → Bool} (hn : n ≤ 10) (h43 : I 43 2 = nI n) (ha : a < n) (hB : ∀ x, x < n → (B x = true ↔ I 64 x = I 64 a)) : f_X8_blockOf_139 (nI a) I L FU 0 0 = some (nI (oS B n), I, L) := by
  have := for0 (fun fu z => f_X8_blockOf_139 (nI a) I L fu z.1 z.2) (fun i => (nI (oS B i), nI i)) n (some (nI (oS B n), I, L)) (by omega)
    (fun fu => by
      dsimp only
      rw [f_X8_blockOf_139, h43, if_pos (by rw [q_le (by omega) (by omega)]; omega)])
    (fun fu i hi => by
      dsimp only
      rw [f_X8_blockOf_139, h43, if_neg (by rw [q_le (by omega) (by omega)]; omega), q_chk (by omega) (by decide), q_chk (by omega) (by decide), q_ix (by omega), q_ix (by omega)]
      cases c : B i
      · rw [if_neg (fun g => by rw [(hB i hi).mpr g] at c; cases c), bnd_eq, bnd_eq, nI_1, show (0 : Int32) = nI 0 from rfl, q_or, Nat.or_zero, oS_f c]
      · rw [if_pos ((hB i hi).mp c), bnd_eq, bnd_eq, nI_1, q_shl1 (by omega), q_or, oS_t c])
  rw [nI_0] at this
  exact this
theorem blockR_eq {a b : Nat} {B : Nat → Bool} (hO : OKm n m mv st) (h43 : I 43 2 = nI n) (hN : Nw I m mv st) (ha : a < n) (hb : b < n) (hab : a ≠ b) (hB : ∀ x, x < n → (B x = true ↔ Blk m mv a b x a)) : ∃ I', f_X8_blockOf (nI a) (nI b) I L = some (nI (oS B n), I', L) ∧ Fr [64] I I' := by
  have hn := hO.1
  have f0 : Fr [64] I (wp I 64 0 idp) := Fr_wp (by decide)
  have e64 : ∀ x, x < 10 → wp I 64 0 idp 64 x = nI x := fun x hx => Row0 (Row_wp (I := I) (to := 64) (wh := 0) (p := idp)) hx
  obtain ⟨K, g1, g2, g3⟩ := joins_eq (I := wp I 64 0 idp) (L := L) (u := a) (v := b) (c := true) (by omega) (by omega) ⟨fun _ g => by
    rw [e64 a (by omega), e64 b (by omega)] at g
    exact hab ((q_eq (show a < 2 ^ 31 by omega) (show b < 2 ^ 31 by omega)).mp g), fun _ => rfl⟩
  have lK : ∀ x, x < n → K 64 x = nI (if x = b then a else x) := fun x hx => by
    rw [g2 x (by omega), e64 x (by omega), e64 a (by omega), e64 b (by omega)]
    by_cases c : x = b
    · rw [if_pos (by rw [c]), if_pos c]
    · rw [if_neg (fun g => c ((q_eq (show x < 2 ^ 31 by omega) (show b < 2 ^ 31 by omega)).mp g)), if_neg c]
  obtain ⟨l1, k, l2, l3⟩ := LB_0 (m := m) (mv := mv) hn ha hb hab lK
  have f1 := f0.trans g3
  obtain ⟨K1, u1, u2, u3⟩ := r16 (I := K) (L := L) (v1 := nI a) hO (by rw [f1 43 (by decide)]; exact h43) (hN.fr (f1 44 (by decide))) ha hb l2 l3 l1 (fun (I_41 : MI) (L_42 : ML) => f_X8_blockOf_139 (nI a) I_41 L_42 FU 0 0)
  have f2 := f1.trans u2
  refine ⟨K1, ?_, f2⟩
  unfold f_X8_blockOf
  rw [ob isHome_eq]
  dsimp only
  rw [ob g1]
  dsimp only
  rw [u1]
  exact r139 hn (by rw [f2 43 (by decide)]; exact h43) ha (fun x hx => (hB x hx).trans (u3 x a hx ha).symm)
theorem PR_44h : PR_44 Inv := by
  intro I L rm a b ⟨n, m, mv, st, h⟩
  obtain ⟨hO, hC, hR, hP, hT, hU, hF, hS⟩ := id h
  have hn := hO.1
  have hp1 := hasPoint_eq (L := L) hC.1 hn a
  have hp2 := hasPoint_eq (L := L) hC.1 hn b
  have ip : ∀ (x : Int32) (J : MI), J 43 2 = nI n → f_X8_isPoint x J L = some (rB x n) := fun x J hJ => isPoint_eq hJ hn x
  have fail : ∀ (s : Int32), f_X7_block a b I L = some (-1, up2 I 0 6 s, L) → f_X8_block a b (up2 I 0 6 s) L = some (-1, is8 (up2 I 0 6 s) s, L) → ∃ (r : Int32) (I1 : MI) (L1 : ML), f_X7_block a b I L = some (r, I1, L1) ∧ ∃ (I2 : MI) (L2 : ML), f_X8_block a b I1 L1 = some (r, I2, L2) ∧ Inv I2 L2 rm := fun s h1 h2 => ⟨-1, _, L, h1, _, L, h2, IV_q h (Q8_is (a := s)) (RDY_is (RDY_s hR)) is8_0⟩
  cases hb1 : rB a n
  · refine fail 2 ?_ ?_
    · simp (config := { decide := true }) only [f_X7_block, hp1, hb1, obs, bnd_eq, is_0, is_1, is_2, is_3, is_4, is_5, is_6, is_9, tell_eq, refuse_eq, refuse8_eq, b2i_1, b2i_0, if_true, if_false, ↓reduceIte]
    · unfold f_X8_block
      rw [ob (ip a _ (RDY_s (s := 2) hR).1), bnd_eq]
      rw [hb1, if_pos b2i_f, ob is_2]
      dsimp only
      rw [if_pos b2i_f]
  · cases hb2 : rB b n
    · refine fail 2 ?_ ?_
      · simp (config := { decide := true }) only [f_X7_block, hp1, hb1, hp2, hb2, obs, bnd_eq, is_0, is_1, is_2, is_3, is_4, is_5, is_6, is_9, tell_eq, refuse_eq, refuse8_eq, b2i_1, b2i_0, if_true, if_false, ↓reduceIte]
      · unfold f_X8_block
        rw [ob (ip a _ (RDY_s (s := 2) hR).1), bnd_eq]
        rw [hb1, if_neg b2i_t, ob (ip b _ (RDY_s (s := 2) hR).1), hb2, if_pos b2i_f, ob is_2]
        dsimp only
        rw [if_pos b2i_f]
    · by_cases hab : a = b
      · refine fail 4 ?_ ?_
        · simp (config := { decide := true }) only [f_X7_block, hp1, hb1, hp2, hb2, if_pos hab, obs, bnd_eq, is_0, is_1, is_2, is_3, is_4, is_5, is_6, is_9, tell_eq, refuse_eq, refuse8_eq, b2i_1, b2i_0, if_true, if_false, ↓reduceIte]
        · unfold f_X8_block
          rw [ob (ip a _ (RDY_s (s := 4) hR).1), bnd_eq]
          rw [hb1, if_neg b2i_t, ob (ip b _ (RDY_s (s := 4) hR).1), hb2, if_neg b2i_t, if_pos hab, ob is_4]
          dsimp only
          rw [if_pos b2i_f]
      · obtain ⟨u, hu, rfl⟩ := rB_t hb1
        obtain ⟨v, hv, rfl⟩ := rB_t hb2
        have huv : u ≠ v := fun g => hab (by rw [g])
        obtain ⟨B, hB⟩ := dec_ex (fun x => Blk m mv u v x u)
        obtain ⟨I1, a1, a2⟩ := blockC_eq hO hC hu hv huv (fun x _ => hB x)
        have C1 := hC.g36 a2
        have k1 : ∀ p, p = 1 ∨ p = 2 ∨ p = 42 ∨ (43 ≤ p ∧ p < 69) → up2 I1 0 6 0 p = I p := fun p hp => by rw [up2_ne (by omega), a2 p (by omega)]
        have R1 : RDY (up2 I1 0 6 0) n m mv st := hR.of (by rw [k1 43 (by decide)]) (by rw [k1 43 (by decide)]) (k1 44 (by decide)) (k1 52 (by decide)) (k1 53 (by decide))
        have R2 := RDY_is (a := 0) R1
        obtain ⟨I2, b1, b2⟩ := blockR_eq (I := is8 (up2 I1 0 6 0) 0) (L := L) hO R2.1 R2.2.1 hu hv huv (fun x _ => hB x)
        have hc : CO I L I1 L := ⟨fun p hp => a2 p (by omega), fun j _ => by rw [a2 0 (by decide)], rfl, rfl⟩
        refine ⟨nI (oS B n), up2 I1 0 6 0, L, ?_, I2, L, ?_, IV_fin h (CI_s C1) (hc.trans CO_s) (Q8_is.trans (Q8_fr b2 (by decide))) (R2.fr b2 (by decide)) (by rw [up2_s, b2 43 (by decide)]; exact is8_0.symm)⟩
        · simp (config := { decide := true }) only [f_X7_block, hp1, hb1, hp2, hb2, if_neg hab, a1, obs, bnd_eq, is_0, is_1, is_2, is_3, is_4, is_5, is_6, is_9, tell_eq, refuse_eq, refuse8_eq, b2i_1, b2i_0, if_true, if_false, ↓reduceIte]
        · unfold f_X8_block
          rw [ob (ip (nI u) _ R1.1), bnd_eq]
          rw [hb1, if_neg b2i_t, ob (ip (nI v) _ R1.1), hb2, if_neg b2i_t, if_neg hab, ob is_0]
          dsimp only
          rw [if_neg b2i_t, ob b1]
end BE
