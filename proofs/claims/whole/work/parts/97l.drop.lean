/-! Dropping a move; undoing -/
section DR
variable {n m rm N : Nat} {mv : Nat → Nat → Nat} {st : Nat → Nat} {I : MI} {L : ML} {e : Nat → Nat → Nat}
def dm (j : Nat) (mv : Nat → Nat → Nat) : Nat → Nat → Nat := fun i => if i < j then mv i else mv (i + 1)
theorem lose6 {j : Nat} (hm : m ≤ 6) (hj : j < m) (h1 : I 6 1 = nI m) (k0 : ML → Option Mm) : ∃ M, f_X2_lose_6 I k0 FU (nI j) L = k0 M ∧ (∀ p, p ≠ 7 → M p = L p) ∧ (∀ i, i + 1 < m → M 7 i = if i < j then L 7 i else L 7 (i + 1)) := by
  have := loop0 (fun fu (z : Int32 × ML) => f_X2_lose_6 I k0 fu z.1 z.2) (fun d z => j + d + 1 ≤ m ∧ z.1 = nI (j + d) ∧ (∀ p, p ≠ 7 → z.2 p = L p) ∧ (∀ i, i < j → z.2 7 i = L 7 i) ∧ (∀ i, j ≤ i → i < j + d → z.2 7 i = L 7 (i + 1)) ∧ ∀ i, j + d ≤ i → z.2 7 i = L 7 i) (fun o => ∃ M, o = k0 M ∧ (∀ p, p ≠ 7 → M p = L p) ∧ (∀ i, i + 1 < m → M 7 i = if i < j then L 7 i else L 7 (i + 1))) (m - j - 1) (by omega) (nI j, L) ⟨by omega, rfl, fun _ _ => rfl, fun _ _ => rfl, fun i h1 h2 => by omega, fun _ _ => rfl⟩
    (fun fu d z hd hP => by
      obtain ⟨z1, M⟩ := z
      obtain ⟨p0, p1, p2, p3, p4, p5⟩ := hP
      dsimp only at p1 p2 p3 p4 p5 ⊢
      subst p1
      rw [f_X2_lose_6, h1, nI_1, ifc (q_le (by omega) (by omega))]
      by_cases c1 : m ≤ j + d + 1
      · left
        rw [if_pos c1]
        refine ⟨M, rfl, p2, fun i hi => ?_⟩
        by_cases c2 : i < j
        · rw [if_pos c2]; exact p3 i c2
        · rw [if_neg c2]; exact p4 i (by omega) (by omega)
      · right
        refine ⟨by omega, (nI (j + (d + 1)), up2 M 7 (j + d) (L 7 (j + d + 1))), ?_, by omega, rfl, fun p hp => ?_, fun i hi => ?_, fun i h1 h2 => ?_, fun i hi => ?_⟩
        · rw [if_neg c1, q_chk (by omega) (by decide), q_chk (by omega) (by decide), bnd_eq, bnd_eq, q_ix (by omega), q_ix (by omega), p5 _ (by omega)]
          rfl
        · dsimp only; rw [up2_ne hp]; exact p2 p hp
        · dsimp only; rw [up2_n (by omega)]; exact p3 i hi
        · dsimp only
          by_cases e1 : i = j + d
          · rw [e1, up2_s]
          · rw [up2_n e1]; exact p4 i h1 (by omega)
        · dsimp only; rw [up2_n (by omega)]; exact p5 i (by omega))
  exact this
theorem drop34 {w : Nat} (hw : w ≤ 61) (k0 : MI → Option (Int32 × Mm)) : ∃ K, f_X8_drop_34 L k0 FU (nI w) I = k0 K ∧ (∀ p, p ≠ 44 → K p = I p) ∧ (∀ i, i < w → K 44 i = I 44 i) ∧ (∀ i, w ≤ i → i < 61 → K 44 i = I 44 (i + 10)) := by
  have := loop0 (fun fu (z : Int32 × MI) => f_X8_drop_34 L k0 fu z.1 z.2) (fun d z => w + d ≤ 61 ∧ z.1 = nI (w + d) ∧ (∀ p, p ≠ 44 → z.2 p = I p) ∧ (∀ i, i < w → z.2 44 i = I 44 i) ∧ (∀ i, w ≤ i → i < w + d → z.2 44 i = I 44 (i + 10)) ∧ ∀ i, w + d ≤ i → z.2 44 i = I 44 i) (fun o => ∃ K, o = k0 K ∧ (∀ p, p ≠ 44 → K p = I p) ∧ (∀ i, i < w → K 44 i = I 44 i) ∧ (∀ i, w ≤ i → i < 61 → K 44 i = I 44 (i + 10))) (61 - w) (by omega) (nI w, I) ⟨hw, rfl, fun _ _ => rfl, fun _ _ => rfl, fun i h1 h2 => by omega, fun _ _ => rfl⟩
    (fun fu d z hd hP => by
      obtain ⟨z1, K⟩ := z
      obtain ⟨p0, p1, p2, p3, p4, p5⟩ := hP
      dsimp only at p1 p2 p3 p4 p5 ⊢
      subst p1
      rw [f_X8_drop_34, show (61 : Int32) = nI 61 from rfl, ifc (q_le (by decide) (by omega))]
      by_cases c1 : 61 ≤ w + d
      · left
        rw [if_pos c1]
        exact ⟨K, rfl, p2, p3, fun i h1 h2 => p4 i h1 (by omega)⟩
      · right
        refine ⟨by omega, (nI (w + (d + 1)), up2 K 44 (w + d) (I 44 (w + d + 10))), ?_, by omega, rfl, fun p hp => ?_, fun i hi => ?_, fun i h1 h2 => ?_, fun i hi => ?_⟩
        · rw [if_neg c1, show (10 : Int32) = nI 10 from rfl, nI_add, q_chk (by omega) (by decide), q_chk (by omega) (by decide), bnd_eq, bnd_eq, q_ix (by omega), q_ix (by omega), p5 _ (by omega), nI_1]
          rfl
        · dsimp only; rw [up2_ne hp]; exact p2 p hp
        · dsimp only; rw [up2_n (by omega)]; exact p3 i hi
        · dsimp only
          by_cases e1 : i = w + d
          · rw [e1, up2_s]
          · rw [up2_n e1]; exact p4 i h1 (by omega)
        · dsimp only; rw [up2_n (by omega)]; exact p5 i (by omega))
  exact this
theorem PR_56h : PR_56 Inv := by
  intro I L rm a ⟨n, m, mv, st, h⟩
  obtain ⟨hO, hC, hR, hP, hT, hU, hF, hS⟩ := id h
  have hn := hO.1
  have hm := hO.2.1
  cases hb : rB a m
  · refine ⟨-1, up2 I 0 6 2, L, ?_, is8 (up2 I 0 6 2) 2, L, ?_, IV_q h (Q8_is (a := 2)) (RDY_is (RDY_s hR)) is8_0⟩
    · have hb' := of_decide_eq_false hb
      by_cases c1 : a < 0
      · simp (config := { decide := true }) only [f_X7_drop, c1, obs, bnd_eq, is_0, is_1, is_2, is_3, is_4, is_5, is_6, is_9, tell_eq, refuse_eq, refuse8_eq, b2i_1, b2i_0, if_true, if_false, ↓reduceIte]
      · obtain ⟨j, hj, rfl⟩ := nI_of c1
        rw [nI_toInt hj] at hb'
        have c2 : ¬ nI j < nI m := by rw [q_lt hj (by omega)]; omega
        simp (config := { decide := true }) only [f_X7_drop, c1, hC.2.1, c2, obs, bnd_eq, is_0, is_1, is_2, is_3, is_4, is_5, is_6, is_9, tell_eq, refuse_eq, refuse8_eq, b2i_1, b2i_0, if_true, if_false, ↓reduceIte]
    · unfold f_X8_drop
      rw [ob (isMove_eq (RDY_s (s := 2) hR).2.1 a), bnd_eq]
      dsimp only
      rw [hb, if_pos b2i_f, ob is_2]
      dsimp only
      rw [if_pos b2i_f]
  · have hb2 : ∀ (J : MI) (M : ML), Nw J m mv st → f_X8_isMove a J M = some true := fun J M hJ => by rw [isMove_eq hJ a, hb]
    obtain ⟨j, hj, rfl⟩ := rB_t hb
    obtain ⟨kp, pm, pmv, pst, o1, o2, o3⟩ := OT_s hP
    obtain ⟨k, c, hk⟩ := kc_ex o1.1
    obtain ⟨I1, L1, a1, a2, a3, a4⟩ := keepPast_eq hO hC o1 o2 hk
    have C1 : CI I1 L1 rm n m mv st := hC.stt (fun p hp => a3 p (by omega) (by omega)) (fun p hp => a4 p (by omega) (by omega)) (by rw [a4 0 (by decide) (by decide)]; exact hC.2.2.2.1)
    have hmv' : ∀ i, i < m - 1 → IsP n (dm j mv i) := fun i hi => by
      unfold dm
      by_cases e1 : i < j
      · rw [if_pos e1]; exact hO.2.2.1 i (by omega)
      · rw [if_neg e1]; exact hO.2.2.1 (i + 1) (by omega)
    have hO2 : OKm n (m - 1) (dm j mv) st := ⟨hn, by omega, hmv', hO.2.2.2⟩
    generalize hk0 : (fun (L_6 : ML) => bnd (up2 I1 6 1 (imax ((I1 6 1) - 1) 0)) (fun I_7 => Option.bind (f_X2_findOut I_7 L_6) (fun q_8 => some (q_8.1, q_8.2)))) = k0
    obtain ⟨M, m1, m2, m3⟩ := lose6 (L := L1) hm hj C1.2.1 k0
    have emx : imax ((I1 6 1) - 1) 0 = nI (m - 1) := by
      rw [C1.2.1, show (1 : Int32) = nI 1 from rfl, pk_sub (by omega), show (0 : Int32) = nI 0 from rfl]
      exact if_neg (by rw [q_lt (by omega) (by decide)]; omega)
    obtain ⟨I2, L2, g1, g2, g3, g4⟩ := findOut_eq (I := up2 I1 6 1 (nI (m - 1))) (L := M) (rm := rm) (st := st) hn hO2.2.1 hmv' (by rw [up2_n (by decide)]; exact C1.1) up2_s (fun i hi => by
        rw [m3 i (by omega)]
        unfold dm
        by_cases e1 : i < j
        · rw [if_pos e1, if_pos e1]; exact C1.2.2.1 i (by omega)
        · rw [if_neg e1, if_neg e1]; exact C1.2.2.1 (i + 1) (by omega)) C1.2.2.2.2.2.2.2.2.2.1 (fun g => by rw [up2_ne (by decide)]; exact C1.2.2.2.2.2.2.2.2.2.2.1 g) (by rw [m2 0 (by decide)]; exact C1.2.2.2.1)
    have hG := Gp_Sub hn hmv'
    obtain ⟨N, e, he⟩ := EL_ex hn hG
    have k1 : ∀ p, p = 1 ∨ p = 2 ∨ p = 42 ∨ (43 ≤ p ∧ p < 69) → up2 I2 0 6 0 p = I p := fun p hp => by rw [up2_ne (by omega), g3 p (by omega), up2_ne (by omega), a3 p (by omega) (by omega)]
    have R1 : RDY (up2 I2 0 6 0) n m mv st := hR.of (by rw [k1 43 (by decide)]) (by rw [k1 43 (by decide)]) (k1 44 (by decide)) (k1 52 (by decide)) (k1 53 (by decide))
    have R2 := RDY_is (a := 0) R1
    obtain ⟨K, b1, b2, b3, b4⟩ := remembers_eq (L := L2) hO R2.2.1 o1 (o3.fr (I' := is8 (up2 I2 0 6 0) 0) (by unfold is8; rw [up2_n (by decide), up2_n (by decide), k1 43 (by decide)]) (by rw [is8_ne (by decide), k1 45 (by decide)])) hk
    have hN3 : Nw K m mv st := R2.2.1.fr (b3 44 (by decide) (by decide))
    have e11 : (11 : Int32) + 10 * nI j = nI (11 + 10 * j) := by rw [show (11 : Int32) = nI 11 from rfl, show (10 : Int32) = nI 10 from rfl, pk_mul, nI_add]
    generalize hk1 : (fun (I_10 : MI) => chk (inb 0 71) (chk (inb 0 71) (bnd (up2 I_10 44 (ix 0) ((I_10 44 (ix 0)) - 1)) (fun I_11 => bnd (up2 I_11 43 20 0) (fun I_12 => Option.bind (f_X8_orderNow I_12 L2) (fun q_13 => some (q_13.1, q_13.2.1, q_13.2.2))))))) = k2
    obtain ⟨K1, u1, u2, u3, u4⟩ := drop34 (I := K) (L := L2) (w := 11 + 10 * j) (by omega) k2
    have e440 : K1 44 0 = nI m := by rw [u3 0 (by omega)]; exact hN3.1
    generalize hK2 : up2 (up2 K1 44 0 (nI (m - 1))) 43 20 0 = K2
    have hK2p : ∀ q, q ≠ 44 → q ≠ 43 → K2 q = K q := fun q h1 h2 => by rw [← hK2, up2_ne h2, up2_ne h1, u2 q h1]
    have hK43 : ∀ i, i ≠ 20 → K2 43 i = K 43 i := fun i hi => by rw [← hK2, up2_n hi, up2_ne (by decide), u2 43 (by decide)]
    have e44 : ∀ i, i ≠ 0 → K2 44 i = K1 44 i := fun i hi => by rw [← hK2, up2_ne (by decide), up2_n hi]
    have hN4 : Nw K2 (m - 1) (dm j mv) st := by
      refine ⟨by rw [← hK2, up2_ne (by decide), up2_s], by omega, fun i hi t ht => ?_, fun t ht => by rw [e44 _ (by omega), u3 _ (by omega)]; exact hN3.2.2.2 t ht⟩
      rw [e44 _ (by omega)]
      unfold dm
      by_cases e1 : i < j
      · rw [if_pos e1, u3 _ (by omega)]; exact hN3.2.2.1 i (by omega) t ht
      · rw [if_neg e1, u4 _ (by omega) (by omega), show 11 + 10 * i + t + 10 = 11 + 10 * (i + 1) + t by omega]; exact hN3.2.2.1 (i + 1) (by omega) t ht
    have R4 : RDY K2 n (m - 1) (dm j mv) st := ⟨by rw [hK43 2 (by decide), b4 2 (by decide)]; exact R2.1, hN4, Or.inl (by rw [← hK2, up2_s])⟩
    obtain ⟨I5, d1, d2, d3, d4, d5⟩ := orderNow_eq (L := L2) hO2 R4 he
    have q2 : Q9 K K2 := ⟨fun q hq => hK2p q (by omega) (by omega), fun i _ _ _ h20 _ => hK43 i h20⟩
    refine ⟨nI N, up2 I2 0 6 0, L2, ?_, I5, L2, ?_, IV_mk h hO2 (CI_s g2) k1 (by rw [up2_n (by decide), g3 0 (by decide), up2_ne (by decide), a3 0 (by decide) (by decide)]) (((Q8_is.q9.trans (Q9_r b3 b4)).trans q2).trans (Q8_b d3 d4).q9) d2.rdy (OT_m (OTo_n hO o1 hk) (a2.fr ?_ ?_ ?_ ?_) (b2.fr ?_ ?_)) ?_⟩
    · have c1 : nI j < nI m := by rw [q_lt (by omega) (by omega)]; exact hj
      have c2 : ¬ nI j < 0 := Int32.not_lt.mpr (nI_pos' (by omega))
      have lo : f_X2_lose (nI j) I1 L1 = some (I2, L2) := by
        unfold f_X2_lose
        rw [bnd_eq, show imax (nI j) 0 = nI j from if_neg c2, hk0, m1, ← hk0]
        dsimp only
        rw [bnd_eq, emx, ob g1]
      simp (config := { decide := true }) only [f_X7_drop, hC.2.1, c1, c2, a1, lo, size2_eq hO2 g2 he, obs, bnd_eq, is_0, is_1, is_2, is_3, is_4, is_5, is_6, is_9, tell_eq, refuse_eq, refuse8_eq, b2i_1, b2i_0, if_true, if_false, ↓reduceIte]
    · unfold f_X8_drop
      rw [ob (hb2 _ _ R1.2.1), bnd_eq]
      dsimp only
      rw [if_neg b2i_t, ob is_0]
      dsimp only
      rw [if_neg b2i_t, ob b1]
      dsimp only
      rw [bnd_eq, e11, hk1, u1, ← hk1]
      dsimp only
      rw [show (0 : Int32) = nI 0 from rfl, q_chk (by decide) (by decide), q_chk (by decide) (by decide), bnd_eq, q_ix (by decide), e440, show (1 : Int32) = nI 1 from rfl, pk_sub (by omega), bnd_eq, nI_0, hK2, ob d1]
    · rw [d3 37 (by decide), hK2p 37 (by decide) (by decide), b3 37 (by decide) (by decide), is8_ne (by decide), up2_ne (by decide), g3 37 (by decide), up2_ne (by decide)]
    · rw [d3 40 (by decide), hK2p 40 (by decide) (by decide), b3 40 (by decide) (by decide), is8_ne (by decide), up2_ne (by decide), g3 40 (by decide), up2_ne (by decide)]
    · rw [g4 39 (by decide), m2 39 (by decide)]
    · rw [g4 41 (by decide), m2 41 (by decide)]
    · rw [d4 3 (by decide), hK43 3 (by decide)]
    · rw [d3 45 (by decide), hK2p 45 (by decide) (by decide)]
    · rw [up2_s, d4 0 (by decide), hK43 0 (by decide), b4 0 (by decide)]; exact is8_0.symm
end DR
