/-! Calls that move the stand -/
section MO
variable {n m rm : Nat} {mv : Nat → Nat → Nat} {st : Nat → Nat} {I : MI} {L : ML}
def Q9 (I I' : MI) : Prop := (∀ p, (p < 43 ∨ 69 ≤ p ∨ p = 65 ∨ p = 66) → I' p = I p) ∧ (∀ j, j ≠ 0 → j ≠ 1 → j ≠ 3 → j ≠ 20 → j ≠ 24 → I' 43 j = I 43 j)
theorem Q9.trans {I I' I'' : MI} (h : Q9 I I') (g : Q9 I' I'') : Q9 I I'' := ⟨fun p hp => (g.1 p hp).trans (h.1 p hp), fun j a b c d e => (g.2 j a b c d e).trans (h.2 j a b c d e)⟩
theorem Q8.q9 {I I' : MI} (h : Q8 I I') : Q9 I I' := ⟨fun p hp => h.1 p (by omega), fun j a b _ d e => h.2 j a b d e⟩
theorem Q9_r {I' : MI} (h1 : ∀ p, p ≠ 43 → p ≠ 45 → I' p = I p) (h2 : ∀ j, j ≠ 3 → I' 43 j = I 43 j) : Q9 I I' := ⟨fun p hp => h1 p (by omega) (by omega), fun j _ _ h3 _ _ => h2 j h3⟩
theorem Q9_44 {I' : MI} (h : Fr [44] I I') : Q9 I I' := ⟨fun p hp => h p (fun g => by have := List.mem_singleton.mp g; omega), fun j _ _ _ _ _ => by rw [h 43 (by decide)]⟩
theorem IV_mk {m' rm2 : Nat} {mv' : Nat → Nat → Nat} {st' : Nat → Nat} {I1 I2 : MI} {L2 : ML} (h : IV I L rm n m mv st) (hO : OKm n m' mv' st') (hC : CI I1 L2 rm2 n m' mv' st') (hc : ∀ p, p = 1 ∨ p = 2 ∨ p = 42 ∨ (43 ≤ p ∧ p < 69) → I1 p = I p) (hc0 : I1 0 4 = I 0 4) (hq : Q9 I1 I2) (hR : RDY I2 n m' mv' st') (hP : OT I2 L2 n) (hs : I1 0 6 = I2 43 0) : Inv I2 L2 rm2 := by
  obtain ⟨b1, b2, b3, b4, b5, b6, b7, b8⟩ := h
  obtain ⟨q1, q2⟩ := hq
  have k : ∀ p, p = 1 ∨ p = 2 ∨ p = 42 ∨ p = 65 ∨ p = 66 → I2 p = I p := fun p hp => (q1 p (by omega)).trans (hc p (by omega))
  have k43 : ∀ j, 28 ≤ j → I2 43 j = I 43 j := fun j hj => by rw [q2 j (by omega) (by omega) (by omega) (by omega) (by omega), hc 43 (by omega)]
  refine ⟨n, m', mv', st', hO, hC.fr (fun p hp => q1 p (by omega)), hR, hP, ?_, ?_, ?_, by rw [q1 0 (by decide)]; exact hs⟩
  · obtain ⟨len, a1, a2, a3, a4⟩ := b5
    exact ⟨len, a1, by rw [k 1 (by decide)]; exact a2, by rw [k43 30 (by decide)]; exact a3, fun j hj => by rw [k 2 (by decide), k 66 (by decide)]; exact a4 j hj⟩
  · obtain ⟨ol, a1, a2, a3, a4⟩ := b6
    exact ⟨ol, a1, by rw [q1 0 (by decide), hc0]; exact a2, by rw [k43 28 (by decide)]; exact a3, fun j hj => by rw [k 42 (by decide), k 65 (by decide)]; exact a4 j hj⟩
  · exact ⟨by rw [k 1 (by decide), k43 31 (by decide)]; exact b7.1, by rw [k 1 (by decide), k43 32 (by decide)]; exact b7.2⟩
theorem CI.stt {I' : MI} {L' : ML} {st' : Nat → Nat} (h : CI I L rm n m mv st) (hI : ∀ p, (6 ≤ p ∧ p ≤ 36) ∨ 69 ≤ p → I' p = I p) (hL : ∀ p, (6 ≤ p ∧ p ≤ 36) ∨ 69 ≤ p → L' p = L p) (h5 : L' 0 5 = tn n st') : CI I' L' rm n m mv st' := by
  obtain ⟨a1, a2, a3, a4, a5, a6, a7, a8, a9, a10⟩ := h
  have h6 := hI 6 (by decide)
  refine ⟨by rw [h6]; exact a1, by rw [h6]; exact a2, fun i hi => by rw [hL 7 (by decide)]; exact a3 i hi, h5, a5.fr (hI 8 (by decide)) (hI 9 (by decide)) (hI 13 (by decide)) (hI 14 (by decide)) (hL 8 (by decide)) (hL 10 (by decide)) (hL 11 (by decide)) (hL 12 (by decide)), ?_, ?_, a8.fr (hI 30 (by decide)) (hI 31 (by decide)), a9.fr (hI 33 (by decide)) (hI 34 (by decide)), a10.fr (by rw [h6]) (fun p hp => hI p (Or.inr hp)) (fun p hp => hL p (Or.inr hp))⟩
  · unfold Ndd at a6 ⊢; rw [h6]; exact a6
  · unfold Psz at a7 ⊢; rw [hI 29 (by decide)]; exact a7
theorem Row_off {a w off : Nat} {p q : Nat → Nat} (h : off + 10 ≤ w ∨ w + 10 ≤ off) (hr : Row I a off p) : Row (wp I a w q) a off p := fun k hk => by
  unfold wp
  rw [wr_out (by omega)]; exact hr k hk
theorem Nw_st {p : Nat → Nat} (h : Nw I m mv st) : Nw (wp I 44 1 p) m mv p := ⟨by unfold wp; rw [wr_out (by omega)]; exact h.1, h.2.1, fun i hi => Row_off (by omega) (h.2.2.1 i hi), Row_wp⟩
theorem RDY_st {p : Nat → Nat} (h : RDY I n m mv st) : RDY (wp I 44 1 p) n m mv p := ⟨by rw [wp_ne (by decide)]; exact h.1, Nw_st h.2.1, h.2.2.imp (fun g => by rw [wp_ne (by decide)]; exact g) (fun g => ⟨by rw [wp_ne (by decide)]; exact g.1, g.2.fr (wp_ne (by decide)) (wp_ne (by decide))⟩)⟩
theorem cT_not (P : Nat → Bool) : ∀ n, cT P n + cT (fun i => !P i) n = n := by
  intro n
  induction n with
  | zero => rfl
  | succ n ih =>
    cases h : P n
    · rw [cT_f h, cT_t (P := fun i => !P i) (by rw [h]; rfl)]; omega
    · rw [cT_t h, cT_f (P := fun i => !P i) (by rw [h]; rfl)]; omega
theorem countAway_eq {p : Nat → Nat} (hn : n ≤ 10) (hp : IsP n p) (h6 : I 6 0 = nI n) (h5 : L 0 5 = tn n p) : f_X7_countAway I L = some (nI (n - sy n p)) := by
  unfold f_X7_countAway
  rw [h5, h6, ob (moved_eq hn hp)]
  have hl := oS_lt (fun i => decide (p i ≠ i)) n
  have h2 := (two_n hn).2
  rw [ob (bitCount_all _ (by omega))]
  have e1 : cT (fun i => (oS (fun i => decide (p i ≠ i)) n).testBit i) 10 = n - sy n p := by
    have e2 : cT (fun i => (oS (fun i => decide (p i ≠ i)) n).testBit i) n = cT (fun i => !decide (p i = i)) n := cT_ext n (fun i hi => by
      rw [oS_tb, decide_eq_true hi, Bool.true_and]
      by_cases c : p i = i
      · rw [decide_eq_true c, decide_eq_false (fun g => g c)]; rfl
      · rw [decide_eq_false c, decide_eq_true c]; rfl)
    rw [cT_more 10 hn (fun i hi => Nat.testBit_lt_two_pow (Nat.lt_of_lt_of_le hl (Nat.pow_le_pow_right (by decide) hi))), e2]
    have := cT_not (fun i => decide (p i = i)) n
    unfold sy
    omega
  rw [e1]
theorem keepPast_eq {kp k c : Nat} {pm : Nat → Nat} {pmv : Nat → Nat → Nat → Nat} {pst : Nat → Nat → Nat} (hO : OKm n m mv st) (hC : CI I L rm n m mv st) (ho : OTo n kp pm pmv pst) (h : OTc I L n kp pm pmv pst) (hk : (kp < 12 ∧ c = 0 ∧ k = kp) ∨ (kp = 12 ∧ c = 1 ∧ k = 11)) : ∃ I' L', f_X7_keepPast I L = some (I', L') ∧ OTc I' L' n (k + 1) (nx1 k c pm m) (nx1 k c pmv mv) (nx1 k c pst st) ∧ (∀ p, p ≠ 37 → p ≠ 40 → I' p = I p) ∧ (∀ p, p ≠ 39 → p ≠ 41 → L' p = L p) := by
  obtain ⟨I', L', a1, a2, a3, a4⟩ := keep_eq (st := st) hO hC.2.2.1 ho h hk
  refine ⟨I', L', ?_, a2, a3, a4⟩
  unfold f_X7_keepPast
  rw [hC.2.2.2.1, hC.2.1, ob a1]
theorem kc_ex {kp : Nat} (h : kp ≤ 12) : ∃ k c, (kp < 12 ∧ c = 0 ∧ k = kp) ∨ (kp = 12 ∧ c = 1 ∧ k = 11) := by
  by_cases g : kp < 12
  · exact ⟨kp, 0, Or.inl ⟨g, rfl, rfl⟩⟩
  · exact ⟨11, 1, Or.inr ⟨by omega, rfl, rfl⟩⟩
theorem PR_52h : PR_52 Inv := by
  intro I L rm a ⟨n, m, mv, st, h⟩
  obtain ⟨hO, hC, hR, hP, hT, hU, hF, hS⟩ := id h
  have hn := hO.1
  cases hb : rB a (2 * m)
  · refine ⟨-1, up2 I 0 6 2, L, ?_, is8 (up2 I 0 6 2) 2, L, ?_, IV_q h (Q8_is (a := 2)) (RDY_is (RDY_s hR)) is8_0⟩
    · simp (config := { decide := true }) only [f_X7_turn, hasStep_eq hC hO.2.1 a, hb, obs, bnd_eq, is_0, is_1, is_2, is_3, is_4, is_5, is_6, is_9, tell_eq, refuse_eq, refuse8_eq, b2i_1, b2i_0, if_true, if_false, ↓reduceIte]
    · simp (config := { decide := true }) only [f_X8_turn, isStep_eq (RDY_s (s := 2) hR).2.1 a, hb, obs, bnd_eq, is_0, is_1, is_2, is_3, is_4, is_5, is_6, is_9, tell_eq, refuse_eq, refuse8_eq, b2i_1, b2i_0, if_true, if_false, ↓reduceIte]
  · have hb1 := hasStep_eq hC hO.2.1 a
    have hb2 : ∀ (J : MI) (M : ML), Nw J m mv st → f_X8_isStep a J M = some true := fun J M hJ => by rw [isStep_eq hJ a, hb]
    rw [hb] at hb1
    obtain ⟨s, hs, rfl⟩ := rB_t hb
    have hsP := IsP_stp hn hO.2.2.1 hs
    have hcP := IsP_cp hO.2.2.2 hsP
    obtain ⟨kp, pm, pmv, pst, o1, o2, o3⟩ := OT_s hP
    obtain ⟨k, c, hk⟩ := kc_ex o1.1
    obtain ⟨I1, L1, a1, a2, a3, a4⟩ := keepPast_eq hO hC o1 o2 hk
    have C1 : CI I1 L1 rm n m mv st := hC.stt (fun p hp => a3 p (by omega) (by omega)) (fun p hp => a4 p (by omega) (by omega)) (by rw [a4 0 (by decide) (by decide)]; exact hC.2.2.2.1)
    have C2 : CI (up2 I1 0 6 0) (up2 L1 0 5 (tn n (cp st (stp mv s)))) rm n m mv (cp st (stp mv s)) := C1.stt (fun p hp => up2_ne (by omega)) (fun p hp => up2_ne (by omega)) up2_s
    have ca := countAway_eq (I := I1) (L := up2 L1 0 5 (tn n (cp st (stp mv s)))) hn hcP C1.1 up2_s
    have hsy : sy n (cp st (stp mv s)) ≤ n := cT_le _ _
    have k1 : ∀ p, p = 1 ∨ p = 2 ∨ p = 42 ∨ (43 ≤ p ∧ p < 69) → up2 I1 0 6 0 p = I p := fun p hp => by rw [up2_ne (by omega), a3 p (by omega) (by omega)]
    have R1 : RDY (up2 I1 0 6 0) n m mv st := hR.of (by rw [k1 43 (by decide)]) (by rw [k1 43 (by decide)]) (k1 44 (by decide)) (k1 52 (by decide)) (k1 53 (by decide))
    have R2 := RDY_is (a := 0) R1
    generalize hL2 : up2 L1 0 5 (tn n (cp st (stp mv s))) = L2 at C2 ca
    obtain ⟨K, b1, b2, b3, b4⟩ := remembers_eq (L := L2) hO R2.2.1 o1 (o3.fr (I' := is8 (up2 I1 0 6 0) 0) (by unfold is8; rw [up2_n (by decide), up2_n (by decide), k1 43 (by decide)]) (by rw [is8_ne (by decide), k1 45 (by decide)])) hk
    have R3 : RDY K n m mv st := R2.of (b4 2 (by decide)) (b4 20 (by decide)) (b3 44 (by decide) (by decide)) (b3 52 (by decide) (by decide)) (b3 53 (by decide) (by decide))
    have f1 : Fr [46] K (wp K 46 0 st) := Fr_wp (by decide)
    obtain ⟨I3, c1, c2, c3⟩ := laysStep_eq (I := wp K 46 0 st) (L := L2) (s := s) (a := 47) hO (R3.fr f1 (by decide)).2.1 hs (by decide) (by decide)
    have f2 : Fr [46, 47, 48, 51] K I3 := (f1.mono (by decide)).trans (c3.mono (by decide))
    have r46 : Row I3 46 0 st := Row_of (c3 46 (by decide)) Row_wp
    have f3 : Fr [46, 47, 48, 51] K (wp I3 48 0 (cp st (stp mv s))) := f2.trans (Fr_wp (by decide))
    have R5 := R3.fr f3 (by decide)
    have f4 : Fr [44] (wp I3 48 0 (cp st (stp mv s))) (wp (wp I3 48 0 (cp st (stp mv s))) 44 1 (cp st (stp mv s))) := Fr_wp (by decide)
    have R6 := RDY_st (p := cp st (stp mv s)) R5
    have cpy := copies0y (I := wp I3 48 0 (cp st (stp mv s))) (L := L2) (a := 48) (an := 10) (b := 44) (bn := 71) (y := 1) Row_wp (by decide) (by decide) (by decide) (by decide) (by decide)
    have cpy : f_X8_copies 48 10 0 44 71 1 (wp I3 48 0 (cp st (stp mv s))) L2 = some (wp (wp I3 48 0 (cp st (stp mv s))) 44 1 (cp st (stp mv s)), L2) := cpy
    have sty := staying8_eq (I := wp (wp I3 48 0 (cp st (stp mv s))) 44 1 (cp st (stp mv s))) (L := L2) (a := 48) hn hcP R6.1 (Row_of (f4 48 (by decide)) Row_wp)
    refine ⟨nI (sy n (cp st (stp mv s))), up2 I1 0 6 0, L2, ?_, wp (wp I3 48 0 (cp st (stp mv s))) 44 1 (cp st (stp mv s)), L2, ?_, IV_mk h ⟨hn, hO.2.1, hO.2.2.1, hcP⟩ C2 k1 (by rw [up2_n (by decide), a3 0 (by decide) (by decide)]) (((Q8_is.q9.trans (Q9_r b3 b4)).trans (Q8_fr f3 (by decide)).q9).trans (Q9_44 f4)) R6 (OT_m (OTo_n hO o1 hk) (a2.fr ?_ ?_ ?_ ?_) (b2.fr ?_ ?_)) ?_⟩
    · simp (config := { decide := true }) only [f_X7_turn, hb1, a1, turnOf_eq C1 hO hs, C1.2.2.2.1, C1.1, compose_eq hn hO.2.2.2 hsP, hL2, ca, show nI n - nI (n - sy n (cp st (stp mv s))) = nI (sy n (cp st (stp mv s))) by rw [pk_sub (Nat.sub_le _ _), show n - (n - sy n (cp st (stp mv s))) = sy n (cp st (stp mv s)) by omega], obs, bnd_eq, is_0, is_1, is_2, is_3, is_4, is_5, is_6, is_9, tell_eq, refuse_eq, refuse8_eq, b2i_1, b2i_0, if_true, if_false, ↓reduceIte]
    · unfold f_X8_turn
      rw [ob (hb2 _ _ R1.2.1), bnd_eq]
      dsimp only
      rw [if_neg b2i_t, ob is_0]
      dsimp only
      rw [if_neg b2i_t, ob b1]
      dsimp only
      rw [ob (laysStand_eq R3.2.1 (show 46 ≠ 44 by decide))]
      dsimp only
      rw [ob c1]
      dsimp only
      rw [ob (makes_eq (c := 48) r46 c2 (IsP_mono hO.2.2.2 hn) (show 46 ≠ 48 by decide) (show 47 ≠ 48 by decide))]
      dsimp only
      rw [ob cpy]
      dsimp only
      rw [ob sty]
    · rw [f4 37 (by decide), f3 37 (by decide), b3 37 (by decide) (by decide), is8_ne (by decide), up2_ne (by decide)]
    · rw [f4 40 (by decide), f3 40 (by decide), b3 40 (by decide) (by decide), is8_ne (by decide), up2_ne (by decide)]
    · rw [← hL2, up2_ne (by decide)]
    · rw [← hL2, up2_ne (by decide)]
    · rw [f4 43 (by decide), f3 43 (by decide)]
    · rw [f4 45 (by decide), f3 45 (by decide)]
    · rw [up2_s, f4 43 (by decide), f3 43 (by decide), b4 0 (by decide)]; exact is8_0.symm
end MO
