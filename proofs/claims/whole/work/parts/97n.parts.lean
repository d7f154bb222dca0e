/-! Groups of some of the moves -/
section PT
variable {n m N rm : Nat} {mv : Nat → Nat → Nat} {st : Nat → Nat} {I : MI} {L : ML} {e : Nat → Nat → Nat}
def mB (a : Int32) (m : Nat) : Bool := decide (0 ≤ a.toInt ∧ a.toInt < 2 ^ m)
theorem mB_t {a : Int32} (h : mB a m = true) : ∃ s, s < 2 ^ m ∧ a = nI s := by
  have h := of_decide_eq_true h
  have hg : ¬ a < 0 := fun g => by have := lt0 g; omega
  obtain ⟨j, hj, rfl⟩ := nI_of hg
  rw [nI_toInt hj] at h
  exact ⟨j, by exact_mod_cast h.2, rfl⟩
theorem every_eq (hm : m ≤ 6) (h : I 6 1 = nI m) : f_X2_everyMove I L = some (nI (2 ^ m - 1)) := by
  unfold f_X2_everyMove
  rw [h, q_shl1 (by omega), show (1 : Int32) = nI 1 from rfl, pk_sub (Nat.two_pow_pos m)]
theorem hasMoves_eq (hm : m ≤ 6) (h : I 6 1 = nI m) (a : Int32) : f_X2_hasMoves a I L = some (mB a m) := by
  have h10 : m ≤ 10 := by omega
  obtain ⟨h1, h2⟩ := two_n h10
  unfold f_X2_hasMoves mB
  rw [ob (every_eq hm h)]
  have hc : ((2 ^ m : Nat) : Int) = (2 : Int) ^ m := by norm_cast
  by_cases hneg : a < 0
  · have k1 := neg_nat hneg
    have k2 := lt0 hneg
    rw [if_neg (fun g => by have := (msk h10).mp g; omega), decide_eq_false (by omega)]
  · obtain ⟨j, hj, rfl⟩ := nI_of hneg
    have e1 : (nI j).toBitVec.toNat = j := by
      show j % 2 ^ 32 = j
      omega
    rw [nI_toInt hj]
    by_cases g : j < 2 ^ m
    · rw [if_pos ((msk h10).mpr (by rw [e1]; exact g)), decide_eq_true (by omega)]
    · rw [if_neg (fun k => by have := (msk h10).mp k; rw [e1] at this; omega), decide_eq_false (by omega)]
theorem areMoves_eq (hN : Nw I m mv st) (a : Int32) : f_X8_areMoves a I L = some (mB a m) := by
  have hm := hN.2.1
  obtain ⟨h1, h2⟩ := two_n (show m ≤ 10 by omega)
  unfold f_X8_areMoves
  rw [ob (moves_eq hN), q_shl1 (by omega), show (0 : Int64) = (0 : Int32).toInt64 by decide, isIn_eq, show (1 : Int32) = nI 1 from rfl, pk_sub (by omega), nI_toInt (by omega), obs]
  unfold mB
  congr 1
  have hc : ((2 ^ m : Nat) : Int) = (2 : Int) ^ m := by norm_cast
  have h0 : (0 : Int32).toInt = 0 := (by decide)
  congr 1
  apply propext
  omega
theorem CI.gen {I' : MI} {L' : ML} (h : CI I L rm n m mv st) (hI : ∀ p, (6 ≤ p ∧ p ≤ 14) ∨ (30 ≤ p ∧ p ≤ 36) ∨ 69 ≤ p → I' p = I p) (hL : ∀ p, p = 0 ∨ (6 ≤ p ∧ p ≤ 14) ∨ 69 ≤ p → L' p = L p) (hP : Psz I' n m mv) : CI I' L' rm n m mv st := by
  obtain ⟨a1, a2, a3, a4, a5, a6, a7, a8, a9, a10⟩ := h
  have h6 := hI 6 (by decide)
  refine ⟨by rw [h6]; exact a1, by rw [h6]; exact a2, fun i hi => by rw [hL 7 (by decide)]; exact a3 i hi, by rw [hL 0 (by decide)]; exact a4, a5.fr (hI 8 (by decide)) (hI 9 (by decide)) (hI 13 (by decide)) (hI 14 (by decide)) (hL 8 (by decide)) (hL 10 (by decide)) (hL 11 (by decide)) (hL 12 (by decide)), ?_, hP, a8.fr (hI 30 (by decide)) (hI 31 (by decide)), a9.fr (hI 33 (by decide)) (hI 34 (by decide)), a10.fr (by rw [h6]) (fun p hp => hI p (by omega)) (fun p hp => hL p (by omega))⟩
  unfold Ndd at a6 ⊢; rw [h6]; exact a6
theorem MS_s6 {s : Nat} (hm : m ≤ 6) (hs : s < 2 ^ m) : MS mv s 6 = MS mv s m := by
  funext q
  apply propext
  exact ⟨fun ⟨t, t1, t2, t3⟩ => ⟨t, tb_lt hs t2, t2, t3⟩, fun ⟨t, t1, t2, t3⟩ => ⟨t, by omega, t2, t3⟩⟩
theorem En_un {G : PS} {a b : Nat} (h : En G a) (g : En G b) : a = b := Nat.le_antisymm (En_le h g (fun _ h => h)) (En_le g h (fun _ h => h))
theorem En_bd {G : PS} {a : Nat} (hn : n ≤ 10) (hG : Sub n G) (h : En G a) : a ≤ 3628800 := En_le h En_S10 (fun p hp => IsP_mono (hG.1 p hp) hn)
theorem gat {cb s : Nat} (hO : OKm n m mv st) (h7 : ∀ i, i < m → L 7 i = tn n (mv i)) (hs : s < 2 ^ m) (hcb : 7 ≠ cb ∧ 7 ≠ cb + 2 ∧ 7 ≠ cb + 3 ∧ 7 ≠ cb + 4) : ∃ nd I' L', f_X0_gather cb 7 (nI s) (nI n) I L = some (nI nd, I', L') ∧ ChG I' L' cb n (Gen n (MS mv s m)) ∧ FrC cb I L I' L' := by
  have hp2 : 2 ^ m ≤ 2 ^ 6 := Nat.pow_le_pow_right (by decide) hO.2.1
  obtain ⟨nd, I1, L1, g1, g2, g3, g4, g5⟩ := gather_eq (I := I) (L := L) (cb := cb) (a1 := 7) (ch := s) (mv := mv) hO.1 (by omega) hcb (fun t _ hb => ⟨h7 t (tb_lt hs hb), hO.2.2.1 t (tb_lt hs hb)⟩)
  rw [MS_s6 hO.2.1 hs] at g4
  exact ⟨nd, I1, L1, g1, g4, g5⟩
theorem Pz_fr {I' : MI} (h : Psz I n m mv) (h29 : I' 29 = I 29) : Psz I' n m mv := by
  unfold Psz at h ⊢; rw [h29]; exact h
theorem sizeBy_eq {s : Nat} (hO : OKm n m mv st) (hC : CI I L rm n m mv st) (hs : s < 2 ^ m) : ∃ N I' L', f_X2_sizeBy (nI s) I L = some (nI N, I', L') ∧ En (Gen n (MS mv s m)) N ∧ CI I' L' rm n m mv st ∧ (∀ p, p < 15 ∨ 29 < p → I' p = I p) ∧ (∀ p, p < 15 ∨ 29 ≤ p → L' p = L p) := by
  have hn := hO.1
  have hm := hO.2.1
  have hp2 : 2 ^ m ≤ 2 ^ 6 := Nat.pow_le_pow_right (by decide) hm
  have hGs := Gen_Sub hn (MS_P hO.2.2.1 s)
  have hz := hC.2.2.2.2.2.2.1
  unfold f_X2_sizeBy
  rw [ob (every_eq hm hC.2.1), q_and, Nat.and_two_pow_sub_one_eq_mod, Nat.mod_eq_of_lt hs, bnd_eq, q_chk (by omega) (by decide), q_ix (by omega)]
  by_cases c : I 29 s = 0
  · obtain ⟨nd, I1, L1, g1, g2, g3⟩ := gat (I := I) (L := L) (cb := 15) hO hC.2.2.1 hs (by decide)
    obtain ⟨rb, th, t1, t2, _⟩ := ChG_tab hn g2
    rw [if_pos c, hC.1, ob g1, ob (size_eq hn t1 t2.1), q_chk (by omega) (by decide), bnd_eq, q_chk (by omega) (by decide), up2_s]
    have hE := En_sz hn hGs t2
    have f1 : ∀ p, p < 15 ∨ 29 < p → up2 I1 29 s (nI (sz (tbR rb) n n)) p = I p := fun p hp => by rw [up2_ne (by omega), g3.1 p (by omega) (by omega) (by omega) (by omega)]
    have f2 : ∀ p, p < 15 ∨ 29 ≤ p → L1 p = L p := fun p hp => g3.2 p (by omega) (by omega) (by omega) (by omega)
    refine ⟨_, _, L1, rfl, hE, hC.gen (fun p hp => f1 p (by omega)) (fun p hp => f2 p (by omega)) (fun s' hs' => ?_), f1, f2⟩
    by_cases e1 : s' = s
    · subst e1; right; exact ⟨_, hE, up2_s⟩
    · rw [up2_n e1]
      dsimp only
      rw [g3.1 29 (by decide) (by decide) (by decide) (by decide)]; exact hz s' hs'
  · rw [if_neg c, q_chk (by omega) (by decide)]
    rcases hz s hs with g | ⟨N, g1, g2⟩
    · exact absurd g c
    · rw [g2]
      exact ⟨N, I, L, rfl, g1, hC, fun _ _ => rfl, fun _ _ => rfl⟩
theorem RDY.frS {I' : MI} {s : Nat} (h : RDY I n m mv st) (hf : Fr (48 :: SC) I I') (hs : FrS s I I') (h0 : s ≠ 0) : RDY I' n m mv st := by
  have k43 := hf 43 (by decide)
  exact ⟨by rw [k43]; exact h.1, h.2.1.fr (hf 44 (by decide)), h.2.2.imp (fun g => by rw [k43]; exact g) (fun g => ⟨by rw [k43]; exact g.1, g.2.frS hs (fun e => h0 e.symm)⟩)⟩
theorem Q8_48 {I' : MI} (h : Fr (48 :: SC) I I') : Q8 I I' := Q8_b (h.mono (by decide)) (fun j _ => by rw [h 43 (by decide)])
theorem bld1 {s k : Nat} (hO : OKm n m mv st) (hR : RDY I n m mv st) (hs : s < 2 ^ m) (hk : k < 4) (hk0 : k ≠ 0) : ∃ I', f_X8_builds (nI k) (nI s) I L = some (I', L) ∧ SlotG I' k (Gen n (MS mv s m)) ∧ RDY I' n m mv st ∧ Q8 I I' ∧ Fr (48 :: SC) I I' ∧ FrS k I I' := by
  have hp2 : 2 ^ m ≤ 2 ^ 6 := Nat.pow_le_pow_right (by decide) hO.2.1
  obtain ⟨I', b1, b2, b3, b4⟩ := builds_eq (L := L) (s := k) (set := s) hk (by omega) (fun i hi => IsP_mono (hO.2.2.1 i hi) hO.1) hR.2.1
  rw [Gen_10 hO.1 (MS_P hO.2.2.1 s)] at b2
  exact ⟨I', b1, b2, hR.frS b3 b4 hk0, Q8_48 b3, b3, b4⟩
theorem ord_k {k N : Nat} {G : PS} (hk : k < 4) (h : SlotG I k G) (hE : En G N) : f_X8_orderOf (nI k) I L = some (nI N) := by
  obtain ⟨T, hS, hT, hG, _⟩ := h
  have := orderFrom_eq (I := I) (L := L) (s := k) (l := 0) hk (by decide)
  rw [nI_0] at this
  unfold f_X8_orderOf
  rw [ob this, En_un hE (En_sz (Nat.le_refl 10) hG hT)]
theorem PR_36h : PR_36 Inv := by
  intro I L rm a ⟨n, m, mv, st, h⟩
  obtain ⟨hO, hC, hR, hP, hT, hU, hF, hS⟩ := id h
  have hn := hO.1
  cases hb : mB a m
  · refine ⟨-1, up2 I 0 6 2, L, ?_, is8 (up2 I 0 6 2) 2, L, ?_, IV_q h (Q8_is (a := 2)) (RDY_is (RDY_s hR)) is8_0⟩
    · simp (config := { decide := true }) only [f_X7_by, hasMoves_eq hO.2.1 hC.2.1 a, hb, obs, bnd_eq, is_0, is_1, is_2, is_3, is_4, is_5, is_6, is_9, tell_eq, refuse_eq, refuse8_eq, b2i_1, b2i_0, if_true, if_false, ↓reduceIte]
    · simp (config := { decide := true }) only [f_X8_by, areMoves_eq (RDY_s (s := 2) hR).2.1 a, hb, whyHere_2, obs, bnd_eq, is_0, is_1, is_2, is_3, is_4, is_5, is_6, is_9, tell_eq, refuse_eq, refuse8_eq, b2i_1, b2i_0, if_true, if_false, ↓reduceIte]
  · have hb1 := hasMoves_eq (L := L) hO.2.1 hC.2.1 a
    have hb2 : ∀ (J : MI) (M : ML), Nw J m mv st → f_X8_areMoves a J M = some true := fun J M hJ => by rw [areMoves_eq hJ a, hb]
    rw [hb] at hb1
    by_cases h0 : n = 0
    · have e0 : nI n = 0 := by rw [h0]; rfl
      refine ⟨-1, up2 I 0 6 5, L, ?_, is8 (up2 I 0 6 5) 5, L, ?_, IV_q h (Q8_is (a := 5)) (RDY_is (RDY_s hR)) is8_0⟩
      · simp (config := { decide := true }) only [f_X7_by, hb1, hC.1, e0, obs, bnd_eq, is_0, is_1, is_2, is_3, is_4, is_5, is_6, is_9, tell_eq, refuse_eq, refuse8_eq, b2i_1, b2i_0, if_true, if_false, ↓reduceIte]
      · simp (config := { decide := true }) only [f_X8_by, hb2 _ _ (RDY_s (s := 5) hR).2.1, whyHere_n (w := 0) (RDY_s (s := 5) hR).1 h0, obs, bnd_eq, is_0, is_1, is_2, is_3, is_4, is_5, is_6, is_9, tell_eq, refuse_eq, refuse8_eq, b2i_1, b2i_0, if_true, if_false, ↓reduceIte]
    · have e0 : ¬ nI n = 0 := nI_ne0 (by omega) (by omega)
      obtain ⟨s, hs, rfl⟩ := mB_t hb
      obtain ⟨N, I1, L1, a1, a2, a3, a4, a5⟩ := sizeBy_eq hO hC hs
      have k1 : ∀ p, p = 1 ∨ p = 2 ∨ p = 42 ∨ (43 ≤ p ∧ p < 69) → up2 I1 0 6 0 p = I p := fun p hp => by rw [up2_ne (by omega), a4 p (by omega)]
      have R1 : RDY (up2 I1 0 6 0) n m mv st := hR.of (by rw [k1 43 (by decide)]) (by rw [k1 43 (by decide)]) (k1 44 (by decide)) (k1 52 (by decide)) (k1 53 (by decide))
      obtain ⟨I2, b1, b2, b3, b4, b5, b6⟩ := bld1 (L := L1) (k := 1) hO (RDY_is (a := 0) R1) hs (by decide) (by decide)
      have or1 := ord_k (L := L1) (by decide) b2 a2
      have hc : CO I L I1 L1 := ⟨fun p hp => a4 p (by omega), fun j _ => by rw [a4 0 (by decide)], a5 39 (by decide), a5 41 (by decide)⟩
      refine ⟨nI N, up2 I1 0 6 0, L1, ?_, I2, L1, ?_, IV_fin h (CI_s a3) (hc.trans CO_s) (Q8_is.trans b4) b3 (by rw [up2_s, b5 43 (by decide)]; exact is8_0.symm)⟩
      · simp (config := { decide := true }) only [f_X7_by, hb1, hC.1, e0, a1, obs, bnd_eq, is_0, is_1, is_2, is_3, is_4, is_5, is_6, is_9, tell_eq, refuse_eq, refuse8_eq, b2i_1, b2i_0, if_true, if_false, ↓reduceIte]
      · have b1 : f_X8_builds 1 (nI s) (is8 (up2 I1 0 6 0) 0) L1 = some (I2, L1) := b1
        have or1 : f_X8_orderOf 1 I2 L1 = some (nI N) := or1
        simp (config := { decide := true }) only [f_X8_by, hb2 _ _ R1.2.1, whyHere_p R1.1 hn h0, b1, or1, obs, bnd_eq, is_0, is_1, is_2, is_3, is_4, is_5, is_6, is_9, tell_eq, refuse_eq, refuse8_eq, b2i_1, b2i_0, if_true, if_false, ↓reduceIte]
end PT
