/-! Spare moves -/
section SR
variable {n m N rm : Nat} {mv : Nat → Nat → Nat} {st : Nat → Nat} {I : MI} {L : ML} {e : Nat → Nat → Nat}
def clr (a j : Nat) : Nat := if a.testBit j = true then a - 2 ^ j else a
theorem clr_eq : ∀ a : Nat, a < 64 → ∀ j : Nat, j < 6 → nI a &&& (nI (2 ^ j) ^^^ (-1)) = nI (clr a j) := by decide +kernel
theorem clr_le (a j : Nat) : clr a j ≤ a := by
  unfold clr
  by_cases h : a.testBit j = true
  · rw [if_pos h]; exact Nat.sub_le _ _
  · rw [if_neg h]; exact Nat.le_refl _
theorem spareM_eq {B : Nat → Bool} (hO : OKm n m mv st) (hC : CI I L rm n m mv st) (he : EL n (Gp n m mv) N e) (hB : ∀ j, j < m → (B j = true ↔ En (Gen n (MS mv (clr (2 ^ m - 1) j) m)) N)) : ∃ I' L', f_X2_spareMoves I L = some (nI (oS B m), I', L') ∧ CI I' L' rm n m mv st ∧ (∀ p, p < 15 ∨ 29 < p → I' p = I p) ∧ (∀ p, p < 15 ∨ 29 ≤ p → L' p = L p) := by
  have hn := hO.1
  have hm := hO.2.1
  have hp2 : 2 ^ m ≤ 2 ^ 6 := Nat.pow_le_pow_right (by decide) hm
  have hp1 := Nat.two_pow_pos m
  have hNb := EL_N hO he
  unfold f_X2_spareMoves
  have := loop0 (fun fu (z : Int32 × Int32 × MI × ML) => f_X2_spareMoves_4 fu z.1 z.2.1 z.2.2.1 z.2.2.2) (fun j z => j ≤ m ∧ z.1 = nI (oS B j) ∧ z.2.1 = nI j ∧ CI z.2.2.1 z.2.2.2 rm n m mv st ∧ (∀ p, p < 15 ∨ 29 < p → z.2.2.1 p = I p) ∧ (∀ p, p < 15 ∨ 29 ≤ p → z.2.2.2 p = L p)) (fun o => ∃ I' L', o = some (nI (oS B m), I', L') ∧ CI I' L' rm n m mv st ∧ (∀ p, p < 15 ∨ 29 < p → I' p = I p) ∧ (∀ p, p < 15 ∨ 29 ≤ p → L' p = L p)) m (by omega) (nI 0, nI 0, I, L) ⟨Nat.zero_le _, rfl, rfl, hC, fun _ _ => rfl, fun _ _ => rfl⟩
    (fun fu j z hj hP => by
      obtain ⟨z1, z2, K, M⟩ := z
      obtain ⟨_, p1, p2, p3, p4, p5⟩ := hP
      dsimp only at p1 p2 p3 p4 p5 ⊢
      subst p1 p2
      rw [f_X2_spareMoves_4, p3.2.1, ifc (q_le (by omega) (by omega))]
      by_cases c1 : m ≤ j
      · left
        rw [if_pos c1, show j = m by omega]
        exact ⟨K, M, rfl, p3, p4, p5⟩
      · right
        have hcl : clr (2 ^ m - 1) j < 2 ^ m := by have := clr_le (2 ^ m - 1) j; omega
        obtain ⟨Ns, K1, M1, a1, a2, a3, a4, a5⟩ := sizeBy_eq hO p3 hcl
        have hNs := En_bd hn (Gen_Sub hn (MS_P hO.2.2.1 _)) a2
        rw [if_neg c1, ob (every_eq hm p3.2.1), q_shl1 (by omega), clr_eq _ (by omega) j (by omega), ob a1]
        dsimp only
        rw [ob (size2_eq hO a3 he), ifc (q_eq (by omega) (by omega))]
        have hk : Ns = N ↔ B j = true := ⟨fun g => (hB j (by omega)).mpr (g ▸ a2), fun g => En_un a2 ((hB j (by omega)).mp g)⟩
        cases c : B j
        · refine ⟨by omega, (nI (oS B (j + 1)), nI (j + 1), K1, M1), ?_, by omega, rfl, rfl, a3, fun p hp => (a4 p hp).trans (p4 p hp), fun p hp => (a5 p hp).trans (p5 p hp)⟩
          rw [if_neg (fun g => by rw [hk.mp g] at c; cases c), bnd_eq, nI_1, oS_f c]
        · refine ⟨by omega, (nI (oS B (j + 1)), nI (j + 1), K1, M1), ?_, by omega, rfl, rfl, a3, fun p hp => (a4 p hp).trans (p4 p hp), fun p hp => (a5 p hp).trans (p5 p hp)⟩
          rw [if_pos (hk.mpr c), bnd_eq, bnd_eq, nI_1, q_or, oS_t c])
  rw [nI_0] at this
  exact this
theorem isWhole_eq {s : Nat} {c : Bool} (hO : OKm n m mv st) (hR : RDY I n m mv st) (he : EL n (Gp n m mv) N e) (hs : s < 2 ^ m) (hc : c = true ↔ En (Gen n (MS mv s m)) N) : ∃ I', f_X8_isWhole (nI s) I L = some (c, I', L) ∧ RDY I' n m mv st ∧ Q8 I I' ∧ I' 43 0 = I 43 0 := by
  have hn := hO.1
  have hNb := EL_N hO he
  have hGs := Gen_Sub hn (MS_P hO.2.2.1 s)
  obtain ⟨Ns, hE⟩ := En_ex hn hGs
  have hNs := En_bd hn hGs hE
  obtain ⟨I1, b1, b2, b3, b4, b5, b6⟩ := bld1 (L := L) (k := 1) hO hR hs (by decide) (by decide)
  have or1 := ord_k (L := L) (by decide) b2 hE
  have b1 : f_X8_builds 1 (nI s) I L = some (I1, L) := b1
  have or1 : f_X8_orderOf 1 I1 L = some (nI Ns) := or1
  obtain ⟨I2, d1, d2, d3, d4, d5⟩ := orderNow_eq (L := L) hO b3 he
  refine ⟨I2, ?_, d2.rdy, b4.trans (Q8_b d3 d4), by rw [d4 0 (by decide), b5 43 (by decide)]⟩
  unfold f_X8_isWhole
  rw [ob b1]
  dsimp only
  rw [ob or1, ob d1]
  dsimp only
  rw [ifc (q_eq (by omega) (by omega))]
  cases c
  · rw [if_neg (fun g : Ns = N => absurd (hc.mpr (g ▸ hE)) (by decide))]
  · rw [if_pos (En_un hE (hc.mp rfl))]
theorem spare27 {B : Nat → Bool} (hO : OKm n m mv st) (hR : RDY I n m mv st) (he : EL n (Gp n m mv) N e) (hB : ∀ j, j < m → (B j = true ↔ En (Gen n (MS mv (clr (2 ^ m - 1) j) m)) N)) : ∃ I', f_X8_spare_27 (nI (2 ^ m - 1)) FU 0 0 I L = some (nI (oS B m), I', L) ∧ RDY I' n m mv st ∧ Q8 I I' ∧ I' 43 0 = I 43 0 := by
  have hm := hO.2.1
  have hp2 : 2 ^ m ≤ 2 ^ 6 := Nat.pow_le_pow_right (by decide) hm
  have hp1 := Nat.two_pow_pos m
  have := loop0 (fun fu (z : Int32 × Int32 × MI × ML) => f_X8_spare_27 (nI (2 ^ m - 1)) fu z.1 z.2.1 z.2.2.1 z.2.2.2) (fun j z => j ≤ m ∧ z.1 = nI (oS B j) ∧ z.2.1 = nI j ∧ z.2.2.2 = L ∧ RDY z.2.2.1 n m mv st ∧ Q8 I z.2.2.1 ∧ z.2.2.1 43 0 = I 43 0) (fun o => ∃ I', o = some (nI (oS B m), I', L) ∧ RDY I' n m mv st ∧ Q8 I I' ∧ I' 43 0 = I 43 0) m (by omega) (nI 0, nI 0, I, L) ⟨Nat.zero_le _, rfl, rfl, rfl, hR, Q8.refl, rfl⟩
    (fun fu j z hj hP => by
      obtain ⟨z1, z2, K, M⟩ := z
      obtain ⟨_, p1, p2, p3, p4, p5, p6⟩ := hP
      dsimp only at p1 p2 p3 p4 p5 p6 ⊢
      subst p1 p2 p3
      rw [f_X8_spare_27, ob (moves_eq p4.2.1), ifc (q_le (by omega) (by omega))]
      by_cases c1 : m ≤ j
      · left
        rw [if_pos c1, show j = m by omega]
        exact ⟨K, rfl, p4, p5, p6⟩
      · right
        have hcl : clr (2 ^ m - 1) j < 2 ^ m := by have := clr_le (2 ^ m - 1) j; omega
        obtain ⟨K1, a1, a2, a3, a4⟩ := isWhole_eq (L := M) hO p4 he hcl (hB j (by omega))
        rw [if_neg c1, q_shl1 (by omega), clr_eq _ (by omega) j (by omega), ob a1]
        dsimp only
        refine ⟨by omega, (nI (oS B (j + 1)), nI (j + 1), K1, M), ?_, by omega, rfl, rfl, rfl, a2, p5.trans a3, a4.trans p6⟩
        cases c : B j
        · rw [if_pos b2i_f, bnd_eq, bnd_eq, nI_1, show (0 : Int32) = nI 0 from rfl, q_or, Nat.or_zero, oS_f c]
        · rw [if_neg b2i_t, bnd_eq, bnd_eq, nI_1, q_or, oS_t c])
  rw [nI_0] at this
  exact this
theorem PR_39h : PR_39 Inv := by
  intro I L rm ⟨n, m, mv, st, h⟩
  obtain ⟨hO, hC, hR, hP, hT, hU, hF, hS⟩ := id h
  have hn := hO.1
  have hG := Gp_Sub hn hO.2.2.1
  obtain ⟨N, e, he⟩ := EL_ex hn hG
  by_cases h0 : n = 0
  · have e0 : nI n = 0 := by rw [h0]; rfl
    refine ⟨-1, up2 I 0 6 5, L, ?_, is8 (up2 I 0 6 5) 5, L, ?_, IV_q h (Q8_is (a := 5)) (RDY_is (RDY_s hR)) is8_0⟩
    · simp (config := { decide := true }) only [f_X7_spare, hC.1, e0, obs, bnd_eq, is_0, is_1, is_2, is_3, is_4, is_5, is_6, is_9, tell_eq, refuse_eq, refuse8_eq, b2i_1, b2i_0, if_true, if_false, ↓reduceIte]
    · simp (config := { decide := true }) only [f_X8_spare, whyHere_n (w := 0) (RDY_s (s := 5) hR).1 h0, obs, bnd_eq, is_0, is_1, is_2, is_3, is_4, is_5, is_6, is_9, tell_eq, refuse_eq, refuse8_eq, b2i_1, b2i_0, if_true, if_false, ↓reduceIte]
  · have e0 : ¬ nI n = 0 := nI_ne0 (by omega) (by omega)
    obtain ⟨B, hB⟩ := dec_ex (fun j => En (Gen n (MS mv (clr (2 ^ m - 1) j) m)) N)
    obtain ⟨I1, L1, a1, a3, a4, a5⟩ := spareM_eq hO hC he (fun j _ => hB j)
    have k1 : ∀ p, p = 1 ∨ p = 2 ∨ p = 42 ∨ (43 ≤ p ∧ p < 69) → up2 I1 0 6 0 p = I p := fun p hp => by rw [up2_ne (by omega), a4 p (by omega)]
    have R1 : RDY (up2 I1 0 6 0) n m mv st := hR.of (by rw [k1 43 (by decide)]) (by rw [k1 43 (by decide)]) (k1 44 (by decide)) (k1 52 (by decide)) (k1 53 (by decide))
    have R2 := RDY_is (a := 0) R1
    obtain ⟨I2, b1, b2, b3, b4⟩ := spare27 (L := L1) hO R2 he (fun j _ => hB j)
    have hc : CO I L I1 L1 := ⟨fun p hp => a4 p (by omega), fun j _ => by rw [a4 0 (by decide)], a5 39 (by decide), a5 41 (by decide)⟩
    refine ⟨nI (oS B m), up2 I1 0 6 0, L1, ?_, I2, L1, ?_, IV_fin h (CI_s a3) (hc.trans CO_s) (Q8_is.trans b3) b2 (by rw [up2_s, b4]; exact is8_0.symm)⟩
    · simp (config := { decide := true }) only [f_X7_spare, hC.1, e0, a1, obs, bnd_eq, is_0, is_1, is_2, is_3, is_4, is_5, is_6, is_9, tell_eq, refuse_eq, refuse8_eq, b2i_1, b2i_0, if_true, if_false, ↓reduceIte]
    · have hm := hO.2.1
      unfold f_X8_spare
      rw [ob (whyHere_p R1.1 hn h0), ob is_0]
      dsimp only
      rw [if_neg b2i_t, ob (moves_eq R2.2.1), q_shl1 (by omega), show (1 : Int32) = nI 1 from rfl, pk_sub (Nat.two_pow_pos m), bnd_eq]
      exact b1
end SR
