/-! Holding a set of points: the class -/
section HP
variable {n m rm : Nat} {mv : Nat → Nat → Nat} {st : Nat → Nat} {I : MI} {L : ML}
def cv (mv : Nat → Nat → Nat) (g : Nat → Nat) : Nat → Nat → Nat := fun u => cj (mv u) g
theorem cv_P {g : Nat → Nat} (hn : n ≤ 10) (hmv : ∀ i, i < m → IsP n (mv i)) (hg : IsP n g) : ∀ i, i < m → IsP n (cv mv g i) := fun i hi => IsP_cj hn (hmv i hi) hg
theorem cv_gen {nd : Nat} {g : Nat → Nat} (hn : n ≤ 10) (hmv : ∀ i, i < m → IsP n (mv i)) (hg : IsP n g) (h : Gen n (MS mv nd m) = Gp n m mv) : Gen n (MS (cv mv g) nd m) = Gp n m (cv mv g) := by
  have hP := cv_P hn hmv hg
  have hsub : Sub n (Gen n (MS (cv mv g) nd m)) := Gen_Sub hn (MS_P hP nd)
  have key : ∀ u, u < m → Gen n (MS (cv mv g) nd m) (cv mv g u) := fun u hu => norm_gen hn (MS_P hmv nd) hsub hg (fun s ⟨t, t1, t2, t3⟩ => by rw [t3]; exact Gen_in ⟨t, t1, t2, rfl⟩) (mv u) (by rw [h]; exact Gp_mv hu)
  funext q
  apply propext
  exact ⟨fun k => Gen_mono (fun a ⟨t, t1, t2, t3⟩ => by rw [t3]; exact Gp_mv t1) q k, fun k => Gen_mono (fun a ⟨t, t1, t2, t3⟩ => by rw [t3]; exact key t t1) q k⟩
theorem ch112 {g : Nat → Nat} {nd : Nat} {v4 : Int32} (hO : OKm n m mv st) (hg : IsP n g) (h60 : I 6 0 = nI n) (h61 : I 6 1 = nI m) (h64 : I 6 4 = nI nd) (hnd : nd < 64) (h7 : ∀ i, i < m → L 7 i = tn n (mv i)) (h0 : ChG I L 15 n (fun p => p = idp)) (k0 : MI → ML → Option (Int32 × Mm)) : ∃ I' L', f_X2_countHolding_112 (tn n g) v4 k0 FU 0 I L = k0 I' L' ∧ ChG I' L' 15 n (Gen n (MS (cv mv g) nd m)) ∧ FrC 15 I L I' L' := by
  have hn := hO.1
  have hm := hO.2.1
  have := loop0 (fun fu (z : Int32 × MI × ML) => f_X2_countHolding_112 (tn n g) v4 k0 fu z.1 z.2.1 z.2.2) (fun t z => t ≤ m ∧ z.1 = nI t ∧ ChG z.2.1 z.2.2 15 n (Gen n (MS (cv mv g) nd t)) ∧ FrC 15 I L z.2.1 z.2.2) (fun o => ∃ I' L', o = k0 I' L' ∧ ChG I' L' 15 n (Gen n (MS (cv mv g) nd m)) ∧ FrC 15 I L I' L') m (by omega) (nI 0, I, L) ⟨Nat.zero_le _, rfl, by dsimp only; rw [MS_0 hn]; exact h0, FrC.refl⟩
    (fun fu t z ht hP => by
      obtain ⟨z1, K, M⟩ := z
      obtain ⟨_, p1, p2, p3⟩ := hP
      dsimp only at p1 p2 p3 ⊢
      subst p1
      have k6 : K 6 = I 6 := p3.1 6 (by decide) (by decide) (by decide) (by decide)
      have m7 : M 7 = L 7 := p3.2 7 (by decide) (by decide) (by decide) (by decide)
      rw [f_X2_countHolding_112, k6, h61, ifc (q_le (by omega) (by omega))]
      by_cases c1 : m ≤ t
      · left
        rw [if_pos c1]
        exact ⟨K, M, rfl, by rw [show m = t by omega]; exact p2, p3⟩
      · right
        rw [if_neg c1, h64, ifc (q_bit0 (by omega) (by omega))]
        cases hb : nd.testBit t
        · refine ⟨by omega, (nI (t + 1), K, M), ?_, by omega, rfl, by dsimp only; rw [MS_f hb]; exact p2, p3⟩
          rw [if_pos rfl, bnd_eq, nI_1]
        · have mP := hO.2.2.1 t (by omega)
          obtain ⟨c, hc⟩ := em_B (¬ Gen n (MS (cv mv g) nd t) (cj (mv t) g))
          obtain ⟨K1, M1, g1, g2, g3⟩ := grow_eq (I := K) (L := M) hn p2 (IsP_cj hn mP hg) hc
          refine ⟨by omega, (nI (t + 1), K1, M1), ?_, by omega, rfl, by dsimp only; rw [← MS_t hb]; exact g2, p3.trans g3⟩
          rw [if_neg (by decide), q_chk (by omega) (by decide), q_ix (by omega), m7, h7 t (by omega), h60, ob (conjugate_eq hn mP hg), ob g1]
          dsimp only
          rw [bnd_eq, nI_1])
  rw [nI_0] at this
  exact this
theorem countH_eq {s : Nat} (hO : OKm n m mv st) (hC : CI I L rm n m mv st) (hs : s < 2 ^ n) : ∃ N I' L', f_X2_countHolding (nI s) I L = some (nI N, I', L') ∧ (∀ R T, TabG n (Gp n m (cv mv (hg s n))) (RB R) T → N = sz R n (n - cT (fun i => s.testBit i) n)) ∧ CI I' L' rm n m mv st ∧ (∀ p, p < 15 ∨ 29 ≤ p → I' p = I p) ∧ (∀ p, p < 15 ∨ 29 ≤ p → L' p = L p) := by
  have hn := hO.1
  have hm := hO.2.1
  have h2n := (two_n hn).2
  have hP := hg_P (n := n) s
  have ek : cT (fun i => s.testBit i) 10 = cT (fun i => s.testBit i) n := cT_more 10 hn (fun i hi => Nat.testBit_lt_two_pow (Nat.lt_of_lt_of_le hs (Nat.pow_le_pow_right (by decide) hi)))
  have hkn := cT_le (fun i => s.testBit i) n
  have bc := bitCount_all s (by omega)
  rw [ek] at bc
  obtain ⟨nd, n1, n2, n3, n4⟩ := hC.2.2.2.2.2.1
  obtain ⟨Ia, La, s1, s2, s3⟩ := start_eq (cb := 15) (I := I) (L := L) hn
  have a6 : Ia 6 = I 6 := s3.1 6 (by decide) (by decide) (by decide) (by decide)
  have l7 : La 7 = L 7 := s3.2 7 (by decide) (by decide) (by decide) (by decide)
  generalize hk1 : (fun (I_29 : MI) (L_30 : ML) => Option.bind (f_X0_sizeFrom 15 (nI (cT (fun i => s.testBit i) n)) I_29 L_30) (fun q_31 => some (q_31, I_29, L_30))) = k1
  obtain ⟨Ib, Lb, g1, g2, g3⟩ := ch112 (I := Ia) (L := La) (v4 := nI (cT (fun i => s.testBit i) n)) hO hP (by rw [a6]; exact hC.1) (by rw [a6]; exact hC.2.1) (by rw [a6]; exact n1) n2 (fun i hi => by rw [l7]; exact hC.2.2.1 i hi) s2 k1
  rw [cv_gen hn hO.2.2.1 hP n4] at g2
  obtain ⟨rb, th, t1, t2, _⟩ := ChG_tab hn g2
  have sf := sizeFrom_eq (I := Ib) (L := Lb) hn t1 t2.1 hkn
  have fr := s3.trans g3
  have f1 : ∀ p, p < 15 ∨ 29 ≤ p → Ib p = I p := fun p hp => fr.1 p (by omega) (by omega) (by omega) (by omega)
  have f2 : ∀ p, p < 15 ∨ 29 ≤ p → Lb p = L p := fun p hp => fr.2 p (by omega) (by omega) (by omega) (by omega)
  refine ⟨sz (tbR rb) n (n - cT (fun i => s.testBit i) n), Ib, Lb, ?_, fun R T hT => sz_tab hn t2 hT _ (by omega), hC.gen (fun p hp => f1 p (by omega)) (fun p hp => f2 p (by omega)) (Pz_fr hC.2.2.2.2.2.2.1 (f1 29 (by decide))), f1, f2⟩
  unfold f_X2_countHolding
  rw [ob bc, ch18 hn hs hC.1, hC.1, ob s1]
  dsimp only
  rw [hk1, g1, ← hk1]
  dsimp only
  rw [ob sf]
end HP
