/-! Loading: the new moves -/
section LDA
variable {n m rm N : Nat} {mv : Nat → Nat → Nat} {st : Nat → Nat} {I : MI} {L : ML} {e : Nat → Nat → Nat}
theorem findOut_eq0 (hn : n ≤ 10) (hm : m ≤ 6) (hmv : ∀ i, i < m → IsP n (mv i)) (h0 : I 6 0 = nI n) (h1 : I 6 1 = nI m) (h7 : ∀ i, i < m → L 7 i = tn n (mv i)) (hr : rm ≤ 5040) (hr2 : rm ≠ 0 → I 69 0 = nI rm) : ∃ I' L', f_X2_findOut I L = some (I', L') ∧ CI I' (up2 L' 0 5 (tn n st)) rm n m mv st ∧ (∀ p, p < 6 ∨ (36 ≤ p) → I' p = I p) ∧ (∀ p, p ≤ 7 ∨ 15 ≤ p → L' p = L p) := by
  have hp2 : 2 ^ m ≤ 2 ^ 6 := Nat.pow_le_pow_right (by decide) hm
  have hp1 := Nat.two_pow_pos m
  have ev : f_X2_everyMove I L = some (nI (2 ^ m - 1)) := by
    unfold f_X2_everyMove
    rw [h1, q_shl1 (by omega), show (1 : Int32) = nI 1 from rfl, pk_sub hp1]
  obtain ⟨nd, I1, L1, g1, g2, g3, g4, g5⟩ := gather_eq (I := I) (L := L) (cb := 8) (a1 := 7) (ch := 2 ^ m - 1) (mv := mv) hn (by omega) (by decide) (fun t _ hb => by
    rw [Nat.testBit_two_pow_sub_one] at hb
    have := of_decide_eq_true hb
    exact ⟨h7 t this, hmv t this⟩)
  rw [MS_6 hm] at g4
  unfold f_X2_findOut
  rw [ob ev, h0, ob g1, bnd_eq, bnd_eq]
  dsimp only
  unfold f_X1_forget
  rw [bnd_eq, obs, bnd_eq, obs]
  dsimp only
  generalize hJ : up2 (up2 (up2 (up2 I1 6 4 (nI nd)) 6 11 0) 30 4 0) 33 4 0 = J
  have key : ∃ I', f_X2_findOut_44 L1 FU 0 J = some (I', L1) ∧ (∀ s, s < 64 → I' 29 s = 0) ∧ (∀ p, p ≠ 29 → I' p = J p) := by
    have := loop0 (fun fu (z : Int32 × MI) => f_X2_findOut_44 L1 fu z.1 z.2) (fun j z => j ≤ 64 ∧ z.1 = nI j ∧ (∀ s, s < j → z.2 29 s = 0) ∧ (∀ p, p ≠ 29 → z.2 p = J p)) (fun o => ∃ I', o = some (I', L1) ∧ (∀ s, s < 64 → I' 29 s = 0) ∧ (∀ p, p ≠ 29 → I' p = J p)) 64 (by decide) (nI 0, J) ⟨by decide, rfl, fun s hs => by omega, fun _ _ => rfl⟩
      (fun fu j z hj hP => by
        obtain ⟨z1, K⟩ := z
        obtain ⟨_, p1, p2, p3⟩ := hP
        dsimp only at p1 p2 p3 ⊢
        subst p1
        rw [f_X2_findOut_44, show (64 : Int32) = nI 64 from rfl, ifc (q_le (by decide) (by omega))]
        by_cases c1 : 64 ≤ j
        · left
          rw [if_pos c1]
          exact ⟨K, rfl, fun s hs => p2 s (by omega), p3⟩
        · right
          refine ⟨by omega, (nI (j + 1), up2 K 29 j 0), ?_, by omega, rfl, fun s hs => ?_, fun p hp => ?_⟩
          · rw [if_neg c1, q_chk (by omega) (by decide), bnd_eq, bnd_eq, q_ix (by omega), nI_1]
          · dsimp only
            by_cases e1 : s = j
            · rw [e1, up2_s]
            · rw [up2_n e1]; exact p2 s (by omega)
          · dsimp only; rw [up2_ne hp]; exact p3 p hp)
    rw [nI_0] at this
    exact this
  obtain ⟨I', k1, k2, k3⟩ := key
  have hJp : ∀ p, p ≠ 6 → p ≠ 30 → p ≠ 33 → J p = I1 p := fun p h1 h2 h3 => by rw [← hJ, up2_ne h3, up2_ne h2, up2_ne h1, up2_ne h1]
  have hJ6 : ∀ j, j ≠ 4 → j ≠ 11 → J 6 j = I1 6 j := fun j h1 h2 => by rw [← hJ, up2_ne (by decide), up2_ne (by decide), up2_n h2, up2_n h1]
  have hI1 : ∀ p, p ≠ 8 → p ≠ 9 → p ≠ 13 → p ≠ 14 → I1 p = I p := fun p h1 h2 h3 h4 => g5.1 p h1 h2 h3 h4
  have fI : ∀ p, p < 6 ∨ 36 ≤ p → I' p = I p := fun p hp => by rw [k3 p (by omega), hJp p (by omega) (by omega) (by omega), hI1 p (by omega) (by omega) (by omega) (by omega)]
  have fL : ∀ p, p ≤ 7 ∨ 15 ≤ p → L1 p = L p := fun p hp => g5.2 p (by omega) (by omega) (by omega) (by omega)
  have e4 : I' 6 4 = nI nd := by rw [k3 6 (by decide), ← hJ, up2_ne (by decide), up2_ne (by decide), up2_n (by decide), up2_s]
  have e11 : I' 6 11 = 0 := by rw [k3 6 (by decide), ← hJ, up2_ne (by decide), up2_ne (by decide), up2_s]
  refine ⟨I', L1, k1, ⟨?_, ?_, fun i hi => by rw [up2_ne (by decide), fL 7 (by decide)]; exact h7 i hi, up2_s, g4.fr ?_ ?_ ?_ ?_ (up2_ne (by decide)) (up2_ne (by decide)) (up2_ne (by decide)) (up2_ne (by decide)), ⟨nd, e4, g2, fun t ht => ?_, nd_gen hn hmv hm g3⟩, fun s hs => Or.inl (k2 s (by omega)), Or.inl ?_, Or.inl ?_, ⟨hr, fun g => by rw [fI 69 (by decide)]; exact hr2 g, Or.inl e11⟩⟩, fI, fL⟩
  · rw [k3 6 (by decide), hJ6 0 (by decide) (by decide), hI1 6 (by decide) (by decide) (by decide) (by decide)]; exact h0
  · rw [k3 6 (by decide), hJ6 1 (by decide) (by decide), hI1 6 (by decide) (by decide) (by decide) (by decide)]; exact h1
  · rw [k3 8 (by decide), hJp 8 (by decide) (by decide) (by decide)]
  · rw [k3 (8 + 1) (by decide), hJp (8 + 1) (by decide) (by decide) (by decide)]
  · rw [k3 (8 + 5) (by decide), hJp (8 + 5) (by decide) (by decide) (by decide)]
  · rw [k3 (8 + 6) (by decide), hJp (8 + 6) (by decide) (by decide) (by decide)]
  · have := ((g3 t).mp ht).2.1
    rw [Nat.testBit_two_pow_sub_one] at this
    exact of_decide_eq_true this
  · rw [k3 30 (by decide), ← hJ, up2_ne (by decide), up2_s]
  · rw [k3 33 (by decide), ← hJ, up2_s]
theorem bec18 (hm : m ≤ 6) (h61 : I 6 1 = nI m) (k0 : ML → Option Mm) : ∃ L', f_X2_become_18 3 I k0 FU 0 L = k0 L' ∧ (∀ t, t < m → L' 7 t = L 3 t) ∧ (∀ p, p ≠ 7 → L' p = L p) := by
  have := loop0 (fun fu (z : Int32 × ML) => f_X2_become_18 3 I k0 fu z.1 z.2) (fun j z => j ≤ m ∧ z.1 = nI j ∧ (∀ s, s < j → z.2 7 s = L 3 s) ∧ (∀ p, p ≠ 7 → z.2 p = L p)) (fun o => ∃ L', o = k0 L' ∧ (∀ t, t < m → L' 7 t = L 3 t) ∧ (∀ p, p ≠ 7 → L' p = L p)) m (by omega) (nI 0, L) ⟨by omega, rfl, fun s hs => by omega, fun _ _ => rfl⟩
    (fun fu j z hj hP => by
      obtain ⟨z1, K⟩ := z
      obtain ⟨_, p1, p2, p3⟩ := hP
      dsimp only at p1 p2 p3 ⊢
      subst p1
      rw [f_X2_become_18, h61, ifc (q_le (a := m) (b := j) (by omega) (by omega))]
      by_cases c1 : m ≤ j
      · left
        rw [if_pos c1]
        exact ⟨K, rfl, fun s hs => p2 s (by omega), p3⟩
      · right
        refine ⟨by omega, (nI (j + 1), up2 K 7 j (L 3 j)), ?_, by omega, rfl, fun s hs => ?_, fun p hp => ?_⟩
        · rw [if_neg c1, if_neg (by rw [show (6 : Int32) = nI 6 from rfl, q_le (by decide) (by omega)]; omega), q_chk (by omega) (by decide), q_chk (by omega) (by decide), bnd_eq, bnd_eq, q_ix (by omega), nI_1, p3 3 (by decide)]
        · dsimp only
          by_cases e1 : s = j
          · rw [e1, up2_s]
          · rw [up2_n e1]; exact p2 s (by omega)
        · dsimp only; rw [up2_ne hp]; exact p3 p hp)
  rw [nI_0] at this
  exact this
theorem imin_6 (hm : m ≤ 6) : imin (nI m) 6 = nI m := by
  unfold imin
  rw [if_neg (by rw [show (6 : Int32) = nI 6 from rfl, q_lt (by decide) (by omega)]; omega)]
theorem becomeN_eq (hn : n ≤ 10) (hm : m ≤ 6) (hmv : ∀ i, i < m → IsP n (mv i)) (h3 : ∀ i, i < m → L 3 i = tn n (mv i)) (hr : rm ≤ 5040) (hr2 : rm ≠ 0 → I 69 0 = nI rm) : ∃ I' L', f_X2_become (nI n) 3 (nI m) I L = some (I', L') ∧ CI I' (up2 L' 0 5 (tn n st)) rm n m mv st ∧ (∀ p, p < 6 ∨ (36 ≤ p) → I' p = I p) ∧ (∀ p, p ≠ 7 → p ≤ 7 ∨ 15 ≤ p → L' p = L p) := by
  unfold f_X2_become
  rw [bnd_eq, bnd_eq, imin_6 hm]
  obtain ⟨L1, a1, a2, a3⟩ := bec18 (I := up2 (up2 I 6 0 (nI n)) 6 1 (nI m)) (L := L) hm up2_s (fun (L_7 : ML) => Option.bind (f_X2_findOut (up2 (up2 I 6 0 (nI n)) 6 1 (nI m)) L_7) (fun q_8 => some (q_8.1, q_8.2)))
  rw [a1]
  obtain ⟨I', L', g1, g2, g3, g4⟩ := findOut_eq0 (I := up2 (up2 I 6 0 (nI n)) 6 1 (nI m)) (L := L1) (rm := rm) (mv := mv) (st := st) hn hm hmv (by rw [up2_n (by decide), up2_s]) up2_s (fun i hi => by rw [a2 i hi]; exact h3 i hi) hr (fun g => by rw [up2_ne (by decide), up2_ne (by decide)]; exact hr2 g)
  refine ⟨I', L', ?_, g2, fun p hp => ?_, fun p h7 hp => ?_⟩
  · rw [ob g1]
  · rw [g3 p hp, up2_ne (by omega), up2_ne (by omega)]
  · rw [g4 p hp, a3 p h7]
theorem ld179 (hm : m ≤ 6) (h41 : I 43 41 = nI m) (k0 : MI → Option (Int32 × Mm)) : ∃ I', f_X8_load_179 L k0 FU 0 I = k0 I' ∧ (∀ j, j < 10 * m → I' 44 (11 + j) = I 68 j) ∧ (∀ j, j < 11 → I' 44 j = I 44 j) ∧ (∀ p, p ≠ 44 → I' p = I p) := by
  have := loop0 (fun fu (z : Int32 × MI) => f_X8_load_179 L k0 fu z.1 z.2) (fun j z => j ≤ 10 * m ∧ z.1 = nI j ∧ (∀ s, s < j → z.2 44 (11 + s) = I 68 s) ∧ (∀ s, s < 11 → z.2 44 s = I 44 s) ∧ (∀ p, p ≠ 44 → z.2 p = I p)) (fun o => ∃ I', o = k0 I' ∧ (∀ j, j < 10 * m → I' 44 (11 + j) = I 68 j) ∧ (∀ j, j < 11 → I' 44 j = I 44 j) ∧ (∀ p, p ≠ 44 → I' p = I p)) (10 * m) (by omega) (nI 0, I) ⟨by omega, rfl, fun s hs => by omega, fun _ _ => rfl, fun _ _ => rfl⟩
    (fun fu j z hj hP => by
      obtain ⟨z1, K⟩ := z
      obtain ⟨_, p1, p2, p3, p4⟩ := hP
      dsimp only at p1 p2 p3 p4 ⊢
      subst p1
      rw [f_X8_load_179, p4 43 (by decide), h41, show (10 : Int32) = nI 10 from rfl, pk_mul, ifc (q_le (a := 10 * m) (b := j) (by omega) (by omega))]
      by_cases c1 : 10 * m ≤ j
      · left
        rw [if_pos c1]
        exact ⟨K, rfl, fun s hs => p2 s (by omega), p3, p4⟩
      · right
        refine ⟨by omega, (nI (j + 1), up2 K 44 (11 + j) (I 68 j)), ?_, by omega, rfl, fun s hs => ?_, fun s hs => ?_, fun p hp => ?_⟩
        · rw [if_neg c1, q_chk (by omega) (by decide), show (11 : Int32) = nI 11 from rfl, nI_add, q_chk (by omega) (by decide), bnd_eq, bnd_eq, q_ix (by omega), q_ix (by omega), nI_1, p4 68 (by decide)]
        · dsimp only
          by_cases e1 : s = j
          · rw [e1, up2_s]
          · rw [up2_n (by omega)]; exact p2 s (by omega)
        · dsimp only
          rw [up2_n (by omega)]; exact p3 s hs
        · dsimp only; rw [up2_ne hp]; exact p4 p hp)
  rw [nI_0] at this
  exact this
end LDA
