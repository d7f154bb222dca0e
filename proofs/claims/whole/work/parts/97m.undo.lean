/-! Undoing -/
section UN
variable {n m rm : Nat} {mv : Nat → Nat → Nat} {st : Nat → Nat} {I : MI} {L : ML}
theorem goBack_eq {k mk : Nat} (hk : k < 12) (h37 : I 37 0 = nI (k + 1)) (h40 : I 40 k = nI mk) : ∃ I' L', f_X3_goBack I L = some (I', L') ∧ I' 37 0 = nI k ∧ I' 37 2 = nI mk ∧ (∀ p, p ≠ 37 → I' p = I p) ∧ L' 37 1 = L 39 k ∧ (∀ t, t < 6 → L' 38 t = L 41 (6 * k + t)) ∧ (∀ p, p ≠ 37 → p ≠ 38 → L' p = L p) := by
  unfold f_X3_goBack
  rw [if_pos (show 0 < I 37 0 by rw [h37, show (0 : Int32) = nI 0 from rfl, q_lt (by decide) (by omega)]; omega), h37, show (1 : Int32) = nI 1 from rfl, pk_sub (by omega), Nat.add_sub_cancel, bnd_eq, up2_s, q_chk (by omega) (by decide), bnd_eq, q_chk (by omega) (by decide), bnd_eq, q_ix (by omega), up2_ne (show 40 ≠ 37 by decide), h40]
  have e0 : up2 (up2 I 37 0 (nI k)) 37 2 (nI mk) 37 0 = nI k := by rw [up2_n (by decide), up2_s]
  have := loop0 (fun fu (z : Int32 × ML) => f_X3_goBack_46 (up2 (up2 I 37 0 (nI k)) 37 2 (nI mk)) fu z.1 z.2) (fun j z => j ≤ 6 ∧ z.1 = nI j ∧ (∀ p, p ≠ 38 → z.2 p = up2 L 37 1 (L 39 k) p) ∧ (∀ t, t < j → z.2 38 t = L 41 (6 * k + t))) (fun o => ∃ I' L', o = some (I', L') ∧ I' 37 0 = nI k ∧ I' 37 2 = nI mk ∧ (∀ p, p ≠ 37 → I' p = I p) ∧ L' 37 1 = L 39 k ∧ (∀ t, t < 6 → L' 38 t = L 41 (6 * k + t)) ∧ (∀ p, p ≠ 37 → p ≠ 38 → L' p = L p)) 6 (by decide) (nI 0, up2 L 37 1 (L 39 k)) ⟨by decide, rfl, fun _ _ => rfl, fun t ht => by omega⟩
    (fun fu j z hj hP => by
      obtain ⟨z1, M⟩ := z
      obtain ⟨_, p1, p2, p3⟩ := hP
      dsimp only at p1 p2 p3 ⊢
      subst p1
      rw [f_X3_goBack_46, show (6 : Int32) = nI 6 from rfl, ifc (q_le (by decide) (by omega))]
      by_cases c1 : 6 ≤ j
      · left
        rw [if_pos c1]
        exact ⟨_, M, rfl, e0, up2_s, fun p hp => by rw [up2_ne hp, up2_ne hp], by rw [p2 37 (by decide), up2_s], fun t ht => p3 t (by omega), fun p h1 h2 => by rw [p2 p h2, up2_ne h1]⟩
      · right
        have e41 : M 41 (6 * k + j) = L 41 (6 * k + j) := by rw [p2 41 (by decide), up2_ne (by decide)]
        refine ⟨by omega, (nI (j + 1), up2 M 38 j (L 41 (6 * k + j))), ?_, by omega, rfl, fun p hp => ?_, fun t ht => ?_⟩
        · rw [if_neg c1, e0, show nI k * nI 6 + nI j = nI (6 * k + j) by rw [pk_mul, nI_add, Nat.mul_comm], q_chk (by omega) (by decide), q_chk (by omega) (by decide), bnd_eq, bnd_eq, q_ix (by omega), q_ix (by omega), e41, nI_1]
        · dsimp only; rw [up2_ne hp]; exact p2 p hp
        · dsimp only
          by_cases e1 : t = j
          · rw [e1, up2_s]
          · rw [up2_n e1]; exact p3 t (by omega))
  rw [nI_0] at this
  exact this
theorem hasJust_eq {mk : Nat} {pv : Nat → Nat → Nat} {c : Bool} (hO : OKm n m mv st) (hk : mk ≤ 6) (h1 : I 6 1 = nI m) (h7 : ∀ i, i < m → L 7 i = tn n (mv i)) (h38 : ∀ t, t < mk → L 38 t = tn n (pv t)) (hpv : ∀ t, t < mk → IsP n (pv t)) (hc : c = true ↔ (mk = m ∧ ∀ i, i < m → mv i = pv i)) : f_X2_hasJust 38 (nI mk) I L = some c := by
  have hn := hO.1
  have hm := hO.2.1
  unfold f_X2_hasJust
  rw [h1, ifc (q_eq (by omega) (by omega))]
  by_cases c0 : mk = m
  · rw [if_pos c0]
    subst c0
    have := loop0 (fun fu z => f_X2_hasJust_12 38 I L fu z) (fun i z => i ≤ mk ∧ z = nI i ∧ ∀ t, t < i → mv t = pv t) (fun o => o = some c) mk (by omega) (nI 0) ⟨Nat.zero_le _, rfl, fun t ht => by omega⟩
      (fun fu i z hi hP => by
        obtain ⟨_, p1, p2⟩ := hP
        subst p1
        rw [f_X2_hasJust_12, h1, ifc (q_le (by omega) (by omega))]
        by_cases c1 : mk ≤ i
        · left
          rw [if_pos c1, hc.mpr ⟨rfl, fun t ht => p2 t (by omega)⟩]
        · rw [if_neg c1, show (6 : Int32) = nI 6 from rfl, if_neg (by rw [q_le (by decide) (by omega)]; omega), q_chk (by omega) (by decide), q_chk (by omega) (by decide), q_ix (by omega), h7 i (by omega), h38 i (by omega), ifc (q_cmp0 _ _)]
          by_cases c2 : mv i = pv i
          · right
            refine ⟨by omega, nI (i + 1), ?_, by omega, rfl, fun t ht => ?_⟩
            · rw [if_pos (by rw [c2]), bnd_eq, nI_1]
            · by_cases e1 : t = i
              · rw [e1]; exact c2
              · exact p2 t (by omega)
          · left
            rw [if_neg (fun g => c2 ((tn_inj hn (hO.2.2.1 i (by omega)) (hpv i (by omega))).mp g))]
            cases c
            · rfl
            · exact absurd ((hc.mp rfl).2 i (by omega)) c2)
    rw [nI_0] at this
    exact this
  · rw [if_neg c0]
    cases c
    · rfl
    · exact absurd (hc.mp rfl).1 c0
theorem become_eq {mk : Nat} {pv : Nat → Nat → Nat} (hn : n ≤ 10) (hk : mk ≤ 6) (h0 : I 6 0 = nI n) (h38 : ∀ t, t < mk → L 38 t = tn n (pv t)) (hpv : ∀ t, t < mk → IsP n (pv t)) (hr : rm ≤ 5040) (hr2 : rm ≠ 0 → I 69 0 = nI rm) (h5 : L 0 5 = tn n st) : ∃ I' L', f_X2_become (nI n) 38 (nI mk) I L = some (I', L') ∧ CI I' L' rm n mk pv st ∧ (∀ p, p < 6 ∨ (36 ≤ p) → I' p = I p) ∧ (∀ p, p < 7 ∨ 15 ≤ p → L' p = L p) := by
  unfold f_X2_become
  rw [bnd_eq, show imin (nI mk) 6 = nI mk from if_neg (by rw [show (6 : Int32) = nI 6 from rfl, q_lt (by decide) (by omega)]; omega), bnd_eq]
  generalize hJ : up2 (up2 I 6 0 (nI n)) 6 1 (nI mk) = J
  generalize hk0 : (fun (L_7 : ML) => Option.bind (f_X2_findOut J L_7) (fun q_8 => some (q_8.1, q_8.2))) = k0
  have e1 : J 6 1 = nI mk := by rw [← hJ, up2_s]
  have key : ∃ M, f_X2_become_18 38 J k0 FU 0 L = k0 M ∧ (∀ p, p ≠ 7 → M p = L p) ∧ ∀ t, t < mk → M 7 t = L 38 t := by
    have := loop0 (fun fu (z : Int32 × ML) => f_X2_become_18 38 J k0 fu z.1 z.2) (fun j z => j ≤ mk ∧ z.1 = nI j ∧ (∀ p, p ≠ 7 → z.2 p = L p) ∧ ∀ t, t < j → z.2 7 t = L 38 t) (fun o => ∃ M, o = k0 M ∧ (∀ p, p ≠ 7 → M p = L p) ∧ ∀ t, t < mk → M 7 t = L 38 t) mk (by omega) (nI 0, L) ⟨Nat.zero_le _, rfl, fun _ _ => rfl, fun t ht => by omega⟩
      (fun fu j z hj hP => by
        obtain ⟨z1, M⟩ := z
        obtain ⟨_, p1, p2, p3⟩ := hP
        dsimp only at p1 p2 p3 ⊢
        subst p1
        rw [f_X2_become_18, e1, ifc (q_le (by omega) (by omega))]
        by_cases c1 : mk ≤ j
        · left
          rw [if_pos c1]
          exact ⟨M, rfl, p2, fun t ht => p3 t (by omega)⟩
        · right
          refine ⟨by omega, (nI (j + 1), up2 M 7 j (L 38 j)), ?_, by omega, rfl, fun p hp => ?_, fun t ht => ?_⟩
          · rw [if_neg c1, show (6 : Int32) = nI 6 from rfl, if_neg (by rw [q_le (by decide) (by omega)]; omega), q_chk (by omega) (by decide), q_chk (by omega) (by decide), bnd_eq, bnd_eq, q_ix (by omega), p2 38 (by decide), nI_1]
          · dsimp only; rw [up2_ne hp]; exact p2 p hp
          · dsimp only
            by_cases e1 : t = j
            · rw [e1, up2_s]
            · rw [up2_n e1]; exact p3 t (by omega))
    rw [nI_0] at this
    exact this
  obtain ⟨M, k1, k2, k3⟩ := key
  have eJ : ∀ p, p ≠ 6 → J p = I p := fun p hp => by rw [← hJ, up2_ne hp, up2_ne hp]
  obtain ⟨I', L', g1, g2, g3, g4⟩ := findOut_eq (I := J) (L := M) (rm := rm) (st := st) hn hk hpv (by rw [← hJ, up2_n (by decide), up2_s]) e1 (fun i hi => by rw [k3 i hi]; exact h38 i hi) hr (fun g => by rw [eJ 69 (by decide)]; exact hr2 g) (by rw [k2 0 (by decide)]; exact h5)
  refine ⟨I', L', ?_, g2, fun p hp => by rw [g3 p hp, eJ p (by omega)], fun p hp => by rw [g4 p (by omega), k2 p (by omega)]⟩
  rw [k1, ← hk0]
  dsimp only
  rw [ob g1]
theorem undo33 {k : Nat} (hk : k < 12) (h3 : I 43 3 = nI k) (k0 : MI → Option (Int32 × Mm)) : ∃ K, f_X8_undo_33 L k0 FU 0 I = k0 K ∧ (∀ p, p ≠ 44 → K p = I p) ∧ ∀ j, j < 71 → K 44 j = I 45 (71 * k + j) := by
  have := loop0 (fun fu (z : Int32 × MI) => f_X8_undo_33 L k0 fu z.1 z.2) (fun j z => j ≤ 71 ∧ z.1 = nI j ∧ (∀ p, p ≠ 44 → z.2 p = I p) ∧ ∀ t, t < j → z.2 44 t = I 45 (71 * k + t)) (fun o => ∃ K, o = k0 K ∧ (∀ p, p ≠ 44 → K p = I p) ∧ ∀ j, j < 71 → K 44 j = I 45 (71 * k + j)) 71 (by decide) (nI 0, I) ⟨by decide, rfl, fun _ _ => rfl, fun t ht => by omega⟩
    (fun fu j z hj hP => by
      obtain ⟨z1, K⟩ := z
      obtain ⟨_, p1, p2, p3⟩ := hP
      dsimp only at p1 p2 p3 ⊢
      subst p1
      have e43 : K 43 3 = nI k := by rw [p2 43 (by decide)]; exact h3
      rw [f_X8_undo_33, show (71 : Int32) = nI 71 from rfl, ifc (q_le (by decide) (by omega))]
      by_cases c1 : 71 ≤ j
      · left
        rw [if_pos c1]
        exact ⟨K, rfl, p2, fun t ht => p3 t (by omega)⟩
      · right
        have e45 : K 45 (71 * k + j) = I 45 (71 * k + j) := by rw [p2 45 (by decide)]
        refine ⟨by omega, (nI (j + 1), up2 K 44 j (I 45 (71 * k + j))), ?_, by omega, rfl, fun p hp => ?_, fun t ht => ?_⟩
        · rw [if_neg c1, e43, pk_mul, nI_add, q_chk (by omega) (by decide), q_chk (by omega) (by decide), bnd_eq, bnd_eq, q_ix (by omega), q_ix (by omega), e45, nI_1]
        · dsimp only; rw [up2_ne hp]; exact p2 p hp
        · dsimp only
          by_cases e1 : t = j
          · rw [e1, up2_s]
          · rw [up2_n e1]; exact p3 t (by omega))
  rw [nI_0] at this
  exact this
theorem PR_57h : PR_57 Inv := by
  intro I L rm ⟨n, m, mv, st, h⟩
  obtain ⟨hO, hC, hR, hP, hT, hU, hF, hS⟩ := id h
  have hn := hO.1
  obtain ⟨kp, pm, pmv, pst, o1, o2, o3⟩ := OT_s hP
  cases kp with
  | zero =>
    have e37 : I 37 0 = 0 := o2.1
    have e43 : up2 I 0 6 5 43 3 = 0 := by rw [up2_ne (by decide)]; exact o3.1
    refine ⟨-1, up2 I 0 6 5, L, ?_, is8 (up2 I 0 6 5) 5, L, ?_, IV_q h (Q8_is (a := 5)) (RDY_is (RDY_s hR)) is8_0⟩
    · simp (config := { decide := true }) only [f_X7_undo, e37, obs, bnd_eq, is_0, is_1, is_2, is_3, is_4, is_5, is_6, is_9, tell_eq, refuse_eq, refuse8_eq, b2i_1, b2i_0, if_true, if_false, ↓reduceIte]
    · unfold f_X8_undo
      rw [bnd_eq]
      dsimp only
      rw [if_pos e43, ob is_5]
      dsimp only
      rw [if_pos b2i_f]
  | succ k =>
    have hk12 := o1.1
    obtain ⟨c40, c39, c41⟩ := o2.2 k (by omega)
    obtain ⟨r0, r1, r2⟩ := o3.2 k (by omega)
    obtain ⟨q1, q2, q3, q4⟩ := o1.2 k (by omega)
    have e37 : ¬ I 37 0 = 0 := by rw [o2.1]; exact nI_ne0 (by omega) (by omega)
    obtain ⟨I1, L1, g1, g2, g3, g4, g5, g6, g7⟩ := goBack_eq (L := L) (show k < 12 by omega) o2.1 c40
    rw [c39] at g5
    have h38 : ∀ t, t < pm k → up2 L1 0 5 (tn n (pst k)) 38 t = tn n (pmv k t) := fun t ht => by rw [up2_ne (by decide), g6 t (by omega)]; exact c41 t ht
    obtain ⟨b, hb⟩ := em_B (pm k = m ∧ ∀ i, i < m → mv i = pmv k i)
    have e61 : I1 6 1 = nI m := by rw [g4 6 (by decide)]; exact hC.2.1
    have e60 : I1 6 0 = nI n := by rw [g4 6 (by decide)]; exact hC.1
    have hj := hasJust_eq (I := I1) (L := up2 L1 0 5 (tn n (pst k))) hO q2 e61 (fun i hi => by rw [up2_ne (by decide), g7 7 (by decide) (by decide)]; exact hC.2.2.1 i hi) h38 q3 hb
    generalize hL2 : up2 L1 0 5 (tn n (pst k)) = L2 at h38 hj
    have l05 : L2 0 5 = tn n (pst k) := by rw [← hL2, up2_s]
    have l2 : ∀ p, p ≠ 0 → p ≠ 37 → p ≠ 38 → L2 p = L p := fun p h0 h1 h2 => by rw [← hL2, up2_ne h0, g7 p h1 h2]
    -- the reference
    have ref : ∀ (J : MI) (M : ML), (∀ p, p = 1 ∨ p = 2 ∨ p = 42 ∨ (43 ≤ p ∧ p < 69) → J p = I p) → ∃ I2, f_X8_undo J M = some (nI k, I2, M) ∧ Q9 J I2 ∧ I2 43 0 = 0 ∧ I2 43 2 = nI n ∧ Nw I2 (pm k) (pmv k) (pst k) ∧ I2 43 20 = 0 ∧ OTr I2 k pm pmv pst := fun J M hJ => by
      have e43 : J 43 3 = nI (k + 1) := by rw [hJ 43 (by decide)]; exact o3.1
      have e3 : is8 J 0 43 3 = nI (k + 1) := by unfold is8; rw [up2_n (by decide), up2_n (by decide)]; exact e43
      generalize hk0 : (fun (I_8 : MI) => bnd (up2 I_8 43 20 0) (fun I_9 => some ((I_9 43 3), I_9, M))) = k0
      obtain ⟨K, u1, u2, u3⟩ := undo33 (I := up2 (is8 J 0) 43 3 (nI k)) (L := M) (show k < 12 by omega) up2_s k0
      have u45 : ∀ j, up2 (is8 J 0) 43 3 (nI k) 45 j = I 45 j := fun j => by rw [up2_ne (by decide), is8_ne (by decide), hJ 45 (by decide)]
      have e45 : up2 K 43 20 0 45 = I 45 := by funext j; rw [up2_ne (by decide), u2 45 (by decide)]; exact u45 j
      have e44 : ∀ j, j < 71 → up2 K 43 20 0 44 j = I 45 (71 * k + j) := fun j hj => by rw [up2_ne (by decide), u3 j hj]; exact u45 _
      refine ⟨up2 K 43 20 0, ?_, ⟨fun p hp => by rw [up2_ne (by omega), u2 p (by omega), up2_ne (by omega), is8_ne (by omega)], fun j h0 h1 h3 h20 _ => by rw [up2_n h20, u2 43 (by decide), up2_n h3]; unfold is8; rw [up2_n h0, up2_n h1]⟩, ?_, ?_, ⟨?_, q2, fun t ht => Row_sl (fun j hj => ?_) (r2 t ht), Row_sl (fun j hj => ?_) r1⟩, up2_s, ⟨?_, fun i hi => ?_⟩⟩
      · unfold f_X8_undo
        rw [bnd_eq]
        dsimp only
        rw [if_neg (show ¬ J 43 3 = 0 by rw [e43]; exact nI_ne0 (by omega) (by omega)), ob is_0]
        dsimp only
        rw [if_neg b2i_t, e3, show (1 : Int32) = nI 1 from rfl, pk_sub (by omega), Nat.add_sub_cancel, bnd_eq, hk0, u1, ← hk0]
        dsimp only
        rw [bnd_eq, up2_n (by decide), u2 43 (by decide), up2_s]
      · rw [up2_n (by decide), u2 43 (by decide), up2_n (by decide)]; exact is8_0
      · rw [up2_n (by decide), u2 43 (by decide), up2_n (by decide)]; unfold is8; rw [up2_n (by decide), up2_n (by decide), hJ 43 (by decide)]; exact hR.1
      · rw [e44 0 (by decide)]; exact r0
      · rw [e44 _ (by omega), show 71 * k + (11 + 10 * t + j) = 71 * k + 11 + 10 * t + j by omega]
      · rw [e44 _ (by omega), ← Nat.add_assoc]
      · rw [up2_n (by decide), u2 43 (by decide), up2_s]
      · obtain ⟨v1, v2, v3⟩ := o3.2 i (by omega)
        exact ⟨by rw [e45]; exact v1, Row_of e45 v2, fun t ht => Row_of e45 (v3 t ht)⟩
    have hto : OTo n k pm pmv pst := ⟨by omega, fun i hi => o1.2 i (by omega)⟩
    cases b
    · obtain ⟨I2, L3, d1, d2, d3, d4⟩ := become_eq (I := I1) (L := L2) (rm := rm) (st := pst k) hn q2 e60 h38 q3 hC.2.2.2.2.2.2.2.2.2.1 (fun g => by rw [g4 69 (by decide)]; exact hC.2.2.2.2.2.2.2.2.2.2.1 g) l05
      have k1 : ∀ p, p = 1 ∨ p = 2 ∨ p = 42 ∨ (43 ≤ p ∧ p < 69) → up2 I2 0 6 0 p = I p := fun p hp => by rw [up2_ne (by omega), d3 p (by omega), g4 p (by omega)]
      obtain ⟨I5, w1, w2, w3, w4, w5, w6, w7⟩ := ref (up2 I2 0 6 0) L3 k1
      have c1 : OTc I5 L3 n k pm pmv pst := by
        refine ⟨by rw [w2.1 37 (by decide), up2_ne (by decide), d3 37 (by decide)]; exact g2, fun i hi => ?_⟩
        obtain ⟨v1, v2, v3⟩ := o2.2 i (by omega)
        exact ⟨by rw [w2.1 40 (by decide), up2_ne (by decide), d3 40 (by decide), g4 40 (by decide)]; exact v1, by rw [d4 39 (by decide), l2 39 (by decide) (by decide) (by decide)]; exact v2, fun t ht => by rw [d4 41 (by decide), l2 41 (by decide) (by decide) (by decide)]; exact v3 t ht⟩
      refine ⟨nI k, up2 I2 0 6 0, L3, ?_, I5, L3, w1, IV_mk h (o1.2 k (by omega)) (CI_s d2) k1 (by rw [up2_n (by decide), d3 0 (by decide), g4 0 (by decide)]) w2 ⟨w4, w5, Or.inl w6⟩ (OT_m hto c1 w7) (by rw [up2_s, w3])⟩
      simp (config := { decide := true }) only [f_X7_undo, e37, g1, g5, hL2, g3, hj, e60, d1, d3 37 (Or.inr (by decide)), g2, obs, bnd_eq, is_0, is_1, is_2, is_3, is_4, is_5, is_6, is_9, tell_eq, refuse_eq, refuse8_eq, b2i_1, b2i_0, if_true, if_false, ↓reduceIte]
    · obtain ⟨hm1, hm2⟩ := hb.mp rfl
      have k1 : ∀ p, p = 1 ∨ p = 2 ∨ p = 42 ∨ (43 ≤ p ∧ p < 69) → up2 I1 0 6 0 p = I p := fun p hp => by rw [up2_ne (by omega), g4 p (by omega)]
      have C2 : CI (up2 I1 0 6 0) L2 rm n m mv (pst k) := hC.stt (fun p hp => by rw [up2_ne (by omega), g4 p (by omega)]) (fun p hp => l2 p (by omega) (by omega) (by omega)) l05
      obtain ⟨I5, w1, w2, w3, w4, w5, w6, w7⟩ := ref (up2 I1 0 6 0) L2 k1
      have w5' : Nw I5 m mv (pst k) := ⟨by rw [← hm1]; exact w5.1, hO.2.1, fun i hi => by rw [hm2 i hi]; exact w5.2.2.1 i (by omega), w5.2.2.2⟩
      have c1 : OTc I5 L2 n k pm pmv pst := by
        refine ⟨by rw [w2.1 37 (by decide), up2_ne (by decide)]; exact g2, fun i hi => ?_⟩
        obtain ⟨v1, v2, v3⟩ := o2.2 i (by omega)
        exact ⟨by rw [w2.1 40 (by decide), up2_ne (by decide), g4 40 (by decide)]; exact v1, by rw [l2 39 (by decide) (by decide) (by decide)]; exact v2, fun t ht => by rw [l2 41 (by decide) (by decide) (by decide)]; exact v3 t ht⟩
      refine ⟨nI k, up2 I1 0 6 0, L2, ?_, I5, L2, w1, IV_mk h ⟨hn, hO.2.1, hO.2.2.1, q4⟩ C2 k1 (by rw [up2_n (by decide), g4 0 (by decide)]) w2 ⟨w4, w5', Or.inl w6⟩ (OT_m hto c1 w7) (by rw [up2_s, w3])⟩
      simp (config := { decide := true }) only [f_X7_undo, e37, g1, g5, hL2, g3, hj, g2, obs, bnd_eq, is_0, is_1, is_2, is_3, is_4, is_5, is_6, is_9, tell_eq, refuse_eq, refuse8_eq, b2i_1, b2i_0, if_true, if_false, ↓reduceIte]
end UN
