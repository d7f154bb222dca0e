/-! start and gather -/
section GA
variable {cb n : Nat}
theorem start15 {I : MI} {L : ML} (hn : n ≤ 10) : ∀ d fu i J M, i + d = n → d < fu → J cb 0 = nI n → M cb 1 = tn n idp → (∀ k, k < i → J (cb + 1) k = nI (2 ^ k) ∧ M (cb + 2) (17 * k) = tn n idp ∧ M (cb + 3) (17 * k) = tn n idp ∧ J (cb + 6) (17 * k) = nI 0 ∧ J (cb + 5) k = nI 0) → FrC cb I L J M → ∃ J' M', f_X0_start_15 cb fu (nI i) J M = some (J', M') ∧ J' cb 0 = nI n ∧ M' cb 1 = tn n idp ∧ (∀ k, k < n → J' (cb + 1) k = nI (2 ^ k) ∧ M' (cb + 2) (17 * k) = tn n idp ∧ M' (cb + 3) (17 * k) = tn n idp ∧ J' (cb + 6) (17 * k) = nI 0 ∧ J' (cb + 5) k = nI 0) ∧ FrC cb I L J' M' := by
  intro d
  induction d with
  | zero =>
    intro fu i J M h1 h2 a1 a2 a3 a4
    obtain ⟨fu, rfl⟩ : ∃ m, fu = m + 1 := ⟨fu - 1, by omega⟩
    rw [f_X0_start_15, a1, if_pos (by rw [q_le (by omega) (by omega)]; omega)]
    refine ⟨J, M, rfl, a1, a2, fun k hk => a3 k (by omega), a4⟩
  | succ d ih =>
    intro fu i J M h1 h2 a1 a2 a3 a4
    obtain ⟨fu, rfl⟩ : ∃ m, fu = m + 1 := ⟨fu - 1, by omega⟩
    rw [f_X0_start_15, a1, if_neg (by rw [q_le (by omega) (by omega)]; omega), bnd_eq, ad_16, q_chk (by omega) (by decide), bnd_eq, q_ix (by omega), q_shl1 (by omega), q_chk (by omega) (by decide), bnd_eq, q_ix (by omega), q_chk (by omega) (by decide), bnd_eq, q_chk (by omega) (by decide), bnd_eq, q_chk (by omega) (by decide), bnd_eq, bnd_eq, nI_1, a2]
    have e1 : ∀ v, up2 M (cb + 2) (16 * i + i) v cb 1 = tn n idp := fun v => by rw [up2_ne (by omega)]; exact a2
    rw [e1]
    refine ih fu (i + 1) _ _ (by omega) (by omega) ?_ ?_ (fun k hk => ?_) ?_
    · rw [up2_ne (by omega), up2_ne (by omega), up2_ne (by omega)]; exact a1
    · rw [up2_ne (by omega), up2_ne (by omega)]; exact a2
    · rw [up2_ne (show cb + 1 ≠ cb + 5 by omega), up2_ne (show cb + 1 ≠ cb + 6 by omega), up2_ne (show cb + 2 ≠ cb + 3 by omega), up2_ne (show cb + 6 ≠ cb + 5 by omega)]
      have u : ∀ {α : Type} (f : Nat → Nat → α) p x y (v : α), up2 f p x v p y = if y = x then v else f p y := fun f p x y v => by unfold up2; rw [if_pos rfl]
      rw [u, u, u, u, u, up2_ne (show cb + 6 ≠ cb + 1 by omega), up2_ne (show cb + 5 ≠ cb + 6 by omega), up2_ne (show cb + 5 ≠ cb + 1 by omega), up2_ne (show cb + 3 ≠ cb + 2 by omega)]
      by_cases e : k = i
      · subst e
        rw [if_pos rfl, if_pos (by omega), if_pos (by omega), if_pos (by omega), if_pos rfl]
        exact ⟨rfl, rfl, rfl, rfl, rfl⟩
      · rw [if_neg e, if_neg (by omega), if_neg (by omega), if_neg (by omega), if_neg e]
        exact a3 k (by omega)
    · refine a4.trans ⟨fun q b1 b2 b3 b4 => ?_, fun q b1 b2 b3 b4 => ?_⟩
      · rw [up2_ne b3, up2_ne b4, up2_ne b2]
      · rw [up2_ne b3, up2_ne b2]
theorem start_eq {I : MI} {L : ML} (hn : n ≤ 10) : ∃ I' L', f_X0_start cb (nI n) I L = some (I', L') ∧ ChG I' L' cb n (fun p => p = idp) ∧ FrC cb I L I' L' := by
  unfold f_X0_start
  rw [bnd_eq, ob (identity_eq hn), bnd_eq]
  obtain ⟨I', L', i1, i2, i3, i4, i5⟩ := start15 (cb := cb) (I := I) (L := L) hn n FU 0 (up2 I cb 0 (nI n)) (up2 L cb 1 (tn n idp)) (by omega) (by unfold FU; omega) (by simp [up2]) (by simp [up2]) (fun k hk => by omega) ⟨fun q b1 _ _ _ => up2_ne b1, fun q b1 _ _ _ => up2_ne b1⟩
  rw [nI_0] at i1
  refine ⟨I', L', i1, ⟨fun k => 2 ^ k, fun _ _ => idp, fun _ => 0, fun _ _ => idp, fun _ _ => 0, ⟨⟨i2, i3, fun k hk => ⟨(i4 k hk).1, Nat.pow_lt_pow_right (by decide) (by omega)⟩, fun k j hk hr => ?_⟩, ⟨fun k hk => (i4 k hk).2.2.2.2, fun k i hk hi => (Nat.not_lt_zero i hi).elim, fun k j hk hr => ?_⟩, ?_⟩, fun k j _ _ _ => Nat.zero_le _, ?_⟩, i5⟩
  · have hr : (2 ^ k).testBit j = true := hr
    rw [Nat.testBit_two_pow] at hr
    have e : k = j := of_decide_eq_true hr
    rw [← e, show 16 * k + k = 17 * k by omega, iv_id]
    exact ⟨(i4 k hk).2.1, (i4 k hk).2.2.1⟩
  · have hr : (2 ^ k).testBit j = true := hr
    rw [Nat.testBit_two_pow] at hr
    have e : k = j := of_decide_eq_true hr
    rw [← e, show 16 * k + k = 17 * k by omega]
    exact (i4 k hk).2.2.2.1
  · have hSP : ∀ k a, SK n (fun _ => 0) (fun _ _ => idp) k a → IsP n a := fun k a ⟨_, i, hi, _⟩ => (Nat.not_lt_zero i hi).elim
    refine ⟨fun k hk => ⟨⟨?_, rfl⟩, fun j hr => ?_⟩, fun k i hk hi => (Nat.not_lt_zero i hi).elim, fun k j hk hr => (Gen_Sub hn (hSP k)).2.1, fun k s ⟨_, i, hi, _⟩ => (Nat.not_lt_zero i hi).elim, fun k j i hk hr hi => (Nat.not_lt_zero i hi).elim, fun k i hk hi => (Nat.not_lt_zero i hi).elim, fun k j hk hr => Nat.le_refl _⟩
    · show (2 ^ k).testBit k = true
      rw [Nat.testBit_two_pow]; simp
    · have hr : (2 ^ k).testBit j = true := hr
      rw [Nat.testBit_two_pow] at hr
      have e : k = j := of_decide_eq_true hr
      exact ⟨by omega, IsP_id n, fun _ _ => rfl, e⟩
  · funext q
    have hSP : ∀ a, SK n (fun _ => 0) (fun _ _ => idp) 0 a → False := fun a ⟨_, i, hi, _⟩ => (Nat.not_lt_zero i hi).elim
    refine propext ⟨fun e => ?_, fun g => g _ (Sub_triv n) (fun a ha => (hSP a ha).elim)⟩
    rw [e]; exact (Gen_Sub hn (fun a ha => (hSP a ha).elim)).2.1
theorem gather11 {a1 ch : Nat} {mv : Nat → Nat → Nat} (hn : n ≤ 10) (hch : ch < 2 ^ 31) (ha : a1 ≠ cb ∧ a1 ≠ cb + 2 ∧ a1 ≠ cb + 3 ∧ a1 ≠ cb + 4) : ∀ d fu i nd I L, i + d = 6 → d < fu → (∀ t, t < 6 → ch.testBit t = true → L a1 t = tn n (mv t) ∧ IsP n (mv t)) → nd < 2 ^ i → (∀ t, nd.testBit t = true ↔ (t < i ∧ ch.testBit t = true ∧ ¬ Gen n (MS mv ch t) (mv t))) → ChG I L cb n (Gen n (MS mv ch i)) → ∃ nd' I' L', f_X0_gather_11 cb a1 (nI ch) fu (nI nd) (nI i) I L = some (nI nd', I', L') ∧ nd' < 64 ∧ (∀ t, nd'.testBit t = true ↔ (t < 6 ∧ ch.testBit t = true ∧ ¬ Gen n (MS mv ch t) (mv t))) ∧ ChG I' L' cb n (Gen n (MS mv ch 6)) ∧ FrC cb I L I' L' := by
  intro d
  induction d with
  | zero =>
    intro fu i nd I L h1 h2 hL hnd hb hG
    obtain ⟨fu, rfl⟩ : ∃ m, fu = m + 1 := ⟨fu - 1, by omega⟩
    have e : i = 6 := by omega
    subst e
    rw [f_X0_gather_11, if_pos (by decide)]
    exact ⟨nd, I, L, rfl, hnd, hb, hG, FrC.refl⟩
  | succ d ih =>
    intro fu i nd I L h1 h2 hL hnd hb hG
    obtain ⟨fu, rfl⟩ : ∃ m, fu = m + 1 := ⟨fu - 1, by omega⟩
    have h2i : 2 ^ (i + 1) = 2 * 2 ^ i := by rw [Nat.pow_succ, Nat.mul_comm]
    rw [f_X0_gather_11, if_neg (by rw [show (6 : Int32) = nI 6 from rfl, q_le (by decide) (by omega)]; omega), ifc (q_bit0 hch (by omega))]
    cases hbit : ch.testBit i
    · rw [if_pos rfl, bnd_eq, nI_1]
      refine ih fu (i + 1) nd I L (by omega) (by omega) hL (by omega) (fun t => (hb t).trans ⟨fun g => ⟨by omega, g.2⟩, fun g => ⟨?_, g.2⟩⟩) (by rw [MS_f hbit]; exact hG)
      have : t ≠ i := fun e => by rw [e, hbit] at g; cases g.2.1
      omega
    · rw [if_neg (by decide), q_chk (by omega) (by decide), q_ix (by omega)]
      obtain ⟨l1, l2⟩ := hL i (by omega) hbit
      rw [l1]
      have hm := Classical.em (Gen n (MS mv ch i) (mv i))
      have hGr : ∀ c : Bool, (c = true ↔ ¬ Gen n (MS mv ch i) (mv i)) → ∃ I' L', f_X0_grow cb (tn n (mv i)) I L = some (c, I', L') ∧ ChG I' L' cb n (Gen n (MS mv ch (i + 1))) ∧ FrC cb I L I' L' := fun c hc => by
        obtain ⟨I', L', g1, g2, g3⟩ := grow_eq hn hG l2 hc
        rw [MS_t hbit] at g2
        exact ⟨I', L', g1, g2, g3⟩
      rcases hm with hm | hm
      · obtain ⟨I1, L1, g1, g2, g3⟩ := hGr false ⟨(fun h => by cases h), fun h => absurd hm h⟩
        rw [ob g1, if_pos (show b2i false = 0 from rfl), bnd_eq, nI_1]
        have hb' : ∀ t, nd.testBit t = true ↔ (t < i + 1 ∧ ch.testBit t = true ∧ ¬ Gen n (MS mv ch t) (mv t)) := fun t => (hb t).trans ⟨fun g => ⟨by omega, g.2⟩, fun g => ⟨by
          have : t ≠ i := fun e => by rw [e] at g; exact g.2.2 hm
          omega, g.2⟩⟩
        obtain ⟨nd', I', L', i1, i2, i3, i4, i5⟩ := ih fu (i + 1) nd I1 L1 (by omega) (by omega) (fun t ht htb => by rw [g3.2 a1 ha.1 ha.2.1 ha.2.2.1 ha.2.2.2]; exact hL t ht htb) (by omega) hb' g2
        exact ⟨nd', I', L', i1, i2, i3, i4, g3.trans i5⟩
      · obtain ⟨I1, L1, g1, g2, g3⟩ := hGr true ⟨fun _ => hm, fun _ => rfl⟩
        rw [ob g1, if_neg (show ¬ b2i true = 0 by decide), bnd_eq, q_shl1 (by omega), q_or, bnd_eq, nI_1]
        have hb' : ∀ t, (nd ||| 2 ^ i).testBit t = true ↔ (t < i + 1 ∧ ch.testBit t = true ∧ ¬ Gen n (MS mv ch t) (mv t)) := fun t => by
          rw [Nat.testBit_or, Nat.testBit_two_pow, Bool.or_eq_true, hb t]
          by_cases e : t = i
          · subst e
            simp only [decide_true, or_true, true_iff]
            exact ⟨by omega, hbit, hm⟩
          · rw [decide_eq_false (fun g => e g.symm)]
            constructor
            · intro g
              rcases g with g | g
              · exact ⟨by omega, g.2⟩
              · cases g
            · intro g
              exact Or.inl ⟨by omega, g.2⟩
        obtain ⟨nd', I', L', i1, i2, i3, i4, i5⟩ := ih fu (i + 1) (nd ||| 2 ^ i) I1 L1 (by omega) (by omega) (fun t ht htb => by rw [g3.2 a1 ha.1 ha.2.1 ha.2.2.1 ha.2.2.2]; exact hL t ht htb) (Nat.or_lt_two_pow (by omega) (Nat.pow_lt_pow_right (by decide) (by omega))) hb' g2
        exact ⟨nd', I', L', i1, i2, i3, i4, g3.trans i5⟩
theorem gather_eq {I : MI} {L : ML} {a1 ch : Nat} {mv : Nat → Nat → Nat} (hn : n ≤ 10) (hch : ch < 2 ^ 31) (ha : a1 ≠ cb ∧ a1 ≠ cb + 2 ∧ a1 ≠ cb + 3 ∧ a1 ≠ cb + 4) (hL : ∀ t, t < 6 → ch.testBit t = true → L a1 t = tn n (mv t) ∧ IsP n (mv t)) : ∃ nd I' L', f_X0_gather cb a1 (nI ch) (nI n) I L = some (nI nd, I', L') ∧ nd < 64 ∧ (∀ t, nd.testBit t = true ↔ (t < 6 ∧ ch.testBit t = true ∧ ¬ Gen n (MS mv ch t) (mv t))) ∧ ChG I' L' cb n (Gen n (MS mv ch 6)) ∧ FrC cb I L I' L' := by
  obtain ⟨I1, L1, i1, i2, i3⟩ := start_eq (cb := cb) (I := I) (L := L) hn
  unfold f_X0_gather
  rw [ob i1]
  obtain ⟨nd, I', L', j1, j2, j3, j4, j5⟩ := gather11 hn hch ha 6 FU 0 0 I1 L1 (by omega) (by unfold FU; omega) (fun t ht htb => by rw [i3.2 a1 ha.1 ha.2.1 ha.2.2.1 ha.2.2.2]; exact hL t ht htb) (by decide) (fun t => by simp) (by rw [MS_0 hn]; exact i2)
  rw [nI_0] at j1
  exact ⟨nd, I', L', j1, j2, j3, j4, i3.trans j5⟩
end GA
