/-! clears, builds -/
def Nw (I : MI) (m : Nat) (mv : Nat → Nat → Nat) (st : Nat → Nat) : Prop := I 44 0 = nI m ∧ m ≤ 6 ∧ (∀ i, i < m → Row I 44 (11 + 10 * i) (mv i)) ∧ Row I 44 1 st
theorem Nw.fr {I I' : MI} {m : Nat} {mv : Nat → Nat → Nat} {st : Nat → Nat} (h : Nw I m mv st) (e : I' 44 = I 44) : Nw I' m mv st :=
  ⟨by rw [e]; exact h.1, h.2.1, fun i hi => Row_of e (h.2.2.1 i hi), Row_of e h.2.2.2⟩
theorem moves_eq {I : MI} {L : ML} {m : Nat} {mv : Nat → Nat → Nat} {st : Nat → Nat} (h : Nw I m mv st) : f_X8_moves I L = some (nI m) := by
  unfold f_X8_moves
  rw [chk_pos (by decide)]
  exact congrArg some h.1
theorem bit_eq {s k : Nat} (hs : s < 2 ^ 31) (hk : k < 32) : f_X8_bit (nI s) (nI k) = some (s.testBit k) := by
  unfold f_X8_bit
  rw [q_bit hs hk]
  cases s.testBit k
  · exact if_neg (by decide)
  · exact if_pos (by decide)
theorem laysMove_eq {I : MI} {L : ML} {m i a : Nat} {mv : Nat → Nat → Nat} {st : Nat → Nat} (h : Nw I m mv st) (hi : i < m) (ha : a ≠ 44) : f_X8_laysMove (nI i) a I L = some (wp I a 0 (mv i), L) := by
  unfold f_X8_laysMove
  have h6 := h.2.1
  rw [show (11 : Int32) = nI 11 from rfl, show (10 : Int32) = nI 10 from rfl, pk_mul, nI_add, ob (copiesx0 (h.2.2.1 i hi) (fun e => ha e.symm) (by omega) (by decide) (by decide) (by decide))]
theorem laysStand_eq {I : MI} {L : ML} {m a : Nat} {mv : Nat → Nat → Nat} {st : Nat → Nat} (h : Nw I m mv st) (ha : a ≠ 44) : f_X8_laysStand a I L = some (wp I a 0 st, L) := by
  unfold f_X8_laysStand
  rw [show (1 : Int32) = nI 1 from rfl, ob (copiesx0 h.2.2.2 (fun e => ha e.symm) (by decide) (by decide) (by decide) (by decide))]
theorem clears53 {s k : Nat} {L : ML} {k0 : MI → Option Mm} {I : MI} (hs : s < 4) (hk : k < 10) : f_X8_clears_53 (nI s) (nI k) L k0 FU 0 I = k0 (wp I 53 (1000 * s + 100 * k + 10 * k) idp) := by
  have := for0 (fun fu x => f_X8_clears_53 (nI s) (nI k) L k0 fu x.1 x.2) (fun i => (nI i, wr I 53 (1000 * s + 100 * k + 10 * k) i nI)) 10 (k0 (wp I 53 (1000 * s + 100 * k + 10 * k) idp)) (by decide)
    (fun fu => by
      show f_X8_clears_53 (nI s) (nI k) L k0 (fu + 1) (nI 10) _ = _
      rw [f_X8_clears_53, if_pos (by decide)]; rfl)
    (fun fu i hi => by
      show f_X8_clears_53 (nI s) (nI k) L k0 (fu + 1) (nI i) (wr I 53 _ i nI) = f_X8_clears_53 (nI s) (nI k) L k0 fu (nI (i + 1)) (wr I 53 _ (i + 1) nI)
      rw [f_X8_clears_53, if_neg (ge10 hi), ad_1000, nI_add, q_chk (by omega) (by decide), bnd_eq, bnd_eq, q_ix (by omega), wr_s rfl, nI_1])
  rw [wr_0] at this
  exact this
theorem clears28 {s : Nat} (hs : s < 4) {L : ML} {I : MI} : ∀ d fu J, d ≤ 10 → d < fu → (∀ c, c < 100 → J 52 (100 * s + c) = if c % 11 = 0 ∧ c / 11 < 10 - d then 1 else 0) → (∀ k, k < 10 - d → Row J 53 (1000 * s + 110 * k) idp) → Fr [52, 53] I J → FrS s I J → ∃ J', f_X8_clears_28 (nI s) L fu (nI (10 - d)) J = some (J', L) ∧ (∀ c, c < 100 → J' 52 (100 * s + c) = if c % 11 = 0 then 1 else 0) ∧ (∀ k, k < 10 → Row J' 53 (1000 * s + 110 * k) idp) ∧ Fr [52, 53] I J' ∧ FrS s I J' := by
  intro d
  induction d with
  | zero =>
    intro fu J _ h2 a b c e
    obtain ⟨fu, rfl⟩ : ∃ m, fu = m + 1 := ⟨fu - 1, by omega⟩
    rw [f_X8_clears_28, show 10 - 0 = 10 from rfl, if_pos (by decide)]
    refine ⟨J, rfl, fun i hi => ?_, b, c, e⟩
    rw [a i hi]
    by_cases h : i % 11 = 0
    · rw [if_pos h, if_pos ⟨h, by omega⟩]
    · rw [if_neg h, if_neg (fun g => h g.1)]
  | succ d ih =>
    intro fu J hd h2 a b c e
    obtain ⟨fu, rfl⟩ : ∃ m, fu = m + 1 := ⟨fu - 1, by omega⟩
    generalize hk : 10 - (d + 1) = k at *
    have hk1 : k < 10 := by omega
    rw [f_X8_clears_28, if_neg (ge10 hk1), ad_100, q_chk (by omega) (by decide), bnd_eq, q_ix (by omega), clears53 hs hk1, bnd_eq, nI_1, show vp_nar .boolean 1 = 1 by decide]
    generalize hJ : wp (up2 J 52 (100 * s + 10 * k + k) 1) 53 (1000 * s + 100 * k + 10 * k) idp = J2
    have hdk : 10 - d = k + 1 := by omega
    rw [hdk] at ih
    refine ih fu J2 (by omega) (by omega) (fun i hi => ?_) (fun k' hk' => ?_) (fun q hq => ?_) ⟨fun i hi => ?_, fun i hi => ?_, fun i => ?_⟩
    · rw [← hJ, wp_ne (by decide)]
      unfold up2
      rw [if_pos rfl]
      by_cases h : 100 * s + i = 100 * s + 10 * k + k
      · rw [if_pos h, if_pos (by omega)]
      · rw [if_neg h, a i hi]
        by_cases h3 : i % 11 = 0 ∧ i / 11 < k
        · rw [if_pos h3, if_pos ⟨h3.1, by omega⟩]
        · rw [if_neg h3, if_neg (by omega)]
    · by_cases h : k' = k
      · rw [h, ← hJ, show 1000 * s + 110 * k = 1000 * s + 100 * k + 10 * k by omega]; exact Row_wp
      · intro i hi
        rw [← hJ]
        unfold wp
        rw [wr_out (by omega), up2_ne (by decide)]
        exact b k' (by omega) i hi
    · rw [← hJ, wp_ne (fun e => hq (by rw [e]; decide)), up2_ne (fun e => hq (by rw [e]; decide))]
      exact c q hq
    · rw [← hJ, wp_ne (by decide)]
      unfold up2
      rw [if_pos rfl, if_neg (by omega)]
      exact e.1 i hi
    · rw [← hJ]
      unfold wp
      rw [wr_out (by omega), up2_ne (by decide)]
      exact e.2.1 i hi
    · rw [← hJ, wp_ne (by decide)]
      unfold up2
      rw [if_pos rfl]
      split
      · exact Or.inr (Or.inr rfl)
      · exact e.2.2 i
theorem Sub_triv (n : Nat) : Sub n (fun p => p = idp) := ⟨fun a h => by rw [h]; exact IsP_id n, rfl, fun a b ha hb => by rw [ha, hb]; rfl, fun a h => by rw [h]; exact iv_id⟩
theorem clears_eq {s : Nat} (hs : s < 4) {I : MI} {L : ML} : ∃ I', f_X8_clears (nI s) I L = some (I', L) ∧ SlotG I' s (fun p => p = idp) ∧ Fr [52, 53] I I' ∧ FrS s I I' := by
  unfold f_X8_clears
  have h1 : f_X8_clears_2 (nI s) L (fun (I_6 : MI) => f_X8_clears_28 (nI s) L FU 0 I_6) FU 0 I = f_X8_clears_28 (nI s) L FU 0 (wr I 52 (100 * s) 100 (fun _ => 0)) := by
    have := for0 (fun fu x => f_X8_clears_2 (nI s) L (fun (I_6 : MI) => f_X8_clears_28 (nI s) L FU 0 I_6) fu x.1 x.2) (fun i => (nI i, wr I 52 (100 * s) i (fun _ => 0))) 100 (f_X8_clears_28 (nI s) L FU 0 (wr I 52 (100 * s) 100 (fun _ => 0))) (by decide)
      (fun fu => by
        show f_X8_clears_2 (nI s) L _ (fu + 1) (nI 100) _ = _
        rw [f_X8_clears_2, if_pos (by decide)])
      (fun fu i hi => by
        dsimp only
        rw [f_X8_clears_2, if_neg (ge100 hi), ad_c, q_chk (by omega) (by decide), bnd_eq, bnd_eq, q_ix (by omega), wr_s (f := fun _ => (0 : Int32)) (by decide), nI_1])
    rw [wr_0] at this
    exact this
  rw [h1]
  have hfr : Fr [52, 53] I (wr I 52 (100 * s) 100 (fun _ => 0)) := fun q hq => wr_ne (fun e => hq (by rw [e]; decide))
  obtain ⟨J, i1, i2, i3, i4, i5⟩ := clears28 hs (L := L) (I := I) 10 FU (wr I 52 (100 * s) 100 (fun _ => 0)) (Nat.le_refl _) (by unfold FU; omega) (fun c hc => by rw [wr_at hc, if_neg (by omega)]) (fun k hk => by omega) hfr ⟨fun i hi => wr_out (by omega), fun i hi => by rw [wr_ne (by decide)], fun i => by
    by_cases hi : 100 * s ≤ i ∧ i < 100 * s + 100
    · exact Or.inr (Or.inl (wr_in hi.1 hi.2))
    · exact Or.inl (wr_out (by omega))⟩
  refine ⟨J, i1, ?_, i4, i5⟩
  have eR : ∀ k j, k < 10 → (RT J s k j = true ↔ j = k) := by
    intro k j hk
    by_cases hj : j < 10
    · rw [RT_in hj]
      have := i2 (10 * k + j) (by omega)
      rw [show 100 * s + (10 * k + j) = 100 * s + 10 * k + j by omega] at this
      rw [this]
      by_cases h : j = k
      · rw [if_pos (by omega)]; simp [h]
      · rw [if_neg (by omega)]; simp [h]
    · constructor
      · intro h; exact absurd (RT_lt h) hj
      · intro h; omega
  have hOK : SlotOK J s (fun _ _ => idp) := by
    refine ⟨fun k hk => ⟨⟨(eR k k hk).mpr rfl, rfl⟩, fun j hr => ?_⟩, fun k j hk hj hr => ?_⟩
    · have := (eR k j hk).mp hr
      rw [this]
      exact ⟨hk, IsP_id 10, fun _ _ => rfl, rfl⟩
    · have := (eR k j hk).mp hr
      rw [this, show 1000 * s + 100 * k + 10 * k = 1000 * s + 110 * k by omega]
      exact i3 k hk
  refine ⟨_, hOK, ⟨hOK.1, fun k j hk => (eR k j hk).trans ⟨fun e => ⟨idp, rfl, fun _ _ => rfl, e.symm⟩, fun ⟨g, h1, h2, h3⟩ => ?_⟩, fun k j hk hr => rfl⟩, Sub_triv 10, fun c hc => by
    rw [i2 c hc]
    split
    · exact Or.inr rfl
    · exact Or.inl rfl⟩
  rw [← h3, show g = idp from h1]; rfl
def MS (mv : Nat → Nat → Nat) (set i : Nat) : PS := fun q => ∃ t, t < i ∧ set.testBit t = true ∧ q = mv t
theorem MS_0 {mv : Nat → Nat → Nat} {set n : Nat} (hn : n ≤ 10) : Gen n (MS mv set 0) = (fun p => p = idp) := by
  funext q
  refine propext ⟨fun h => h _ (Sub_triv n) (fun a ⟨t, h1, _⟩ => by omega), fun h => ?_⟩
  rw [h]
  exact (Gen_Sub hn (fun a ⟨t, h1, _⟩ => by omega)).2.1
theorem MS_f {mv : Nat → Nat → Nat} {set i : Nat} (h : set.testBit i = false) : MS mv set (i + 1) = MS mv set i := by
  funext q
  refine propext ⟨fun ⟨t, h1, h2, h3⟩ => ⟨t, ?_, h2, h3⟩, fun ⟨t, h1, h2, h3⟩ => ⟨t, by omega, h2, h3⟩⟩
  by_cases e : t = i
  · rw [e, h] at h2; cases h2
  · omega
theorem MS_t {mv : Nat → Nat → Nat} {set i n : Nat} (h : set.testBit i = true) : Gen n (fun q => Gen n (MS mv set i) q ∨ q = mv i) = Gen n (MS mv set (i + 1)) := by
  funext q
  refine propext ⟨fun g H hH hS => g H hH (fun a ha => ?_), fun g H hH hS => g H hH (fun a ⟨t, h1, h2, h3⟩ => ?_)⟩
  · rcases ha with ha | ha
    · exact ha H hH (fun b ⟨t, h1, h2, h3⟩ => hS b ⟨t, by omega, h2, h3⟩)
    · exact hS a ⟨i, by omega, h, ha⟩
  · by_cases e : t = i
    · exact hS a (Or.inr (by rw [h3, e]))
    · exact hS a (Or.inl (Gen_in ⟨t, by omega, h2, h3⟩))
theorem builds7 {s set m : Nat} {mv : Nat → Nat → Nat} {st : Nat → Nat} (hs : s < 4) (hset : set < 2 ^ 31) (hmv : ∀ i, i < m → IsP 10 (mv i)) : ∀ d fu I L, d ≤ m → d < fu → Nw I m mv st → SlotG I s (Gen 10 (MS mv set (m - d))) → ∃ I', f_X8_builds_7 (nI s) (nI set) fu (nI (m - d)) I L = some (I', L) ∧ SlotG I' s (Gen 10 (MS mv set m)) ∧ Fr (48 :: SC) I I' ∧ FrS s I I' := by
  intro d
  induction d with
  | zero =>
    intro fu I L _ h2 hN hG
    obtain ⟨fu, rfl⟩ : ∃ m, fu = m + 1 := ⟨fu - 1, by omega⟩
    rw [f_X8_builds_7, ob (moves_eq hN), show m - 0 = m from rfl, if_pos (by have := hN.2.1; rw [q_le (by omega) (by omega)]; omega)]
    exact ⟨I, rfl, hG, Fr.refl, FrS.refl⟩
  | succ d ih =>
    intro fu I L hd h2 hN hG
    obtain ⟨fu, rfl⟩ : ∃ m, fu = m + 1 := ⟨fu - 1, by omega⟩
    have h6 := hN.2.1
    generalize hk : m - (d + 1) = k at *
    have hdk : m - d = k + 1 := by omega
    rw [hdk] at ih
    rw [f_X8_builds_7, ob (moves_eq hN), if_neg (by rw [q_le (by omega) (by omega)]; omega), ob (bit_eq hset (by omega))]
    cases hb : set.testBit k
    · rw [if_pos (show b2i false = 0 from rfl), bnd_eq, nI_1]
      exact ih fu I L (by omega) (by omega) hN (by rw [MS_f hb]; exact hG)
    · rw [if_neg (show ¬ b2i true = 0 by decide), ob (laysMove_eq hN (by omega) (by decide))]
      have f1 : Fr (48 :: SC) I (wp I 48 0 (mv k)) := Fr_wp (by decide)
      have hG1 : SlotG (wp I 48 0 (mv k)) s (Gen 10 (MS mv set k)) := hG.fr (wp_ne (by decide)) (wp_ne (by decide))
      obtain ⟨I2, j1, j2, j3, j4⟩ := adds_eq (L := L) hs hG1 (a := 48) (by decide) Row_wp (hmv k (by omega))
      rw [ob j1, bnd_eq, nI_1]
      rw [MS_t hb] at j2
      have f2 : Fr (48 :: SC) I I2 := f1.trans (j3.mono (fun q hq => List.mem_cons_of_mem _ hq))
      obtain ⟨I3, i1, i2, i3, i4⟩ := ih fu I2 L (by omega) (by omega) (hN.fr (f2 44 (by decide))) j2
      refine ⟨I3, i1, i2, f2.trans i3, FrS.trans (FrS.trans (FrS.of (wp_ne (by decide)) (wp_ne (by decide))) j4) i4⟩
theorem builds_eq {I : MI} {L : ML} {s set m : Nat} {mv : Nat → Nat → Nat} {st : Nat → Nat} (hs : s < 4) (hset : set < 2 ^ 31) (hmv : ∀ i, i < m → IsP 10 (mv i)) (hN : Nw I m mv st) : ∃ I', f_X8_builds (nI s) (nI set) I L = some (I', L) ∧ SlotG I' s (Gen 10 (MS mv set m)) ∧ Fr (48 :: SC) I I' ∧ FrS s I I' := by
  obtain ⟨I1, i1, i2, i3, i4⟩ := clears_eq (I := I) (L := L) hs
  unfold f_X8_builds
  rw [ob i1]
  obtain ⟨I2, j1, j2, j3, j4⟩ := builds7 (m := m) (mv := mv) (st := st) hs hset hmv m FU I1 L (Nat.le_refl _) (by have := hN.2.1; unfold FU; omega) (hN.fr (i3 44 (by decide))) (by rw [show m - m = 0 by omega, MS_0 (Nat.le_refl 10)]; exact i2)
  rw [show m - m = 0 by omega] at j1
  exact ⟨I2, j1, j2, (i3.mono (by decide)).trans j3, i4.trans j4⟩
