/-! Blocks: both programs -/
section BD3
variable {n m rm : Nat} {mv : Nat → Nat → Nat} {st : Nat → Nat} {I : MI} {L : ML}
theorem CI.g36 {I' : MI} (h : CI I L rm n m mv st) (hI : ∀ p, p ≠ 36 → I' p = I p) : CI I' L rm n m mv st := by
  obtain ⟨a1, a2, a3, a4, a5, a6, a7, a8, a9, a10⟩ := h
  have h6 := hI 6 (by decide)
  refine ⟨by rw [h6]; exact a1, by rw [h6]; exact a2, a3, a4, a5.fr (hI 8 (by decide)) (hI 9 (by decide)) (hI 13 (by decide)) (hI 14 (by decide)) rfl rfl rfl rfl, ?_, Pz_fr a7 (hI 29 (by decide)), a8.fr (hI 30 (by decide)) (hI 31 (by decide)), a9.fr (hI 33 (by decide)) (hI 34 (by decide)), a10.fr (by rw [h6]) (fun p hp => hI p (by omega)) (fun p hp => rfl)⟩
  unfold Ndd at a6 ⊢; rw [h6]; exact a6
theorem b94 {a : Nat} {B : Nat → Bool} (hn : n ≤ 10) (h6 : I 6 0 = nI n) (ha : a < n) (hB : ∀ x, x < n → (B x = true ↔ I 36 x = I 36 a)) : f_X2_blockOf_96 (nI a) I L FU 0 0 = some (nI (oS B n), I, L) := by
  have := for0 (fun fu z => f_X2_blockOf_96 (nI a) I L fu z.1 z.2) (fun i => (nI (oS B i), nI i)) n (some (nI (oS B n), I, L)) (by omega)
    (fun fu => by
      dsimp only
      rw [f_X2_blockOf_96, h6, if_pos (by rw [q_le (by omega) (by omega)]; omega)])
    (fun fu i hi => by
      dsimp only
      rw [f_X2_blockOf_96, h6, if_neg (by rw [q_le (by omega) (by omega)]; omega), q_chk (by omega) (by decide), q_chk (by omega) (by decide), q_ix (by omega), q_ix (by omega)]
      cases c : B i
      · rw [if_neg (fun g => by rw [(hB i hi).mpr g] at c; cases c), bnd_eq, nI_1, oS_f c]
      · rw [if_pos ((hB i hi).mp c), bnd_eq, bnd_eq, nI_1, q_shl1 (by omega), q_or, oS_t c])
  rw [nI_0] at this
  exact this
theorem b2 {a b : Nat} (hn : n ≤ 10) (h6 : I 6 0 = nI n) (ha : a < n) (hb : b < n) (kk : MI → Option (Int32 × Mm)) : ∃ I', f_X2_blockOf_2 (nI a) (nI b) L kk FU 0 I = kk I' ∧ (∀ x, x < n → I' 36 x = nI (if x = b then a else x)) ∧ (∀ p, p ≠ 36 → I' p = I p) := by
  have := loop0 (fun fu (z : Int32 × MI) => f_X2_blockOf_2 (nI a) (nI b) L kk fu z.1 z.2) (fun i z => i ≤ n ∧ z.1 = nI i ∧ (∀ x, x < i → z.2 36 x = nI (if x = b then a else x)) ∧ (∀ p, p ≠ 36 → z.2 p = I p)) (fun o => ∃ I', o = kk I' ∧ (∀ x, x < n → I' 36 x = nI (if x = b then a else x)) ∧ (∀ p, p ≠ 36 → I' p = I p)) n (by omega) (nI 0, I) ⟨Nat.zero_le _, rfl, fun x hx => by omega, fun _ _ => rfl⟩
    (fun fu i z hi hP => by
      obtain ⟨z1, K⟩ := z
      obtain ⟨_, p1, p2, p3⟩ := hP
      dsimp only at p1 p2 p3 ⊢
      subst p1
      rw [f_X2_blockOf_2, p3 6 (by decide), h6, ifc (q_le (by omega) (by omega))]
      by_cases c1 : n ≤ i
      · left
        rw [if_pos c1]
        exact ⟨K, rfl, fun x hx => p2 x (by omega), p3⟩
      · right
        rw [if_neg c1, ifc (q_eq (by omega) (by omega))]
        have fin : ∀ v, v = (if i = b then a else i) → ∀ x, x < i + 1 → up2 K 36 i (nI v) 36 x = nI (if x = b then a else x) := fun v hv x hx => by
          by_cases e1 : x = i
          · rw [e1, up2_s, hv]
          · rw [up2_n e1]; exact p2 x (by omega)
        by_cases c2 : i = b
        · refine ⟨by omega, (nI (i + 1), up2 K 36 i (nI a)), ?_, by omega, rfl, fin a (by rw [if_pos c2]), fun p hp => by dsimp only; rw [up2_ne hp]; exact p3 p hp⟩
          rw [if_pos c2, q_chk (by omega) (by decide), bnd_eq, bnd_eq, q_ix (by omega), nI_1]
        · refine ⟨by omega, (nI (i + 1), up2 K 36 i (nI i)), ?_, by omega, rfl, fin i (by rw [if_neg c2]), fun p hp => by dsimp only; rw [up2_ne hp]; exact p3 p hp⟩
          rw [if_neg c2, q_chk (by omega) (by decide), bnd_eq, bnd_eq, q_ix (by omega), nI_1])
  rw [nI_0] at this
  exact this
theorem LB_0 {a b : Nat} {lab : Nat → Int32} (hn : n ≤ 10) (ha : a < n) (hb : b < n) (hab : a ≠ b) (h : ∀ x, x < n → lab x = nI (if x = b then a else x)) : LB n m mv a b lab ∧ ∃ k, NL n lab k ∧ k < n := by
  have hla : lab a = nI a := by rw [h a ha, if_neg hab]
  have hlb : lab b = nI a := by rw [h b hb, if_pos rfl]
  refine ⟨⟨hla.trans hlb.symm, fun x y hx hy g => ?_⟩, ?_⟩
  · rw [h x hx, h y hy] at g
    have g := (q_eq (by split <;> omega) (by split <;> omega)).mp g
    by_cases c1 : x = b
    · rw [if_pos c1] at g
      by_cases c2 : y = b
      · rw [c1, c2]; exact Blk_r
      · rw [if_neg c2] at g
        rw [c1, ← g]; exact Blk_s Blk_0
    · rw [if_neg c1] at g
      by_cases c2 : y = b
      · rw [if_pos c2] at g
        rw [c2, g]; exact Blk_0
      · rw [if_neg c2] at g
        rw [g]; exact Blk_r
  · obtain ⟨k, hk⟩ := NL_ex n lab
    obtain ⟨k1, hk1⟩ := NL_ex n (fun x => nI x)
    have := NL_lt hk1 hk (fun x y hx hy g => by
      have g : x = y := (q_eq (show x < 2 ^ 31 by omega) (show y < 2 ^ 31 by omega)).mp g
      rw [g]) ha hb (fun g => hab ((q_eq (show a < 2 ^ 31 by omega) (show b < 2 ^ 31 by omega)).mp g)) (hla.trans hlb.symm)
    have := NL_n hk1
    exact ⟨k, hk, by omega⟩
theorem blockC_eq {a b : Nat} {B : Nat → Bool} (hO : OKm n m mv st) (hC : CI I L rm n m mv st) (ha : a < n) (hb : b < n) (hab : a ≠ b) (hB : ∀ x, x < n → (B x = true ↔ Blk m mv a b x a)) : ∃ I', f_X2_blockOf (nI a) (nI b) I L = some (nI (oS B n), I', L) ∧ (∀ p, p ≠ 36 → I' p = I p) := by
  have hn := hO.1
  unfold f_X2_blockOf
  generalize hk0 : (fun (I_9 : MI) => f_X2_blockOf_37 (nI a) (fun (I_28 : MI) (L_29 : ML) => f_X2_blockOf_96 (nI a) I_28 L_29 FU 0 0) FU 1 0 I_9 L) = k0
  obtain ⟨K, g1, g2, g3⟩ := b2 (I := I) (L := L) hn hC.1 ha hb k0
  obtain ⟨l1, k, l2, l3⟩ := LB_0 (m := m) (mv := mv) hn ha hb hab g2
  obtain ⟨K1, u1, u2, u3⟩ := b37 (I := K) (L := L) (v1 := nI a) hO (by rw [g3 6 (by decide)]; exact hC.1) (by rw [g3 6 (by decide)]; exact hC.2.1) hC.2.2.1 ha hb l2 l3 l1 (fun (I_28 : MI) (L_29 : ML) => f_X2_blockOf_96 (nI a) I_28 L_29 FU 0 0)
  refine ⟨K1, ?_, fun p hp => (u2 p hp).trans (g3 p hp)⟩
  rw [g1, ← hk0]
  dsimp only
  rw [u1]
  exact b94 hn (by rw [u2 6 (by decide), g3 6 (by decide)]; exact hC.1) ha (fun x hx => (hB x hx).trans (u3 x a hx ha).symm)
/-! the reference -/
theorem joins_eq {u v : Nat} (hu : u < 10) (hv : v < 10) {c : Bool} (hc : c = true ↔ I 64 u ≠ I 64 v) : ∃ I', f_X8_joins (nI u) (nI v) I L = some (c, I', L) ∧ (∀ x, x < 10 → I' 64 x = if I 64 x = I 64 v then I 64 u else I 64 x) ∧ Fr [64] I I' := by
  unfold f_X8_joins
  rw [q_chk (by omega) (by decide), bnd_eq, q_chk (by omega) (by decide), bnd_eq, q_ix (by omega), q_ix (by omega)]
  generalize hk0 : (fun (I_11 : MI) => if I 64 u = I 64 v then some (false, I_11, L) else some (true, I_11, L)) = k0
  have key : ∃ K, f_X8_joins_18 (I 64 u) (I 64 v) L k0 FU 0 I = k0 K ∧ (∀ x, x < 10 → K 64 x = if I 64 x = I 64 v then I 64 u else I 64 x) ∧ Fr [64] I K := by
    have := loop0 (fun fu (z : Int32 × MI) => f_X8_joins_18 (I 64 u) (I 64 v) L k0 fu z.1 z.2) (fun i z => i ≤ 10 ∧ z.1 = nI i ∧ (∀ x, x < i → z.2 64 x = if I 64 x = I 64 v then I 64 u else I 64 x) ∧ (∀ x, i ≤ x → z.2 64 x = I 64 x) ∧ Fr [64] I z.2) (fun o => ∃ K, o = k0 K ∧ (∀ x, x < 10 → K 64 x = if I 64 x = I 64 v then I 64 u else I 64 x) ∧ Fr [64] I K) 10 (by decide) (nI 0, I) ⟨by decide, rfl, fun x hx => by omega, fun _ _ => rfl, Fr.refl⟩
      (fun fu i z hi hP => by
        obtain ⟨z1, K⟩ := z
        obtain ⟨_, p1, p2, p3, p4⟩ := hP
        dsimp only at p1 p2 p3 p4 ⊢
        subst p1
        rw [f_X8_joins_18, show (10 : Int32) = nI 10 from rfl, ifc (q_le (by decide) (by omega))]
        by_cases c1 : 10 ≤ i
        · left
          rw [if_pos c1]
          exact ⟨K, rfl, fun x hx => p2 x (by omega), p4⟩
        · right
          have fr : ∀ w, Fr [64] I (up2 K 64 i w) := fun w q hq => by rw [up2_ne (fun g => hq (by rw [g]; decide))]; exact p4 q hq
          rw [if_neg c1, q_chk (by omega) (by decide), q_ix (by omega)]
          by_cases c2 : K 64 i = I 64 v
          · refine ⟨by omega, (nI (i + 1), up2 K 64 i (I 64 u)), ?_, by omega, rfl, fun x hx => ?_, fun x hx => ?_, fr _⟩
            · rw [if_pos c2, q_chk (by omega) (by decide), bnd_eq, bnd_eq, nI_1]
            · dsimp only
              by_cases e1 : x = i
              · rw [e1, up2_s, if_pos (by rw [← p3 i (Nat.le_refl _)]; exact c2)]
              · rw [up2_n e1]; exact p2 x (by omega)
            · dsimp only; rw [up2_n (by omega)]; exact p3 x (by omega)
          · refine ⟨by omega, (nI (i + 1), up2 K 64 i (K 64 i)), ?_, by omega, rfl, fun x hx => ?_, fun x hx => ?_, fr _⟩
            · rw [if_neg c2, q_chk (by omega) (by decide), q_chk (by omega) (by decide), bnd_eq, bnd_eq, nI_1]
            · dsimp only
              by_cases e1 : x = i
              · rw [e1, up2_s, p3 i (Nat.le_refl _), if_neg (by rw [← p3 i (Nat.le_refl _)]; exact c2)]
              · rw [up2_n e1]; exact p2 x (by omega)
            · dsimp only; rw [up2_n (by omega)]; exact p3 x (by omega))
    rw [nI_0] at this
    exact this
  obtain ⟨K, k1, k2, k3⟩ := key
  refine ⟨K, ?_, k2, k3⟩
  rw [k1, ← hk0]
  dsimp only
  cases c
  · rw [if_pos (Classical.byContradiction fun g => absurd (hc.mpr g) (by decide))]
  · rw [if_neg (hc.mp rfl)]
end BD3
