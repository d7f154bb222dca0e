/-! The fewest moves -/
section FW
variable {n m N rm : Nat} {mv : Nat → Nat → Nat} {st : Nat → Nat} {I : MI} {L : ML} {e : Nat → Nat → Nat}
abbrev pc (v : Nat) : Nat := cT (fun i => v.testBit i) 10
theorem pc_step : ∀ v : Nat, v < 64 → v ≠ 0 → pc (v &&& (v - 1)) + 1 = pc v ∧ v &&& (v - 1) < v := by decide +kernel
theorem pc_0 : pc 0 = 0 := by decide
theorem bits_eq {v : Nat} (hv : v < 64) : f_X8_bits (nI v) = some (nI (pc v)) := by
  have hle : pc v ≤ 10 := cT_le _ _
  unfold f_X8_bits
  have := loop0 (fun fu z => f_X8_bits_4 fu z.1 z.2) (fun i z => i ≤ pc v ∧ z.1 = nI i ∧ ∃ w, w < 64 ∧ z.2 = nI w ∧ i + pc w = pc v) (fun o => o = some (nI (pc v))) (pc v) (by omega) (nI 0, nI v) ⟨Nat.zero_le _, rfl, v, hv, rfl, by omega⟩
    (fun fu i z hi hP => by
      obtain ⟨z1, z2⟩ := z
      obtain ⟨_, p1, w, p2, p3, p4⟩ := hP
      dsimp only at p1 p3 ⊢
      subst p1 p3
      rw [f_X8_bits_4, show (0 : Int32) = nI 0 from rfl, ifc (q_eq (by omega) (by decide))]
      by_cases c : w = 0
      · left
        subst c
        rw [if_pos rfl]
        rw [pc_0] at p4
        rw [show i = pc v by omega]
      · right
        obtain ⟨s1, s2⟩ := pc_step w p2 c
        refine ⟨by omega, (nI (i + 1), nI (w &&& (w - 1))), ?_, by omega, rfl, _, by omega, rfl, by omega⟩
        rw [if_neg c, bnd_eq, bnd_eq, nI_1, show (1 : Int32) = nI 1 from rfl, pk_sub (by omega), q_and])
  rw [nI_0] at this
  exact this
/-- the set with the fewest, the least of them -/
def FWs (m : Nat) (W : Nat → Prop) (v : Nat) : Prop := W v ∧ v < 2 ^ m ∧ ∀ u, u < 2 ^ m → W u → pc v < pc u ∨ (pc v = pc u ∧ v ≤ u)
theorem FWs_un {W : Nat → Prop} {v u : Nat} (h : FWs m W v) (g : FWs m W u) : v = u := by
  have h1 := h.2.2 u g.2.1 g.1
  have h2 := g.2.2 v h.2.1 h.1
  omega
theorem fewest25 {W : Nat → Prop} (hO : OKm n m mv st) (hR : RDY I n m mv st) (he : EL n (Gp n m mv) N e) (hW : ∀ s, W s ↔ En (Gen n (MS mv s m)) N) (hall : W (2 ^ m - 1)) : ∃ v I', f_X8_fewest_25 FU (nI (2 ^ m - 1)) (nI (2 ^ m - 1)) I L = some (nI v, I', L) ∧ FWs m W v ∧ RDY I' n m mv st ∧ Q8 I I' ∧ I' 43 0 = I 43 0 := by
  have hm := hO.2.1
  have hp2 : 2 ^ m ≤ 2 ^ 6 := Nat.pow_le_pow_right (by decide) hm
  have hp1 := Nat.two_pow_pos m
  obtain ⟨A, hA⟩ : ∃ A, A = 2 ^ m - 1 := ⟨_, rfl⟩
  rw [← hA] at hall ⊢
  have := loop0 (fun fu (z : Int32 × Int32 × MI × ML) => f_X8_fewest_25 fu z.1 z.2.1 z.2.2.1 z.2.2.2) (fun d z => d ≤ A + 1 ∧ z.2.1 = (if d ≤ A then nI (A - d) else -1) ∧ z.2.2.2 = L ∧ RDY z.2.2.1 n m mv st ∧ Q8 I z.2.2.1 ∧ z.2.2.1 43 0 = I 43 0 ∧ ∃ b, z.1 = nI b ∧ W b ∧ b ≤ A ∧ ∀ u, A - d < u ∨ d = A + 1 → u ≤ A → W u → pc b < pc u ∨ (pc b = pc u ∧ b ≤ u)) (fun o => ∃ v I', o = some (nI v, I', L) ∧ FWs m W v ∧ RDY I' n m mv st ∧ Q8 I I' ∧ I' 43 0 = I 43 0) (A + 1) (by omega) (nI A, nI A, I, L) ⟨by omega, by rw [if_pos (Nat.zero_le _), Nat.sub_zero], rfl, hR, Q8.refl, rfl, A, rfl, hall, Nat.le_refl _, fun u hu hu2 => by omega⟩
    (fun fu d z hd hP => by
      obtain ⟨z1, z2, K, M⟩ := z
      obtain ⟨_, p1, p2, p3, p4, p5, b, p6, p7, p8, p9⟩ := hP
      dsimp only at p1 p2 p3 p4 p5 p6 ⊢
      subst p2 p6
      by_cases c1 : d ≤ A
      · right
        rw [if_pos c1] at p1
        subst p1
        have hnx : nI (A - d) + (-1) = (if d + 1 ≤ A then nI (A - (d + 1)) else -1) := by
          by_cases c2 : d + 1 ≤ A
          · rw [if_pos c2, ← nI_s1, show (1 : Int32) = nI 1 from rfl, pk_sub (by omega), show A - d - 1 = A - (d + 1) by omega]
          · rw [if_neg c2, show A - d = 0 by omega]; rfl
        have hpa : pc (A - d) ≤ 10 := cT_le _ _
        have hpb : pc b ≤ 10 := cT_le _ _
        refine ⟨by omega, ?_⟩
        rw [f_X8_fewest_25, if_neg (Int32.not_lt.mpr (nI_pos' (by omega))), ob (bits_eq (by omega)), ob (bits_eq (by omega)), ifc (q_lt (by omega) (by omega))]
        by_cases c3 : pc b < pc (A - d)
        · refine ⟨(nI b, if d + 1 ≤ A then nI (A - (d + 1)) else -1, K, M), ?_, by omega, rfl, rfl, p3, p4, p5, b, rfl, p7, p8, fun u hu hu2 hu3 => ?_⟩
          · rw [if_pos c3, bnd_eq, hnx]
          · by_cases e1 : u = A - d
            · left; rw [e1]; exact c3
            · exact p9 u (by omega) hu2 hu3
        · obtain ⟨c, hc⟩ := em_B (W (A - d))
          obtain ⟨K1, a1, a2, a3, a4⟩ := isWhole_eq (L := M) hO p3 he (show A - d < 2 ^ m by omega) (hc.trans (hW _))
          rw [if_neg c3, ob a1]
          dsimp only
          cases c
          · refine ⟨(nI b, if d + 1 ≤ A then nI (A - (d + 1)) else -1, K1, M), ?_, by omega, rfl, rfl, a2, p4.trans a3, a4.trans p5, b, rfl, p7, p8, fun u hu hu2 hu3 => ?_⟩
            · rw [if_pos b2i_f, bnd_eq, hnx]
            · by_cases e1 : u = A - d
              · subst e1; exact absurd (hc.mpr hu3) (by decide)
              · exact p9 u (by omega) hu2 hu3
          · refine ⟨(nI (A - d), if d + 1 ≤ A then nI (A - (d + 1)) else -1, K1, M), ?_, by omega, rfl, rfl, a2, p4.trans a3, a4.trans p5, A - d, rfl, hc.mp rfl, by omega, fun u hu hu2 hu3 => ?_⟩
            · rw [if_neg b2i_t, bnd_eq, hnx]
            · by_cases e1 : u = A - d
              · right; rw [e1]; exact ⟨rfl, Nat.le_refl _⟩
              · have := p9 u (by omega) hu2 hu3
                omega
      · left
        rw [if_neg c1] at p1
        subst p1
        rw [f_X8_fewest_25, if_pos (by decide)]
        exact ⟨b, K, rfl, ⟨p7, by omega, fun u hu hu3 => p9 u (by omega) (by omega) hu3⟩, p3, p4, p5⟩)
  exact this
theorem W_mono {s t : Nat} (hn : n ≤ 10) (hmv : ∀ i, i < m → IsP n (mv i)) (hE : En (Gp n m mv) N) (h : ∀ i, s.testBit i = true → t.testBit i = true) (hs : En (Gen n (MS mv s m)) N) : En (Gen n (MS mv t m)) N := by
  have k1 : ∀ p, Gen n (MS mv s m) p → Gen n (MS mv t m) p := Gen_mono (fun a ⟨i, i1, i2, i3⟩ => Gen_in ⟨i, i1, h i i2, i3⟩)
  have k2 : ∀ p, Gen n (MS mv t m) p → Gp n m mv p := Gen_mono (fun a ⟨i, i1, i2, i3⟩ => by subst i3; exact Gp_mv i1)
  obtain ⟨Nt, hNt⟩ := En_ex hn (Gen_Sub hn (MS_P hmv t))
  have a1 := En_le hs hNt k1
  have a2 := En_le hNt hE k2
  rw [show Nt = N by omega] at hNt
  exact hNt
end FW
