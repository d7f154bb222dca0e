/-! Holding a set of points: the reference -/
section HQ
variable {n m rm : Nat} {mv : Nat → Nat → Nat} {st : Nat → Nat} {I : MI} {L : ML}
theorem pc_step2 : ∀ v : Nat, v < 1024 → v ≠ 0 → pc (v &&& (v - 1)) + 1 = pc v ∧ v &&& (v - 1) < v := by decide +kernel
theorem bits_eq2 {v : Nat} (hv : v < 1024) : f_X8_bits (nI v) = some (nI (pc v)) := by
  have hle : pc v ≤ 10 := cT_le _ _
  unfold f_X8_bits
  have := loop0 (fun fu z => f_X8_bits_4 fu z.1 z.2) (fun i z => i ≤ pc v ∧ z.1 = nI i ∧ ∃ w, w < 1024 ∧ z.2 = nI w ∧ i + pc w = pc v) (fun o => o = some (nI (pc v))) (pc v) (by omega) (nI 0, nI v) ⟨Nat.zero_le _, rfl, v, hv, rfl, by omega⟩
    (fun fu i z hi hP => by
      obtain ⟨z1, z2⟩ := z
      obtain ⟨_, p1, w, p2, p3, p4⟩ := hP
      dsimp only at p1 p3 ⊢
      subst p1 p3
      rw [f_X8_bits_4, show (0 : Int32) = nI 0 from rfl, ifc (q_eq (by omega) (by decide))]
      by_cases c : w = 0
      · left
        subst c
        rw [if_pos rfl]
        rw [pc_0] at p4
        rw [show i = pc v by omega]
      · right
        obtain ⟨s1, s2⟩ := pc_step2 w p2 c
        refine ⟨by omega, (nI (i + 1), nI (w &&& (w - 1))), ?_, by omega, rfl, _, by omega, rfl, by omega⟩
        rw [if_neg c, bnd_eq, bnd_eq, nI_1, show (1 : Int32) = nI 1 from rfl, pk_sub (by omega), q_and])
  rw [nI_0] at this
  exact this
theorem hg_10 {s : Nat} (hn : n ≤ 10) (hs : s < 2 ^ n) : hg s 10 = hg s n := by
  have hz : ∀ i, n ≤ i → s.testBit i = false := fun i hi => Nat.testBit_lt_two_pow (Nat.lt_of_lt_of_le hs (Nat.pow_le_pow_right (by decide) hi))
  have ek : ∀ k, n ≤ k → cT (fun i => s.testBit i) k = cT (fun i => s.testBit i) n := fun k hk => cT_more k hk hz
  funext x
  unfold hg
  by_cases h1 : x < n
  · rw [if_pos h1, if_pos (show x < 10 by omega), ek 10 hn]
  · rw [if_neg h1]
    by_cases h2 : x < 10
    · rw [if_pos h2, if_neg (by rw [hz x (by omega)]; decide), ek 10 hn, ← ek x (by omega)]
      have := cT_not (fun i => s.testBit i) x
      exact this
    · rw [if_neg h2]
/-- one pass over the points -/
theorem h33 {s b0 : Nat} {v3 : Int32} (w : Bool) (hw : v3 = b2i w) (hs : s < 1024) (hb0 : b0 + cT (fun i => decide (s.testBit i = w)) 10 ≤ 10) (k0 : Int32 → MI → Option (Int32 × Mm)) : ∃ I', f_X8_holds_33 (nI s) v3 L k0 FU (nI b0) 0 I = k0 (nI (b0 + cT (fun i => decide (s.testBit i = w)) 10)) I' ∧ Fr [51] I I' ∧ (∀ i, i < b0 → I' 51 i = I 51 i) ∧ (∀ y, y < 10 → s.testBit y = w → I' 51 (b0 + cT (fun i => decide (s.testBit i = w)) y) = nI y) := by
  have hmono : ∀ y, y ≤ 10 → cT (fun i => decide (s.testBit i = w)) y ≤ cT (fun i => decide (s.testBit i = w)) 10 := fun y hy => cT_mono _ hy
  have := loop0 (fun fu (z : Int32 × Int32 × MI) => f_X8_holds_33 (nI s) v3 L k0 fu z.1 z.2.1 z.2.2) (fun y z => y ≤ 10 ∧ z.1 = nI (b0 + cT (fun i => decide (s.testBit i = w)) y) ∧ z.2.1 = nI y ∧ Fr [51] I z.2.2 ∧ (∀ i, i < b0 → z.2.2 51 i = I 51 i) ∧ (∀ y', y' < y → s.testBit y' = w → z.2.2 51 (b0 + cT (fun i => decide (s.testBit i = w)) y') = nI y')) (fun o => ∃ I', o = k0 (nI (b0 + cT (fun i => decide (s.testBit i = w)) 10)) I' ∧ Fr [51] I I' ∧ (∀ i, i < b0 → I' 51 i = I 51 i) ∧ (∀ y, y < 10 → s.testBit y = w → I' 51 (b0 + cT (fun i => decide (s.testBit i = w)) y) = nI y)) 10 (by decide) (nI b0, nI 0, I) ⟨by decide, rfl, rfl, Fr.refl, fun _ _ => rfl, fun y' hy' => by omega⟩
    (fun fu y z hy hP => by
      obtain ⟨z1, z2, K⟩ := z
      obtain ⟨_, p1, p2, p3, p4, p5⟩ := hP
      dsimp only at p1 p2 p3 p4 p5 ⊢
      subst p1 p2
      rw [f_X8_holds_33, show (10 : Int32) = nI 10 from rfl, ifc (q_le (by decide) (by omega))]
      by_cases c1 : 10 ≤ y
      · left
        have ey : y = 10 := by omega
        subst ey
        rw [if_pos c1]
        exact ⟨K, rfl, p3, p4, p5⟩
      · right
        refine ⟨by omega, ?_⟩
        rw [if_neg c1, ob (bit_eq (by omega) (by omega))]
        have hm1 := hmono (y + 1) (by omega)
        by_cases c2 : s.testBit y = w
        · have hcs : cT (fun i => decide (s.testBit i = w)) (y + 1) = cT (fun i => decide (s.testBit i = w)) y + 1 := cT_t (P := fun i => decide (s.testBit i = w)) (decide_eq_true c2)
          refine ⟨(nI (b0 + cT (fun i => decide (s.testBit i = w)) (y + 1)), nI (y + 1), up2 K 51 (b0 + cT (fun i => decide (s.testBit i = w)) y) (nI y)), ?_, by omega, rfl, rfl, fun q hq => by dsimp only; rw [up2_ne (fun g => hq (by rw [g]; decide))]; exact p3 q hq, fun i hi => by dsimp only; rw [up2_n (by omega)]; exact p4 i hi, fun y' hy' hb' => ?_⟩
          · rw [c2, hw, hcs]
            cases w
            · rw [if_neg (by decide), if_pos b2i_f, q_chk (by omega) (by decide), bnd_eq, bnd_eq, bnd_eq, q_ix (by omega), nI_1, nI_1]
              rfl
            · rw [if_pos (show b2i true = 1 from rfl), if_pos (show b2i true = 1 from rfl), q_chk (by omega) (by decide), bnd_eq, bnd_eq, bnd_eq, q_ix (by omega), nI_1, nI_1]
              rfl
          · dsimp only
            by_cases e1 : y' = y
            · rw [e1, up2_s]
            · have := cT_lt (fun i => decide (s.testBit i = w)) (show y' < y by omega) (decide_eq_true hb')
              rw [up2_n (by omega)]; exact p5 y' (by omega) hb'
        · have hcs : cT (fun i => decide (s.testBit i = w)) (y + 1) = cT (fun i => decide (s.testBit i = w)) y := cT_f (P := fun i => decide (s.testBit i = w)) (decide_eq_false c2)
          refine ⟨(nI (b0 + cT (fun i => decide (s.testBit i = w)) (y + 1)), nI (y + 1), K), ?_, by omega, rfl, rfl, p3, p4, fun y' hy' hb' => ?_⟩
          · have hb : s.testBit y = !w := by
              cases hb : s.testBit y <;> cases w <;> simp_all
            rw [hb, hw, hcs]
            cases w
            · rw [if_neg (by decide), if_neg (by decide), bnd_eq, nI_1]
            · rw [if_pos (show b2i true = 1 from rfl), if_neg (by decide), bnd_eq, nI_1]
          · by_cases e1 : y' = y
            · subst e1; exact absurd hb' c2
            · exact p5 y' (by omega) hb')
  rw [nI_0] at this
  exact this
theorem h26 {s : Nat} (hs : s < 1024) (k0 : MI → Option (Int32 × Mm)) : ∃ I', f_X8_holds_26 (nI s) L k0 FU 0 1 I = k0 I' ∧ Fr [51] I I' ∧ Row I' 51 0 (iv (hg s 10)) := by
  have ht : ∀ y, cT (fun i => decide (s.testBit i = true)) y = cT (fun i => s.testBit i) y := fun y => cT_ext y (fun i _ => by cases s.testBit i <;> rfl)
  have hf : ∀ y, cT (fun i => decide (s.testBit i = false)) y = cT (fun i => !s.testBit i) y := fun y => cT_ext y (fun i _ => by cases s.testBit i <;> rfl)
  have hsum := cT_not (fun i => s.testBit i) 10
  have hP := hg_P (n := 10) s
  -- two rounds of the outer loop
  have key : ∀ fu, f_X8_holds_26 (nI s) L k0 (fu + 3) 0 1 I = f_X8_holds_26 (nI s) L k0 (fu + 3) 0 1 I := fun _ => rfl
  have := loop0 (fun fu (z : Int32 × Int32 × MI) => f_X8_holds_26 (nI s) L k0 fu z.1 z.2.1 z.2.2) (fun d z => d ≤ 2 ∧ z.2.1 = (if d = 0 then 1 else if d = 1 then 0 else -1) ∧ Fr [51] I z.2.2 ∧ (d = 0 → z.1 = nI 0) ∧ (1 ≤ d → d = 1 → z.1 = nI (cT (fun i => s.testBit i) 10)) ∧ (1 ≤ d → ∀ y, y < 10 → s.testBit y = true → z.2.2 51 (hg s 10 y) = nI y) ∧ (2 ≤ d → ∀ y, y < 10 → s.testBit y = false → z.2.2 51 (hg s 10 y) = nI y)) (fun o => ∃ I', o = k0 I' ∧ Fr [51] I I' ∧ Row I' 51 0 (iv (hg s 10))) 2 (by decide) (nI 0, 1, I) ⟨by decide, rfl, Fr.refl, fun _ => rfl, fun h => by omega, fun h => by omega, fun h => by omega⟩
    (fun fu d z hd hP2 => by
      obtain ⟨z1, z2, K⟩ := z
      obtain ⟨_, p1, p2, p3, p4, p5, p6⟩ := hP2
      dsimp only at p1 p2 p3 p4 p5 p6 ⊢
      have hd3 : d = 0 ∨ d = 1 ∨ d = 2 := by omega
      rcases hd3 with e | e | e <;> subst e
      · right
        rw [if_pos rfl] at p1
        subst p1
        rw [p3 rfl, f_X8_holds_26, if_neg (by decide)]
        generalize hk1 : (fun (v2_22 : Int32) (I_23 : MI) => bnd (1 + (-1) : Int32) (fun v3_24 => f_X8_holds_26 (nI s) L k0 fu v2_22 v3_24 I_23)) = k1
        obtain ⟨K1, g1, g2, g3, g4⟩ := h33 (I := K) (L := L) (b0 := 0) true rfl hs (by rw [ht]; have := cT_le (fun i => s.testBit i) 10; omega) k1
        refine ⟨by decide, (nI (cT (fun i => s.testBit i) 10), 0, K1), ?_, by decide, rfl, p2.trans g2, fun h => by omega, fun _ _ => rfl, fun _ y hy hb => ?_, fun h => by omega⟩
        · have g1 : f_X8_holds_33 (nI s) 1 L k1 FU (nI 0) 0 K = k1 (nI (0 + cT (fun i => decide (s.testBit i = true)) 10)) K1 := g1
          rw [g1, ← hk1, Nat.zero_add, ht]
          dsimp only
          rw [bnd_eq]
          rfl
        · dsimp only
          have := g4 y hy hb
          rw [Nat.zero_add, ht] at this
          unfold hg
          rw [if_pos hy, if_pos hb]; exact this
      · right
        rw [if_neg (by decide), if_pos rfl] at p1
        subst p1
        rw [p4 (by decide) rfl, f_X8_holds_26, if_neg (by decide)]
        generalize hk1 : (fun (v2_22 : Int32) (I_23 : MI) => bnd (0 + (-1) : Int32) (fun v3_24 => f_X8_holds_26 (nI s) L k0 fu v2_22 v3_24 I_23)) = k1
        obtain ⟨K1, g1, g2, g3, g4⟩ := h33 (I := K) (L := L) (b0 := cT (fun i => s.testBit i) 10) false rfl hs (by rw [hf]; omega) k1
        refine ⟨by decide, (nI (cT (fun i => s.testBit i) 10 + cT (fun i => decide (s.testBit i = false)) 10), -1, K1), ?_, by decide, rfl, p2.trans g2, fun h => by omega, fun _ h => by omega, fun _ y hy hb => ?_, fun _ y hy hb => ?_⟩
        · have g1 : f_X8_holds_33 (nI s) 0 L k1 FU (nI (cT (fun i => s.testBit i) 10)) 0 K = k1 (nI (cT (fun i => s.testBit i) 10 + cT (fun i => decide (s.testBit i = false)) 10)) K1 := g1
          rw [g1, ← hk1]
          dsimp only
          rw [bnd_eq]
          rfl
        · dsimp only
          rw [g3 _ ?_]
          · exact p5 (by decide) y hy hb
          · unfold hg
            rw [if_pos hy, if_pos hb]
            exact cT_lt (fun i => s.testBit i) hy hb
        · dsimp only
          have := g4 y hy hb
          rw [hf] at this
          unfold hg
          rw [if_pos hy, if_neg (by rw [hb]; decide)]; exact this
      · left
        rw [if_neg (by decide), if_neg (by decide)] at p1
        subst p1
        rw [f_X8_holds_26, if_pos (by decide)]
        refine ⟨K, rfl, p2, fun k hk => ?_⟩
        have hik : iv (hg s 10) k < 10 := (IsP_iv (Nat.le_refl 10) hP).1 k hk
        have e1 : hg s 10 (iv (hg s 10) k) = k := iv_r (Nat.le_refl 10) hP k
        rw [Nat.zero_add]
        cases hb : s.testBit (iv (hg s 10) k)
        · have := p6 (by decide) _ hik hb
          rw [e1] at this; exact this
        · have := p5 (by decide) _ hik hb
          rw [e1] at this; exact this)
  rw [nI_0] at this
  exact this
end HQ
