/-! Blocks: the reference's rounds -/
section BR
variable {n m rm : Nat} {mv : Nat → Nat → Nat} {st : Nat → Nat} {I : MI} {L : ML}
theorem NL_cg {lab lab' : Nat → Int32} {k : Nat} (h : ∀ x, x < n → lab' x = lab x) (hk : NL n lab k) : NL n lab' k := by
  obtain ⟨B, hB, e⟩ := hk
  exact ⟨B, fun x => (hB x).trans ⟨fun ⟨g1, g2⟩ => ⟨g1, fun y hy => by rw [h y (by omega), h x g1]; exact g2 y hy⟩, fun ⟨g1, g2⟩ => ⟨g1, fun y hy => by rw [← h y (by omega), ← h x g1]; exact g2 y hy⟩⟩, e⟩
theorem PS2_cg {a b k0 : Nat} {l0 lab lab' : Nat → Int32} {fl : Bool} {P : Prop} (ha : a < n) (hb : b < n) (h : ∀ x, x < n → lab' x = lab x) (g : PS2 n m mv a b k0 l0 lab fl P) : PS2 n m mv a b k0 l0 lab' fl P := by
  refine ⟨⟨by rw [h a ha, h b hb]; exact g.1.1, fun x y hx hy e => g.1.2 x y hx hy (by rw [← h x hx, ← h y hy]; exact e)⟩, g.2.imp (fun ⟨g1, g2, g3⟩ => ⟨g1, fun x hx => (h x hx).trans (g2 x hx), g3⟩) (fun ⟨g1, k, g2, g3⟩ => ⟨g1, k, NL_cg h g2, g3⟩)⟩
theorem r49 {a b k0 x j : Nat} {l0 : Nat → Int32} {fl : Bool} {P : Prop} {v1 : Int32} (hO : OKm n m mv st) (hN : Nw I m mv st) (ha : a < n) (hb : b < n) (hk0 : NL n l0 k0) (hj : j < m) (hx : x < n) (h : PS2 n m mv a b k0 l0 (I 64) fl P) (kk : Int32 → MI → ML → Option (Int32 × Mm)) : ∃ f' I', f_X8_blockOf_49 v1 (nI j) (nI x) kk FU (b2i fl) 0 I L = kk (b2i f') I' L ∧ Fr [64] I I' ∧ PS2 n m mv a b k0 l0 (I' 64) f' (P ∧ ∀ y, y < x → l0 x = l0 y → l0 (mv j x) = l0 (mv j y)) := by
  have hn := hO.1
  have hm := hO.2.1
  have hP := hO.2.2.1 j hj
  have hgx := hP.1 x hx
  have := loop0 (fun fu (z : Int32 × Int32 × MI × ML) => f_X8_blockOf_49 v1 (nI j) (nI x) kk fu z.1 z.2.1 z.2.2.1 z.2.2.2) (fun y z => y ≤ x ∧ z.2.1 = nI y ∧ z.2.2.2 = L ∧ Fr [64] I z.2.2.1 ∧ ∃ f', z.1 = b2i f' ∧ PS2 n m mv a b k0 l0 (z.2.2.1 64) f' (P ∧ ∀ y', y' < y → l0 x = l0 y' → l0 (mv j x) = l0 (mv j y'))) (fun o => ∃ f' I', o = kk (b2i f') I' L ∧ Fr [64] I I' ∧ PS2 n m mv a b k0 l0 (I' 64) f' (P ∧ ∀ y, y < x → l0 x = l0 y → l0 (mv j x) = l0 (mv j y))) x (by omega) (b2i fl, nI 0, I, L) ⟨Nat.zero_le _, rfl, rfl, Fr.refl, fl, rfl, PS2_keep h (fun _ g => ⟨g, fun y hy => by omega⟩)⟩
    (fun fu y z hy hP2 => by
      obtain ⟨z1, z2, K, M⟩ := z
      obtain ⟨_, p1, p2, p3, f', p4, p5⟩ := hP2
      dsimp only at p1 p2 p3 p4 p5 ⊢
      subst p1 p2 p4
      have hNK := hN.fr (I' := K) (p3 44 (by decide))
      rw [f_X8_blockOf_49, ifc (q_le (by omega) (by omega))]
      by_cases c1 : x ≤ y
      · left
        have ey : y = x := by omega
        subst ey
        rw [if_pos c1]
        exact ⟨f', K, rfl, p3, p5⟩
      · right
        have hyn : y < n := by omega
        have hgy := hP.1 y hyn
        have ad : ∀ t, ((11 : Int32) + 10 * nI j) + nI t = nI (11 + 10 * j + t) := fun t => by rw [show (11 : Int32) = nI 11 from rfl, show (10 : Int32) = nI 10 from rfl, pk_mul, nI_add, nI_add]
        rw [if_neg c1, q_chk (by omega) (by decide), q_chk (by omega) (by decide), q_ix (by omega), q_ix (by omega)]
        by_cases c2 : K 64 x = K 64 y
        · obtain ⟨c, hc⟩ := em_B (K 64 (mv j x) ≠ K 64 (mv j y))
          obtain ⟨K1, r1, r2, r3⟩ := joins_eq (I := K) (L := M) (u := mv j x) (v := mv j y) (by omega) (by omega) hc
          have hor : b2i f' ||| b2i c = b2i (f' || c) := by cases f' <;> cases c <;> decide
          refine ⟨by omega, (b2i (f' || c), nI (y + 1), K1, M), ?_, by omega, rfl, rfl, p3.trans r3, f' || c, rfl, ?_⟩
          · rw [if_pos c2, ad, q_chk (by omega) (by decide), ad, q_chk (by omega) (by decide), q_ix (by omega), q_ix (by omega), hNK.2.2.1 j hj x (by omega), hNK.2.2.1 j hj y (by omega), ob r1]
            dsimp only
            rw [bnd_eq, bnd_eq, hor, nI_1]
          · dsimp only
            cases c
            · have heq : K 64 (mv j x) = K 64 (mv j y) := Classical.byContradiction fun g => absurd (hc.mpr g) (by decide)
              rw [Bool.or_false]
              refine PS2_cg ha hb (fun t ht => ?_) (PS2_keep p5 (fun hl ⟨g1, g2⟩ => ⟨g1, fun y' hy' e => ?_⟩))
              · rw [r2 t (by omega)]
                by_cases g : K 64 t = K 64 (mv j y)
                · rw [if_pos g, g, heq]
                · rw [if_neg g]
              · by_cases e1 : y' = y
                · rw [e1]; exact ((hl _ hgx).symm.trans heq).trans (hl _ hgy)
                · exact g2 y' (by omega) e
            · rw [Bool.or_true]
              exact PS2_join ha hb hk0 p5 hgy hgx (Blk_s (Blk_m hj (p5.1.2 x y hx hyn c2))) (fun g => hc.mp rfl g.symm) (fun t ht => r2 t (by omega))
        · refine ⟨by omega, (b2i f', nI (y + 1), K, M), ?_, by omega, rfl, rfl, p3, f', rfl, PS2_keep p5 (fun hl ⟨g1, g2⟩ => ⟨g1, fun y' hy' e => ?_⟩)⟩
          · rw [if_neg c2, bnd_eq, nI_1]
          · by_cases e1 : y' = y
            · subst e1; exact absurd ((hl x hx).trans (e.trans (hl y' hyn).symm)) c2
            · exact g2 y' (by omega) e)
  rw [nI_0] at this
  exact this
theorem r37 {a b k0 j : Nat} {l0 : Nat → Int32} {fl : Bool} {P : Prop} {v1 : Int32} (hO : OKm n m mv st) (h43 : I 43 2 = nI n) (hN : Nw I m mv st) (ha : a < n) (hb : b < n) (hk0 : NL n l0 k0) (hj : j < m) (h : PS2 n m mv a b k0 l0 (I 64) fl P) (kk : Int32 → MI → ML → Option (Int32 × Mm)) : ∃ f' I', f_X8_blockOf_37 v1 (nI j) kk FU (b2i fl) 0 I L = kk (b2i f') I' L ∧ Fr [64] I I' ∧ PS2 n m mv a b k0 l0 (I' 64) f' (P ∧ ∀ x y, x < n → y < n → l0 x = l0 y → l0 (mv j x) = l0 (mv j y)) := by
  have hn := hO.1
  have := loop0 (fun fu (z : Int32 × Int32 × MI × ML) => f_X8_blockOf_37 v1 (nI j) kk fu z.1 z.2.1 z.2.2.1 z.2.2.2) (fun x z => x ≤ n ∧ z.2.1 = nI x ∧ z.2.2.2 = L ∧ Fr [64] I z.2.2.1 ∧ ∃ f', z.1 = b2i f' ∧ PS2 n m mv a b k0 l0 (z.2.2.1 64) f' (P ∧ ∀ x' y, x' < x → y < x' → l0 x' = l0 y → l0 (mv j x') = l0 (mv j y))) (fun o => ∃ f' I', o = kk (b2i f') I' L ∧ Fr [64] I I' ∧ PS2 n m mv a b k0 l0 (I' 64) f' (P ∧ ∀ x y, x < n → y < n → l0 x = l0 y → l0 (mv j x) = l0 (mv j y))) n (by omega) (b2i fl, nI 0, I, L) ⟨Nat.zero_le _, rfl, rfl, Fr.refl, fl, rfl, PS2_keep h (fun _ g => ⟨g, fun x y hx => by omega⟩)⟩
    (fun fu x z hx hP2 => by
      obtain ⟨z1, z2, K, M⟩ := z
      obtain ⟨_, p1, p2, p3, f', p4, p5⟩ := hP2
      dsimp only at p1 p2 p3 p4 p5 ⊢
      subst p1 p2 p4
      have e43 : K 43 2 = nI n := by rw [p3 43 (by decide)]; exact h43
      rw [f_X8_blockOf_37, e43, ifc (q_le (by omega) (by omega))]
      by_cases c1 : n ≤ x
      · left
        rw [if_pos c1]
        refine ⟨f', K, rfl, p3, PS2_keep p5 (fun _ ⟨g1, g2⟩ => ⟨g1, fun x' y hx' hy e => ?_⟩)⟩
        rcases Nat.lt_trichotomy x' y with k | k | k
        · exact (g2 y x' (by omega) k e.symm).symm
        · rw [k]
        · exact g2 x' y (by omega) k e
      · right
        rw [if_neg c1]
        generalize hk1 : (fun (v3_30 : Int32) (I_31 : MI) (L_32 : ML) => bnd (nI x + 1 : Int32) (fun v5_33 => f_X8_blockOf_37 v1 (nI j) kk fu v3_30 v5_33 I_31 L_32)) = k1
        obtain ⟨f2, K1, g1, g2, g3⟩ := r49 (I := K) (L := M) (v1 := v1) hO (hN.fr (p3 44 (by decide))) ha hb hk0 hj (show x < n by omega) p5 k1
        refine ⟨by omega, (b2i f2, nI (x + 1), K1, M), ?_, by omega, rfl, rfl, p3.trans g2, f2, rfl, PS2_keep g3 (fun _ ⟨⟨q0, q1⟩, q2⟩ => ⟨q0, fun x' y hx' hy e => ?_⟩)⟩
        · rw [g1, ← hk1]
          dsimp only
          rw [bnd_eq, nI_1]
        · by_cases e1 : x' = x
          · subst e1; exact q2 y hy e
          · exact q1 x' y (by omega) hy e)
  rw [nI_0] at this
  exact this
theorem r25 {a b k0 : Nat} {v1 : Int32} (hO : OKm n m mv st) (h43 : I 43 2 = nI n) (hN : Nw I m mv st) (ha : a < n) (hb : b < n) (hk0 : NL n (I 64) k0) (h : LB n m mv a b (I 64)) (kk : Int32 → MI → ML → Option (Int32 × Mm)) : ∃ f' I', f_X8_blockOf_25 v1 kk FU 0 0 I L = kk (b2i f') I' L ∧ Fr [64] I I' ∧ PS2 n m mv a b k0 (I 64) (I' 64) f' (∀ j x y, j < m → x < n → y < n → I 64 x = I 64 y → I 64 (mv j x) = I 64 (mv j y)) := by
  have hm := hO.2.1
  have := loop0 (fun fu (z : Int32 × Int32 × MI × ML) => f_X8_blockOf_25 v1 kk fu z.1 z.2.1 z.2.2.1 z.2.2.2) (fun j z => j ≤ m ∧ z.2.1 = nI j ∧ z.2.2.2 = L ∧ Fr [64] I z.2.2.1 ∧ ∃ f', z.1 = b2i f' ∧ PS2 n m mv a b k0 (I 64) (z.2.2.1 64) f' (∀ i x y, i < j → x < n → y < n → I 64 x = I 64 y → I 64 (mv i x) = I 64 (mv i y))) (fun o => ∃ f' I', o = kk (b2i f') I' L ∧ Fr [64] I I' ∧ PS2 n m mv a b k0 (I 64) (I' 64) f' (∀ j x y, j < m → x < n → y < n → I 64 x = I 64 y → I 64 (mv j x) = I 64 (mv j y))) m (by omega) (0, nI 0, I, L) ⟨Nat.zero_le _, rfl, rfl, Fr.refl, false, rfl, ⟨h, Or.inl ⟨rfl, fun _ _ => rfl, fun i x y hi => by omega⟩⟩⟩
    (fun fu j z hj hP2 => by
      obtain ⟨z1, z2, K, M⟩ := z
      obtain ⟨_, p1, p2, p3, f', p4, p5⟩ := hP2
      dsimp only at p1 p2 p3 p4 p5 ⊢
      subst p1 p2 p4
      have hNK := hN.fr (I' := K) (p3 44 (by decide))
      rw [f_X8_blockOf_25, ob (moves_eq hNK), ifc (q_le (by omega) (by omega))]
      by_cases c1 : m ≤ j
      · left
        rw [if_pos c1]
        exact ⟨f', K, rfl, p3, PS2_keep p5 (fun _ g i x y hi => g i x y (by omega))⟩
      · right
        rw [if_neg c1]
        generalize hk1 : (fun (v3_34 : Int32) (I_35 : MI) (L_36 : ML) => bnd (nI j + 1 : Int32) (fun v4_37 => f_X8_blockOf_25 v1 kk fu v3_34 v4_37 I_35 L_36)) = k1
        obtain ⟨f2, K1, g1, g2, g3⟩ := r37 (I := K) (L := M) (v1 := v1) hO (by rw [p3 43 (by decide)]; exact h43) hNK ha hb hk0 (show j < m by omega) p5 k1
        refine ⟨by omega, (b2i f2, nI (j + 1), K1, M), ?_, by omega, rfl, rfl, p3.trans g2, f2, rfl, PS2_keep g3 (fun _ ⟨q1, q2⟩ i x y hi hx hy e => ?_)⟩
        · rw [g1, ← hk1]
          dsimp only
          rw [bnd_eq, nI_1]
        · by_cases e1 : i = j
          · subst e1; exact q2 x y hx hy e
          · exact q1 i x y (by omega) hx hy e)
  rw [nI_0] at this
  exact this
theorem r16 {a b k0 : Nat} {v1 : Int32} (hO : OKm n m mv st) (h43 : I 43 2 = nI n) (hN : Nw I m mv st) (ha : a < n) (hb : b < n) (hk0 : NL n (I 64) k0) (hkn : k0 < n) (h : LB n m mv a b (I 64)) (kk : MI → ML → Option (Int32 × Mm)) : ∃ I', f_X8_blockOf_16 v1 kk FU 1 I L = kk I' L ∧ Fr [64] I I' ∧ ∀ x y, x < n → y < n → (I' 64 x = I' 64 y ↔ Blk m mv a b x y) := by
  have hn := hO.1
  exact loop0 (fun fu (z : Int32 × MI × ML) => f_X8_blockOf_16 v1 kk fu z.1 z.2.1 z.2.2) (fun r z => r ≤ 10 ∧ z.2.2 = L ∧ Fr [64] I z.2.1 ∧ LB n m mv a b (z.2.1 64) ∧ ((z.1 = 1 ∧ ∃ k, NL n (z.2.1 64) k ∧ k + r < n) ∨ (z.1 = 0 ∧ ∀ j x y, j < m → x < n → y < n → z.2.1 64 x = z.2.1 64 y → z.2.1 64 (mv j x) = z.2.1 64 (mv j y)))) (fun o => ∃ I', o = kk I' L ∧ Fr [64] I I' ∧ ∀ x y, x < n → y < n → (I' 64 x = I' 64 y ↔ Blk m mv a b x y)) 10 (by decide) (1, I, L) ⟨by decide, rfl, Fr.refl, h, Or.inl ⟨rfl, k0, hk0, by omega⟩⟩
    (fun fu r z hr hP => by
      obtain ⟨z1, K, M⟩ := z
      obtain ⟨_, p2, p3, p4, p5⟩ := hP
      dsimp only at p2 p3 p4 p5 ⊢
      subst p2
      rw [f_X8_blockOf_16]
      rcases p5 with ⟨w1, k, w2, w3⟩ | ⟨w1, w2⟩
      · right
        subst w1
        refine ⟨by omega, ?_⟩
        rw [if_neg (by decide)]
        generalize hk1 : (fun (v3_38 : Int32) (I_39 : MI) (L_40 : ML) => f_X8_blockOf_16 v1 kk fu v3_38 I_39 L_40) = k1
        obtain ⟨f', K1, g1, g2, g3⟩ := r25 (I := K) (L := M) (v1 := v1) hO (by rw [p3 43 (by decide)]; exact h43) (hN.fr (p3 44 (by decide))) ha hb w2 p4 k1
        refine ⟨(b2i f', K1, M), ?_, by omega, rfl, p3.trans g2, g3.1, ?_⟩
        · rw [g1, ← hk1]
        · dsimp only
          rcases g3.2 with ⟨u1, u2, u3⟩ | ⟨u1, k2, u2, u3⟩
          · subst u1
            refine Or.inr ⟨rfl, fun j x y hj hx hy e => ?_⟩
            have := u3 j x y hj hx hy ((u2 x hx).symm.trans (e.trans (u2 y hy)))
            rw [u2 _ ((hO.2.2.1 j hj).1 x hx), u2 _ ((hO.2.2.1 j hj).1 y hy)]
            exact this
          · subst u1
            exact Or.inl ⟨rfl, k2, u2, by omega⟩
      · left
        rw [if_pos w1]
        exact ⟨K, rfl, p3, LB_end hO.2.2.1 ha hb p4 w2⟩)
end BR
