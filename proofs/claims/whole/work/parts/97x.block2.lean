/-! Blocks: the class -/
section BC
variable {n m rm : Nat} {mv : Nat → Nat → Nat} {st : Nat → Nat} {I : MI} {L : ML}
/-- one pass: nothing changed and all is kept, or there are fewer labels -/
def PS2 (n m : Nat) (mv : Nat → Nat → Nat) (a b k0 : Nat) (l0 lab : Nat → Int32) (fl : Bool) (P : Prop) : Prop := LB n m mv a b lab ∧ ((fl = false ∧ (∀ x, x < n → lab x = l0 x) ∧ P) ∨ (fl = true ∧ ∃ k, NL n lab k ∧ k < k0))
theorem PS2_join {a b k0 u v : Nat} {l0 lab lab' : Nat → Int32} {fl : Bool} {P Q : Prop} (ha : a < n) (hb : b < n) (hk0 : NL n l0 k0) (h : PS2 n m mv a b k0 l0 lab fl P) (hu : u < n) (hv : v < n) (hR : Blk m mv a b u v) (hne : lab u ≠ lab v) (hl : ∀ x, x < n → lab' x = if lab x = lab u then lab v else lab x) : PS2 n m mv a b k0 l0 lab' true Q := by
  obtain ⟨j1, j2, j3⟩ := LB_join h.1 ha hb hu hv hR hl
  refine ⟨j1, Or.inr ⟨rfl, ?_⟩⟩
  obtain ⟨k, hk⟩ := NL_ex n lab
  obtain ⟨k', hk'⟩ := NL_ex n lab'
  have h1 := NL_lt hk hk' j2 hu hv hne j3
  refine ⟨k', hk', ?_⟩
  rcases h.2 with ⟨_, g, _⟩ | ⟨_, k2, g1, g2⟩
  · have := NL_le hk0 hk (fun x y hx hy e => by rw [g x hx, g y hy]; exact e)
    omega
  · obtain ⟨B, hB, e1⟩ := g1
    have := NL_le ⟨B, hB, e1⟩ hk (fun x y _ _ e => e)
    omega
theorem PS2_keep {a b k0 : Nat} {l0 lab : Nat → Int32} {fl : Bool} {P Q : Prop} (h : PS2 n m mv a b k0 l0 lab fl P) (hPQ : (∀ x, x < n → lab x = l0 x) → P → Q) : PS2 n m mv a b k0 l0 lab fl Q := ⟨h.1, h.2.imp (fun ⟨g1, g2, g3⟩ => ⟨g1, g2, hPQ g2 g3⟩) id⟩
theorem replM {o w : Int32} (hn : n ≤ 10) (h6 : I 6 0 = nI n) : ∃ I', f_X2_replaceMark o w I L = some (I', L) ∧ (∀ x, x < n → I' 36 x = if I 36 x = o then w else I 36 x) ∧ (∀ p, p ≠ 36 → I' p = I p) := by
  unfold f_X2_replaceMark
  have := loop0 (fun fu (z : Int32 × MI) => f_X2_replaceMark_2 o w L fu z.1 z.2) (fun i z => i ≤ n ∧ z.1 = nI i ∧ (∀ x, x < i → z.2 36 x = if I 36 x = o then w else I 36 x) ∧ (∀ x, i ≤ x → z.2 36 x = I 36 x) ∧ (∀ p, p ≠ 36 → z.2 p = I p)) (fun r => ∃ I', r = some (I', L) ∧ (∀ x, x < n → I' 36 x = if I 36 x = o then w else I 36 x) ∧ (∀ p, p ≠ 36 → I' p = I p)) n (by omega) (nI 0, I) ⟨Nat.zero_le _, rfl, fun x hx => by omega, fun _ _ => rfl, fun _ _ => rfl⟩
    (fun fu i z hi hP => by
      obtain ⟨z1, K⟩ := z
      obtain ⟨_, p1, p2, p3, p4⟩ := hP
      dsimp only at p1 p2 p3 p4 ⊢
      subst p1
      rw [f_X2_replaceMark_2, p4 6 (by decide), h6, ifc (q_le (by omega) (by omega))]
      by_cases c1 : n ≤ i
      · left
        rw [if_pos c1]
        exact ⟨K, rfl, fun x hx => p2 x (by omega), p4⟩
      · right
        rw [if_neg c1, q_chk (by omega) (by decide), q_ix (by omega)]
        by_cases c2 : K 36 i = o
        · refine ⟨by omega, (nI (i + 1), up2 K 36 i w), ?_, by omega, rfl, fun x hx => ?_, fun x hx => ?_, fun p hp => ?_⟩
          · rw [if_pos c2, q_chk (by omega) (by decide), bnd_eq, bnd_eq, nI_1]
          · dsimp only
            by_cases e1 : x = i
            · rw [e1, up2_s, if_pos (by rw [← p3 i (Nat.le_refl _)]; exact c2)]
            · rw [up2_n e1]; exact p2 x (by omega)
          · dsimp only; rw [up2_n (by omega)]; exact p3 x (by omega)
          · dsimp only; rw [up2_ne hp]; exact p4 p hp
        · refine ⟨by omega, (nI (i + 1), K), ?_, by omega, rfl, fun x hx => ?_, fun x hx => p3 x (by omega), p4⟩
          · rw [if_neg c2, bnd_eq, nI_1]
          · dsimp only
            by_cases e1 : x = i
            · rw [e1, p3 i (Nat.le_refl _), if_neg (by rw [← p3 i (Nat.le_refl _)]; exact c2)]
            · exact p2 x (by omega))
  rw [nI_0] at this
  exact this
theorem sp17 {a b k0 x j : Nat} {l0 : Nat → Int32} {fl : Bool} {P : Prop} (hO : OKm n m mv st) (h6 : I 6 0 = nI n) (ha : a < n) (hb : b < n) (hk0 : NL n l0 k0) (hj : j < m) (hx : x < n) (h : PS2 n m mv a b k0 l0 (I 36) fl P) (kk : Int32 → MI → ML → Option (Bool × Mm)) : ∃ f' I', f_X2_spreadMarks_17 (tn n (mv j)) (nI x) kk FU (b2i fl) 0 I L = kk (b2i f') I' L ∧ (∀ p, p ≠ 36 → I' p = I p) ∧ PS2 n m mv a b k0 l0 (I' 36) f' (P ∧ ∀ y, y < x → l0 x = l0 y → l0 (mv j x) = l0 (mv j y)) := by
  have hn := hO.1
  have hP := hO.2.2.1 j hj
  have hgx := hP.1 x hx
  have := loop0 (fun fu (z : Int32 × Int32 × MI × ML) => f_X2_spreadMarks_17 (tn n (mv j)) (nI x) kk fu z.1 z.2.1 z.2.2.1 z.2.2.2) (fun y z => y ≤ x ∧ z.2.1 = nI y ∧ z.2.2.2 = L ∧ (∀ p, p ≠ 36 → z.2.2.1 p = I p) ∧ ∃ f', z.1 = b2i f' ∧ PS2 n m mv a b k0 l0 (z.2.2.1 36) f' (P ∧ ∀ y', y' < y → l0 x = l0 y' → l0 (mv j x) = l0 (mv j y'))) (fun o => ∃ f' I', o = kk (b2i f') I' L ∧ (∀ p, p ≠ 36 → I' p = I p) ∧ PS2 n m mv a b k0 l0 (I' 36) f' (P ∧ ∀ y, y < x → l0 x = l0 y → l0 (mv j x) = l0 (mv j y))) x (by omega) (b2i fl, nI 0, I, L) ⟨Nat.zero_le _, rfl, rfl, fun _ _ => rfl, fl, rfl, PS2_keep h (fun _ g => ⟨g, fun y hy => by omega⟩)⟩
    (fun fu y z hy hP2 => by
      obtain ⟨z1, z2, K, M⟩ := z
      obtain ⟨_, p1, p2, p3, f', p4, p5⟩ := hP2
      dsimp only at p1 p2 p3 p4 p5 ⊢
      subst p1 p2 p4
      rw [f_X2_spreadMarks_17, ifc (q_le (by omega) (by omega))]
      by_cases c1 : x ≤ y
      · left
        have ey : y = x := by omega
        subst ey
        rw [if_pos c1]
        exact ⟨f', K, rfl, p3, p5⟩
      · right
        have hyn : y < n := by omega
        have hgy := hP.1 y hyn
        rw [if_neg c1, ob (tn_img hn hP hx), q_chk (by omega) (by decide), bnd_eq, q_ix (by omega), ob (tn_img hn hP hyn), q_chk (by omega) (by decide), bnd_eq, q_ix (by omega), q_chk (by omega) (by decide), q_chk (by omega) (by decide), q_ix (by omega), q_ix (by omega)]
        by_cases c2 : K 36 x = K 36 y
        · rw [if_pos c2]
          by_cases c3 : K 36 (mv j x) = K 36 (mv j y)
          · refine ⟨by omega, (b2i f', nI (y + 1), K, M), ?_, by omega, rfl, rfl, p3, f', rfl, PS2_keep p5 (fun hl ⟨g1, g2⟩ => ⟨g1, fun y' hy' e => ?_⟩)⟩
            · rw [if_pos c3, bnd_eq, nI_1]
            · by_cases e1 : y' = y
              · rw [e1]; exact ((hl _ hgx).symm.trans c3).trans (hl _ hgy)
              · exact g2 y' (by omega) e
          · obtain ⟨K1, r1, r2, r3⟩ := replM (I := K) (L := M) (o := K 36 (mv j x)) (w := K 36 (mv j y)) hn (by rw [p3 6 (by decide)]; exact h6)
            refine ⟨by omega, (1, nI (y + 1), K1, M), ?_, by omega, rfl, rfl, fun p hp => (r3 p hp).trans (p3 p hp), true, rfl, PS2_join ha hb hk0 p5 hgx hgy (Blk_m hj (p5.1.2 x y hx hyn c2)) c3 r2⟩
            rw [if_neg c3, ob r1]
            dsimp only
            rw [bnd_eq, nI_1]
        · refine ⟨by omega, (b2i f', nI (y + 1), K, M), ?_, by omega, rfl, rfl, p3, f', rfl, PS2_keep p5 (fun hl ⟨g1, g2⟩ => ⟨g1, fun y' hy' e => ?_⟩)⟩
          · rw [if_neg c2, bnd_eq, nI_1]
          · by_cases e1 : y' = y
            · subst e1; exact absurd ((hl x hx).trans (e.trans (hl y' hyn).symm)) c2
            · exact g2 y' (by omega) e)
  rw [nI_0] at this
  exact this
theorem i2z_b (b : Bool) : isz (b2i b) = true ∧ i2z (b2i b) = b := by cases b <;> decide
theorem spread_eq {a b k0 j : Nat} (hO : OKm n m mv st) (h6 : I 6 0 = nI n) (ha : a < n) (hb : b < n) (hk0 : NL n (I 36) k0) (hj : j < m) (h : LB n m mv a b (I 36)) : ∃ f' I', f_X2_spreadMarks (tn n (mv j)) I L = some (f', I', L) ∧ (∀ p, p ≠ 36 → I' p = I p) ∧ PS2 n m mv a b k0 (I 36) (I' 36) f' (∀ x y, x < n → y < n → I 36 x = I 36 y → I 36 (mv j x) = I 36 (mv j y)) := by
  have hn := hO.1
  unfold f_X2_spreadMarks
  have := loop0 (fun fu (z : Int32 × Int32 × MI × ML) => f_X2_spreadMarks_5 (tn n (mv j)) fu z.1 z.2.1 z.2.2.1 z.2.2.2) (fun d z => d + 1 ≤ n ∧ z.2.1 = nI (d + 1) ∧ z.2.2.2 = L ∧ (∀ p, p ≠ 36 → z.2.2.1 p = I p) ∧ ∃ f', z.1 = b2i f' ∧ PS2 n m mv a b k0 (I 36) (z.2.2.1 36) f' (∀ x y, x < d + 1 → y < x → I 36 x = I 36 y → I 36 (mv j x) = I 36 (mv j y))) (fun o => ∃ f' I', o = some (f', I', L) ∧ (∀ p, p ≠ 36 → I' p = I p) ∧ PS2 n m mv a b k0 (I 36) (I' 36) f' (∀ x y, x < n → y < n → I 36 x = I 36 y → I 36 (mv j x) = I 36 (mv j y))) (n - 1) (by omega) (0, nI 1, I, L) ⟨by omega, rfl, rfl, fun _ _ => rfl, false, rfl, ⟨h, Or.inl ⟨rfl, fun _ _ => rfl, fun x y hx hy => by omega⟩⟩⟩
    (fun fu d z hd hP => by
      obtain ⟨z1, z2, K, M⟩ := z
      obtain ⟨p0, p1, p2, p3, f', p4, p5⟩ := hP
      dsimp only at p1 p2 p3 p4 p5 ⊢
      subst p1 p2 p4
      rw [f_X2_spreadMarks_5, p3 6 (by decide), h6, ifc (q_le (by omega) (by omega))]
      by_cases c1 : n ≤ d + 1
      · left
        have ed : d + 1 = n := by omega
        rw [if_pos c1, chk_pos (i2z_b f').1, (i2z_b f').2]
        refine ⟨f', K, rfl, p3, PS2_keep p5 (fun _ g x y hx hy e => ?_)⟩
        rcases Nat.lt_trichotomy x y with k | k | k
        · exact (g y x (by omega) k e.symm).symm
        · rw [k]
        · exact g x y (by omega) k e
      · right
        rw [if_neg c1]
        generalize hk1 : (fun (v3_20 : Int32) (I_21 : MI) (L_22 : ML) => bnd (nI (d + 1) + 1 : Int32) (fun v4_23 => f_X2_spreadMarks_5 (tn n (mv j)) fu v3_20 v4_23 I_21 L_22)) = k1
        obtain ⟨f2, K1, g1, g2, g3⟩ := sp17 (I := K) (L := M) hO (by rw [p3 6 (by decide)]; exact h6) ha hb hk0 hj (show d + 1 < n by omega) p5 k1
        refine ⟨by omega, (b2i f2, nI (d + 1 + 1), K1, M), ?_, by omega, rfl, rfl, fun p hp => (g2 p hp).trans (p3 p hp), f2, rfl, PS2_keep g3 (fun _ ⟨q1, q2⟩ x y hx hy e => ?_)⟩
        · rw [g1, ← hk1]
          dsimp only
          rw [bnd_eq, nI_1]
        · by_cases e1 : x = d + 1
          · subst e1; exact q2 y hy e
          · exact q1 x y (by omega) hy e)
  exact this
/-- a round over all moves -/
theorem b53 {a b k0 : Nat} {v1 v4 : Int32} (hO : OKm n m mv st) (h6 : I 6 0 = nI n) (h61 : I 6 1 = nI m) (h7 : ∀ i, i < m → L 7 i = tn n (mv i)) (ha : a < n) (hb : b < n) (hk0 : NL n (I 36) k0) (h : LB n m mv a b (I 36)) (kk : Int32 → MI → ML → Option (Int32 × Mm)) : ∃ f' I', f_X2_blockOf_53 v1 v4 kk FU 0 0 I L = kk (b2i f') I' L ∧ (∀ p, p ≠ 36 → I' p = I p) ∧ PS2 n m mv a b k0 (I 36) (I' 36) f' (∀ j x y, j < m → x < n → y < n → I 36 x = I 36 y → I 36 (mv j x) = I 36 (mv j y)) := by
  have hm := hO.2.1
  have := loop0 (fun fu (z : Int32 × Int32 × MI × ML) => f_X2_blockOf_53 v1 v4 kk fu z.1 z.2.1 z.2.2.1 z.2.2.2) (fun j z => j ≤ m ∧ z.2.1 = nI j ∧ z.2.2.2 = L ∧ (∀ p, p ≠ 36 → z.2.2.1 p = I p) ∧ ∃ f', z.1 = b2i f' ∧ PS2 n m mv a b k0 (I 36) (z.2.2.1 36) f' (∀ i x y, i < j → x < n → y < n → I 36 x = I 36 y → I 36 (mv i x) = I 36 (mv i y))) (fun o => ∃ f' I', o = kk (b2i f') I' L ∧ (∀ p, p ≠ 36 → I' p = I p) ∧ PS2 n m mv a b k0 (I 36) (I' 36) f' (∀ j x y, j < m → x < n → y < n → I 36 x = I 36 y → I 36 (mv j x) = I 36 (mv j y))) m (by omega) (0, nI 0, I, L) ⟨Nat.zero_le _, rfl, rfl, fun _ _ => rfl, false, rfl, ⟨h, Or.inl ⟨rfl, fun _ _ => rfl, fun i x y hi => by omega⟩⟩⟩
    (fun fu j z hj hP => by
      obtain ⟨z1, z2, K, M⟩ := z
      obtain ⟨_, p1, p2, p3, f', p4, p5⟩ := hP
      dsimp only at p1 p2 p3 p4 p5 ⊢
      subst p1 p2 p4
      rw [f_X2_blockOf_53, p3 6 (by decide), h61, ifc (q_le (by omega) (by omega))]
      by_cases c1 : m ≤ j
      · left
        rw [if_pos c1]
        exact ⟨f', K, rfl, p3, PS2_keep p5 (fun _ g i x y hi => g i x y (by omega))⟩
      · right
        obtain ⟨k1, hk1⟩ := NL_ex n (K 36)
        obtain ⟨f2, K1, g1, g2, g3⟩ := spread_eq (I := K) (L := M) hO (by rw [p3 6 (by decide)]; exact h6) ha hb hk1 (show j < m by omega) p5.1
        refine ⟨by omega, (b2i (f' || f2), nI (j + 1), K1, M), ?_, by omega, rfl, rfl, fun p hp => (g2 p hp).trans (p3 p hp), f' || f2, rfl, ⟨g3.1, ?_⟩⟩
        · rw [if_neg c1, q_chk (by omega) (by decide), q_ix (by omega), h7 j (by omega), ob g1]
          dsimp only
          cases f2 with
          | false => rw [if_pos (show b2i false = 0 from rfl), bnd_eq, nI_1, Bool.or_false]
          | true => rw [if_neg (show ¬ b2i true = 0 by decide), bnd_eq, nI_1, Bool.or_true]; rfl
        · dsimp only
          rcases p5.2 with ⟨w1, w2, w3⟩ | ⟨w1, k2, w2, w3⟩
          · subst w1
            rcases g3.2 with ⟨u1, u2, u3⟩ | ⟨u1, k3, u2, u3⟩
            · subst u1
              refine Or.inl ⟨rfl, fun x hx => (u2 x hx).trans (w2 x hx), fun i x y hi hx hy e => ?_⟩
              by_cases e1 : i = j
              · subst e1
                have := u3 x y hx hy ((w2 x hx).trans (e.trans (w2 y hy).symm))
                rw [w2 _ ((hO.2.2.1 i (by omega)).1 x hx), w2 _ ((hO.2.2.1 i (by omega)).1 y hy)] at this
                exact this
              · exact w3 i x y (by omega) hx hy e
            · subst u1
              refine Or.inr ⟨rfl, k3, u2, ?_⟩
              have := NL_le hk0 hk1 (fun x y hx hy e => by rw [w2 x hx, w2 y hy]; exact e)
              omega
          · subst w1
            refine Or.inr ⟨rfl, ?_⟩
            have hk12 : k1 ≤ k2 := NL_le w2 hk1 (fun x y _ _ e => e)
            rcases g3.2 with ⟨u1, u2, u3⟩ | ⟨u1, k3, u2, u3⟩
            · obtain ⟨k3, hk3⟩ := NL_ex n (K1 36)
              have := NL_le hk1 hk3 (fun x y hx hy e => by rw [u2 x hx, u2 y hy]; exact e)
              exact ⟨k3, hk3, by omega⟩
            · exact ⟨k3, u2, by omega⟩)
  rw [nI_0] at this
  exact this
theorem b37 {a b k0 : Nat} {v1 : Int32} (hO : OKm n m mv st) (h6 : I 6 0 = nI n) (h61 : I 6 1 = nI m) (h7 : ∀ i, i < m → L 7 i = tn n (mv i)) (ha : a < n) (hb : b < n) (hk0 : NL n (I 36) k0) (hkn : k0 < n) (h : LB n m mv a b (I 36)) (kk : MI → ML → Option (Int32 × Mm)) : ∃ I', f_X2_blockOf_37 v1 kk FU 1 0 I L = kk I' L ∧ (∀ p, p ≠ 36 → I' p = I p) ∧ ∀ x y, x < n → y < n → (I' 36 x = I' 36 y ↔ Blk m mv a b x y) := by
  have hn := hO.1
  have := loop0 (fun fu (z : Int32 × Int32 × MI × ML) => f_X2_blockOf_37 v1 kk fu z.1 z.2.1 z.2.2.1 z.2.2.2) (fun r z => r ≤ 10 ∧ z.2.1 = nI r ∧ z.2.2.2 = L ∧ (∀ p, p ≠ 36 → z.2.2.1 p = I p) ∧ LB n m mv a b (z.2.2.1 36) ∧ ((z.1 = 1 ∧ ∃ k, NL n (z.2.2.1 36) k ∧ k + r < n) ∨ (z.1 = 0 ∧ ∀ j x y, j < m → x < n → y < n → z.2.2.1 36 x = z.2.2.1 36 y → z.2.2.1 36 (mv j x) = z.2.2.1 36 (mv j y)))) (fun o => ∃ I', o = kk I' L ∧ (∀ p, p ≠ 36 → I' p = I p) ∧ ∀ x y, x < n → y < n → (I' 36 x = I' 36 y ↔ Blk m mv a b x y)) 10 (by decide) (1, nI 0, I, L) ⟨by decide, rfl, rfl, fun _ _ => rfl, h, Or.inl ⟨rfl, k0, hk0, by omega⟩⟩
    (fun fu r z hr hP => by
      obtain ⟨z1, z2, K, M⟩ := z
      obtain ⟨_, p1, p2, p3, p4, p5⟩ := hP
      dsimp only at p1 p2 p3 p4 p5 ⊢
      subst p1 p2
      rw [f_X2_blockOf_37, show (10 : Int32) = nI 10 from rfl, ifc (q_le (by decide) (by omega))]
      rcases p5 with ⟨w1, k, w2, w3⟩ | ⟨w1, w2⟩
      · right
        subst w1
        refine ⟨by omega, ?_⟩
        rw [if_neg (by omega), if_neg (by decide)]
        generalize hk1 : (fun (v3_24 : Int32) (I_25 : MI) (L_26 : ML) => bnd (nI r + 1 : Int32) (fun v4_27 => f_X2_blockOf_37 v1 kk fu v3_24 v4_27 I_25 L_26)) = k1
        obtain ⟨f', K1, g1, g2, g3⟩ := b53 (I := K) (L := M) (v1 := v1) (v4 := nI r) hO (by rw [p3 6 (by decide)]; exact h6) (by rw [p3 6 (by decide)]; exact h61) h7 ha hb w2 p4 k1
        refine ⟨(b2i f', nI (r + 1), K1, M), ?_, by omega, rfl, rfl, fun p hp => (g2 p hp).trans (p3 p hp), g3.1, ?_⟩
        · rw [g1, ← hk1]
          dsimp only
          rw [bnd_eq, nI_1]
        · dsimp only
          rcases g3.2 with ⟨u1, u2, u3⟩ | ⟨u1, k2, u2, u3⟩
          · subst u1
            refine Or.inr ⟨rfl, fun j x y hj hx hy e => ?_⟩
            have := u3 j x y hj hx hy ((u2 x hx).symm.trans (e.trans (u2 y hy)))
            rw [u2 _ ((hO.2.2.1 j hj).1 x hx), u2 _ ((hO.2.2.1 j hj).1 y hy)]
            exact this
          · subst u1
            exact Or.inl ⟨rfl, k2, u2, by omega⟩
      · left
        refine ⟨K, ?_, p3, LB_end hO.2.2.1 ha hb p4 w2⟩
        by_cases c : 10 ≤ r
        · rw [if_pos c]
        · rw [if_neg c, if_pos w1])
  rw [nI_0] at this
  exact this
end BC
