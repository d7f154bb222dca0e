/-! Classes: both programs -/
section KJ
variable {n m N rm : Nat} {mv : Nat → Nat → Nat} {st : Nat → Nat} {I : MI} {L : ML} {e : Nat → Nat → Nat}
theorem SI_free {G : PS} {x w : Nat} {lab : Nat → Int32} (hn : n ≤ 10) (hG : Sub n G) (hw : w < 2 ^ 31) (h : SI N e G x w lab) (hx : x < N) (hl : lab x = -1) : ∀ y, y < N → Cj G (e x) (e y) → lab y = -1 := fun y hy hc => by
  rcases h.1 y hy with ⟨g, _⟩ | ⟨_, z, z1, z2⟩
  · exact g
  · rcases h.1 x hx with ⟨_, g⟩ | ⟨⟨k, k1, k2⟩, _⟩
    · exact absurd (Cj_t hn hG z2 (Cj_s hn hG hc)) (g z z1)
    · exact absurd (k2.symm.trans hl) (nI_nm1 (by omega))
theorem BK_0 {G : PS} {x : Nat} {l0 lab : Nat → Int32} {v : Int32} {q : Nat → Nat} (hG : Sub n G) (hx : x < N) (h0 : l0 x = -1) (hq : q 0 = x) (h1 : lab x = v) (h2 : ∀ y, y ≠ x → lab y = l0 y) : BK N e G x l0 v q 1 lab := by
  refine ⟨fun i hi => ?_, fun i j hi hj _ => by omega, fun y hy => ?_, 0, by decide, hq⟩
  · rw [show i = 0 by omega, hq]; exact ⟨hx, h1, h0, Cj_r hG _⟩
  · by_cases e1 : y = x
    · left; exact ⟨0, by decide, by rw [hq, e1]⟩
    · right; exact h2 y e1
theorem gk42 {nd h len0 x c : Nat} {l0 : Nat → Int32} {q0 : Nat → Nat} (hO : OKm n m mv st) (he : EL n (Gp n m mv) N e) (hL : Lst I L rm n N e) (h7 : ∀ i, i < m → L 7 i = tn n (mv i)) (hnd : nd < 64) (hnm : ∀ t, nd.testBit t = true → t < m) (h3 : I 69 3 = nI c) (hc : c < 2 ^ 31) (hl0 : ∀ y, y < N → Cj (Gp n m mv) (e x) (e y) → l0 y = -1) (hB : BK N e (Gp n m mv) x l0 (nI c) q0 len0 (I 71)) (hq : ∀ i, i < len0 → I 75 i = nI (q0 i)) (hh : h < len0) (k0 : Int32 → MI → Option Mm) :
    ∃ q len I', f_X4_gatherKin_42 rm 7 (nI nd) (nI h) L k0 FU (nI len0) 0 I = k0 (nI len) I' ∧ BK N e (Gp n m mv) x l0 (nI c) q len (I' 71) ∧ (∀ i, i < len → I' 75 i = nI (q i)) ∧ len0 ≤ len ∧ (∀ i, i < len0 → q i = q0 i) ∧ (∀ t, nd.testBit t = true → ∃ k, k < len ∧ e (q k) = cj (e (q0 h)) (mv t)) ∧ (∀ p, p ≠ 71 → p ≠ 75 → I' p = I p) := by
  have hn := hO.1
  have hm := hO.2.1
  have hG := Gp_Sub hn hO.2.2.1
  obtain ⟨l0', l1, l2, l3, l4, l5⟩ := id hL
  obtain ⟨y1, _, _, y4⟩ := hB.1 h hh
  have yP := EL_P hG he y1
  have := loop0 (fun fu (z : Int32 × Int32 × MI) => f_X4_gatherKin_42 rm 7 (nI nd) (nI h) L k0 fu z.1 z.2.1 z.2.2)
    (fun j z => j ≤ 6 ∧ z.2.1 = nI j ∧ ∃ q len, z.1 = nI len ∧ BK N e (Gp n m mv) x l0 (nI c) q len (z.2.2 71) ∧ (∀ i, i < len → z.2.2 75 i = nI (q i)) ∧ len0 ≤ len ∧ (∀ i, i < len0 → q i = q0 i) ∧ (∀ t, t < j → nd.testBit t = true → ∃ k, k < len ∧ e (q k) = cj (e (q0 h)) (mv t)) ∧ (∀ p, p ≠ 71 → p ≠ 75 → z.2.2 p = I p))
    (fun o => ∃ q len I', o = k0 (nI len) I' ∧ BK N e (Gp n m mv) x l0 (nI c) q len (I' 71) ∧ (∀ i, i < len → I' 75 i = nI (q i)) ∧ len0 ≤ len ∧ (∀ i, i < len0 → q i = q0 i) ∧ (∀ t, nd.testBit t = true → ∃ k, k < len ∧ e (q k) = cj (e (q0 h)) (mv t)) ∧ (∀ p, p ≠ 71 → p ≠ 75 → I' p = I p)) 6 (by decide) (nI len0, nI 0, I) ⟨by decide, rfl, q0, len0, rfl, hB, hq, Nat.le_refl _, fun _ _ => rfl, fun t ht => by omega, fun _ _ _ => rfl⟩
    (fun fu j z hj hP => by
      obtain ⟨z1, z2, K⟩ := z
      obtain ⟨_, p1, q, len, p2, p3, p4, p5, p6, p7, p8⟩ := hP
      dsimp only at p1 p2 p3 p4 p5 p6 p7 p8 ⊢
      subst p1 p2
      have hlen := BK_len p3
      rw [f_X4_gatherKin_42, show (6 : Int32) = nI 6 from rfl, ifc (q_le (by decide) (by omega))]
      by_cases c1 : 6 ≤ j
      · left
        rw [if_pos c1]
        exact ⟨q, len, K, rfl, p3, p4, p5, p6, fun t ht => p7 t (by have := hnm t ht; omega) ht, p8⟩
      · right
        refine ⟨by omega, ?_⟩
        rw [if_neg c1, ifc (q_bit0 (by omega) (by omega))]
        cases hbt : nd.testBit j
        · refine ⟨(nI len, nI (j + 1), K), ?_, by omega, rfl, q, len, rfl, p3, p4, p5, p6, fun t ht hb2 => ?_, p8⟩
          · rw [if_pos rfl, bnd_eq, nI_1]
          · by_cases e1 : t = j
            · subst e1; rw [hbt] at hb2; cases hb2
            · exact p7 t (by omega) hb2
        · have hjm := hnm j hbt
          have e75 : K 75 h = nI (q0 h) := by rw [p4 h (by omega), p6 h hh]
          have k69 : K 69 = I 69 := p8 69 (by decide) (by decide)
          have hLK : Lst K L rm n N e := by unfold Lst at hL ⊢; rw [k69]; exact hL
          obtain ⟨y, w1, w2⟩ := he.2.1 (cj (e (q0 h)) (mv j)) (Sub_cj hG (he.1 _ y1) (Gp_mv hjm))
          have fi := find_in hn hG he hLK w1
          rw [w2] at fi
          have hcy : Cj (Gp n m mv) (e x) (e y) := Cj_t hn hG y4 ⟨mv j, Gp_mv hjm, w2⟩
          rw [if_neg (by decide), q_chk (by omega) (by omega), q_ix (by omega), e75, q_chk (by omega) (by omega), q_chk (by omega) (by decide), q_ix (by omega), q_ix (by omega), l5 _ y1, h7 j hjm, k69, l2, ob (conjugate_eq hn yP (hO.2.2.1 j hjm)), ob fi, if_neg (Int32.not_lt.mpr (nI_pos' (by omega))), q_chk (by omega) (by omega), q_ix (by omega)]
          by_cases c2 : K 71 y = -1
          · have p3' := BK_add (lab' := up2 (up2 K 71 y (nI c)) 75 len (nI y) 71) p3 (nI_nm1 hc) w1 c2 hcy (q' := fun i => if i = len then y else q i) (if_pos rfl) (fun i hi => if_neg (by omega)) (by rw [up2_ne (by decide), up2_s]) (fun z hz => by rw [up2_ne (by decide), up2_n hz])
            have hlen2 := BK_len p3'
            refine ⟨(nI (len + 1), nI (j + 1), up2 (up2 K 71 y (nI c)) 75 len (nI y)), ?_, by omega, rfl, fun i => if i = len then y else q i, len + 1, rfl, p3', fun i hi => ?_, by omega, fun i hi => ?_, fun t ht hb2 => ?_, fun p h1 h2 => ?_⟩
            · rw [if_pos c2, l0', if_neg (by rw [q_le (by omega) (by omega)]; omega), q_chk (by omega) (by omega), bnd_eq, q_chk (by omega) (by omega), bnd_eq, bnd_eq, bnd_eq, nI_1, nI_1, q_ix (by omega), h3]
            · dsimp only
              by_cases e1 : i = len
              · rw [if_pos e1, e1, up2_s]
              · rw [if_neg e1, up2_n e1, up2_ne (by decide)]; exact p4 i (by omega)
            · dsimp only
              rw [if_neg (by omega)]; exact p6 i hi
            · dsimp only
              by_cases e1 : t = j
              · subst e1; exact ⟨len, by omega, by rw [if_pos rfl]; exact w2⟩
              · obtain ⟨k, k1, k2⟩ := p7 t (by omega) hb2
                exact ⟨k, by omega, by rw [if_neg (by omega)]; exact k2⟩
            · dsimp only
              rw [up2_ne h2, up2_ne h1]; exact p8 p h1 h2
          · obtain ⟨k, k1, k2⟩ := BK_in p3 w1 (hl0 y w1 hcy) c2
            refine ⟨(nI len, nI (j + 1), K), ?_, by omega, rfl, q, len, rfl, p3, p4, p5, p6, fun t ht hb2 => ?_, p8⟩
            · rw [if_neg c2, bnd_eq, nI_1]
            · by_cases e1 : t = j
              · subst e1; exact ⟨k, k1, by rw [k2]; exact w2⟩
              · exact p7 t (by omega) hb2)
  rw [nI_0] at this
  exact this
theorem gatherKin_eq {nd x c : Nat} (hO : OKm n m mv st) (he : EL n (Gp n m mv) N e) (hL : Lst I L rm n N e) (h7 : ∀ i, i < m → L 7 i = tn n (mv i)) (hnd : nd < 64) (hnm : ∀ t, nd.testBit t = true → t < m) (hgen : Gen n (MS mv nd m) = Gp n m mv) (h3 : I 69 3 = nI c) (hc : c < 2 ^ 31) (hx : x < N) (hl0 : ∀ y, y < N → Cj (Gp n m mv) (e x) (e y) → I 71 y = -1) : ∃ I', f_X4_gatherKin rm (nI x) 7 (nI nd) I L = some (I', L) ∧ (∀ y, y < N → Cj (Gp n m mv) (e x) (e y) → I' 71 y = nI c) ∧ (∀ y, y < N → ¬ Cj (Gp n m mv) (e x) (e y) → I' 71 y = I 71 y) ∧ (∀ p, p ≠ 71 → p ≠ 75 → I' p = I p) := by
  have hn := hO.1
  have hm := hO.2.1
  have hG := Gp_Sub hn hO.2.2.1
  obtain ⟨_, l1, l2, l3, l4, l5⟩ := id hL
  unfold f_X4_gatherKin
  rw [q_chk (by omega) (by omega), bnd_eq, show (0 : Int32) = nI 0 from rfl, q_chk (by omega) (by omega), bnd_eq, q_ix (by omega), q_ix (by omega), h3]
  have B0 : BK N e (Gp n m mv) x (I 71) (nI c) (fun _ => x) 1 (up2 (up2 I 71 x (nI c)) 75 0 (nI x) 71) := BK_0 hG hx (hl0 x hx (Cj_r hG _)) rfl (by rw [up2_ne (by decide), up2_s]) (fun y hy => by rw [up2_ne (by decide), up2_n hy])
  have := loop0 (fun fu (z : Int32 × Int32 × MI) => f_X4_gatherKin_23 rm 7 (nI nd) L fu z.1 z.2.1 z.2.2)
    (fun h z => h ≤ N ∧ z.2.1 = nI h ∧ ∃ q len, z.1 = nI len ∧ h ≤ len ∧ BK N e (Gp n m mv) x (I 71) (nI c) q len (z.2.2 71) ∧ (∀ i, i < len → z.2.2 75 i = nI (q i)) ∧ (∀ i, i < h → ∀ t, nd.testBit t = true → ∃ k, k < len ∧ e (q k) = cj (e (q i)) (mv t)) ∧ (∀ p, p ≠ 71 → p ≠ 75 → z.2.2 p = I p))
    (fun o => ∃ I', o = some (I', L) ∧ (∀ y, y < N → Cj (Gp n m mv) (e x) (e y) → I' 71 y = nI c) ∧ (∀ y, y < N → ¬ Cj (Gp n m mv) (e x) (e y) → I' 71 y = I 71 y) ∧ (∀ p, p ≠ 71 → p ≠ 75 → I' p = I p)) N (by omega) (nI 1, nI 0, up2 (up2 I 71 x (nI c)) 75 0 (nI x)) ⟨Nat.zero_le _, rfl, fun _ => x, 1, rfl, by decide, B0, fun i hi => by dsimp only; rw [show i = 0 by omega, up2_s], fun i hi => by omega, fun p h1 h2 => by dsimp only; rw [up2_ne h2, up2_ne h1]⟩
    (fun fu h z hh hP => by
      obtain ⟨z1, z2, K⟩ := z
      obtain ⟨_, p1, q, len, p2, p0, p3, p4, p5, p6⟩ := hP
      dsimp only at p1 p2 p3 p4 p5 p6 ⊢
      subst p1 p2
      have hlen := BK_len p3
      have k69 : K 69 = I 69 := p6 69 (by decide) (by decide)
      have fin : h = len → ∃ I', some (K, L) = some (I', L) ∧ (∀ y, y < N → Cj (Gp n m mv) (e x) (e y) → I' 71 y = nI c) ∧ (∀ y, y < N → ¬ Cj (Gp n m mv) (e x) (e y) → I' 71 y = I 71 y) ∧ (∀ p, p ≠ 71 → p ≠ 75 → I' p = I p) := fun g => by
        have := BK_end hn (MS_P hO.2.2.1 nd) hgen he hx p3 (fun i hi s ⟨t, t1, t2, t3⟩ => by subst t3; exact p5 i (by omega) t t2)
        exact ⟨K, rfl, this.1, this.2, p6⟩
      rw [f_X4_gatherKin_23, ifc (q_le (by omega) (by omega))]
      by_cases c1 : len ≤ h
      · left
        rw [if_pos c1]
        exact fin (by omega)
      · right
        have hLK : Lst K L rm n N e := by unfold Lst at hL ⊢; rw [k69]; exact hL
        rw [if_neg c1, k69, l1, if_neg (by rw [q_le (by omega) (by omega)]; omega)]
        generalize hk0 : (fun (v4_22 : Int32) (I_23 : MI) => bnd (nI h + 1 : Int32) (fun v5_24 => f_X4_gatherKin_23 rm 7 (nI nd) L fu v4_22 v5_24 I_23)) = k0
        obtain ⟨q', len', I', g1, g2, g3, g4, g5, g6, g7⟩ := gk42 hO he hLK h7 hnd hnm (by rw [k69]; exact h3) hc hl0 p3 p4 (show h < len by omega) k0
        refine ⟨by omega, (nI len', nI (h + 1), I'), ?_, by omega, rfl, q', len', rfl, by omega, g2, g3, fun i hi t ht => ?_, fun p h1 h2 => (g7 p h1 h2).trans (p6 p h1 h2)⟩
        · rw [g1, ← hk0]
          dsimp only
          rw [bnd_eq, nI_1]
        · by_cases e1 : i = h
          · rw [e1, g5 h (by omega)]; exact g6 t ht
          · obtain ⟨k, k1, k2⟩ := p5 i (by omega) t ht
            exact ⟨k, by omega, by rw [g5 k k1, g5 i (by omega)]; exact k2⟩)
  exact this
theorem sort38 {nd : Nat} {B : Nat → Bool} (hO : OKm n m mv st) (he : EL n (Gp n m mv) N e) (hL : Lst I L rm n N e) (h7 : ∀ i, i < m → L 7 i = tn n (mv i)) (hnd : nd < 64) (hnm : ∀ t, nd.testBit t = true → t < m) (hgen : Gen n (MS mv nd m) = Gp n m mv) (h3 : I 69 3 = 0) (hB : ∀ x, x < N → (B x = true ↔ ∀ y, y < x → ¬ Cj (Gp n m mv) (e y) (e x))) (h0 : ∀ x, x < N → I 71 x = -1) (k0 : MI → ML → Option Mm) : ∃ I', f_X4_sort_38 rm 7 (nI nd) k0 FU 0 I L = k0 I' L ∧ I' 69 3 = nI (cT B N) ∧ (∀ x y, x < N → y < N → (I' 71 x = I' 71 y ↔ Cj (Gp n m mv) (e x) (e y))) ∧ (∀ p, p ≠ 69 → p ≠ 71 → p ≠ 75 → I' p = I p) ∧ (∀ j, j ≠ 3 → I' 69 j = I 69 j) := by
  have hn := hO.1
  have hG := Gp_Sub hn hO.2.2.1
  obtain ⟨_, l1, l2, l3, l4, l5⟩ := id hL
  have := loop0 (fun fu (z : Int32 × MI × ML) => f_X4_sort_38 rm 7 (nI nd) k0 fu z.1 z.2.1 z.2.2)
    (fun x z => x ≤ N ∧ z.1 = nI x ∧ z.2.2 = L ∧ SI N e (Gp n m mv) x (cT B x) (z.2.1 71) ∧ z.2.1 69 3 = nI (cT B x) ∧ (∀ p, p ≠ 69 → p ≠ 71 → p ≠ 75 → z.2.1 p = I p) ∧ (∀ j, j ≠ 3 → z.2.1 69 j = I 69 j))
    (fun o => ∃ I', o = k0 I' L ∧ I' 69 3 = nI (cT B N) ∧ (∀ x y, x < N → y < N → (I' 71 x = I' 71 y ↔ Cj (Gp n m mv) (e x) (e y))) ∧ (∀ p, p ≠ 69 → p ≠ 71 → p ≠ 75 → I' p = I p) ∧ (∀ j, j ≠ 3 → I' 69 j = I 69 j)) N (by omega) (nI 0, I, L) ⟨Nat.zero_le _, rfl, rfl, SI_0 h0, h3, fun _ _ _ _ => rfl, fun _ _ => rfl⟩
    (fun fu x z hx hP => by
      obtain ⟨z1, K, M⟩ := z
      obtain ⟨_, p1, p2, p3, p4, p5, p6⟩ := hP
      dsimp only at p1 p2 p3 p4 p5 p6 ⊢
      subst p1 p2
      have hcx := cT_le B x
      rw [f_X4_sort_38, p6 1 (by decide), l1, ifc (q_le (by omega) (by omega))]
      by_cases c1 : N ≤ x
      · left
        have ex : x = N := by omega
        subst ex
        rw [if_pos c1]
        exact ⟨K, rfl, p4, SI_end hG (by omega) p3, p5, p6⟩
      · right
        rw [if_neg c1, q_chk (by omega) (by omega), q_ix (by omega)]
        have hb := SI_B (by omega) p3 (show x < N by omega) (hB x (by omega))
        by_cases c2 : K 71 x = -1
        · have hLK : Lst K M rm n N e := by
            obtain ⟨d1, d2, d3, d4⟩ := hL
            exact ⟨by rw [p6 0 (by decide)]; exact d1, by rw [p6 1 (by decide)]; exact d2, by rw [p6 11 (by decide)]; exact d3, d4⟩
          obtain ⟨I', g1, g2, g3, g4⟩ := gatherKin_eq hO he hLK h7 hnd hnm hgen p4 (by omega) (show x < N by omega) (SI_free hn hG (by omega) p3 (by omega) c2)
          have e1 : cT B (x + 1) = cT B x + 1 := cT_t (hb.mpr c2)
          have e3 : I' 69 3 = nI (cT B x) := by rw [g4 69 (by decide) (by decide)]; exact p4
          refine ⟨by omega, (nI (x + 1), up2 I' 69 3 (nI (cT B x + 1)), M), ?_, by omega, rfl, rfl, ?_, ?_, fun p h1 h2 h3 => ?_, fun j hj => ?_⟩
          · rw [if_pos c2, ob g1]
            dsimp only
            rw [bnd_eq, bnd_eq, e3, nI_1, nI_1]
          · dsimp only
            rw [e1, up2_ne (by decide)]
            exact SI_step hn hG p3 (Nat.le_refl _) (by omega) (by omega) c2 g2 g3
          · dsimp only
            rw [up2_s, e1]
          · dsimp only
            rw [up2_ne h1, g4 p h2 h3]; exact p5 p h1 h2 h3
          · dsimp only
            rw [up2_n hj, g4 69 (by decide) (by decide)]; exact p6 j hj
        · have e1 : cT B (x + 1) = cT B x := cT_f (by
            cases hbx : B x
            · rfl
            · exact absurd (hb.mp hbx) c2)
          refine ⟨by omega, (nI (x + 1), K, M), ?_, by omega, rfl, rfl, ?_, by dsimp only; rw [e1]; exact p4, p5, p6⟩
          · rw [if_neg c2, bnd_eq, nI_1]
          · dsimp only
            rw [e1]
            exact SI_skip hn hG p3 (Nat.le_refl _) (by omega) c2)
  rw [nI_0] at this
  exact this
theorem sort10 {a2 : Int32} (hL : Lst I L rm n N e) (k0 : MI → Option Mm) : ∃ I', f_X4_sort_10 rm 7 a2 L k0 FU 0 I = k0 I' ∧ (∀ x, x < N → I' 71 x = -1) ∧ (∀ p, p ≠ 71 → I' p = I p) := by
  obtain ⟨_, l1, l2, l3, l4, l5⟩ := id hL
  have := loop0 (fun fu (z : Int32 × MI) => f_X4_sort_10 rm 7 a2 L k0 fu z.1 z.2) (fun x z => x ≤ N ∧ z.1 = nI x ∧ (∀ y, y < x → z.2 71 y = -1) ∧ (∀ p, p ≠ 71 → z.2 p = I p)) (fun o => ∃ I', o = k0 I' ∧ (∀ x, x < N → I' 71 x = -1) ∧ (∀ p, p ≠ 71 → I' p = I p)) N (by omega) (nI 0, I) ⟨Nat.zero_le _, rfl, fun y hy => by omega, fun _ _ => rfl⟩
    (fun fu x z hx hP => by
      obtain ⟨z1, K⟩ := z
      obtain ⟨_, p1, p2, p3⟩ := hP
      dsimp only at p1 p2 p3 ⊢
      subst p1
      rw [f_X4_sort_10, p3 69 (by decide), l1, ifc (q_le (by omega) (by omega))]
      by_cases c1 : N ≤ x
      · left
        rw [if_pos c1]
        exact ⟨K, rfl, fun y hy => p2 y (by omega), p3⟩
      · right
        refine ⟨by omega, (nI (x + 1), up2 K 71 x (-1)), ?_, by omega, rfl, fun y hy => ?_, fun p hp => ?_⟩
        · rw [if_neg c1, q_chk (by omega) (by omega), bnd_eq, bnd_eq, q_ix (by omega), nI_1]
        · dsimp only
          by_cases e1 : y = x
          · rw [e1, up2_s]
          · rw [up2_n e1]; exact p2 y (by omega)
        · dsimp only
          rw [up2_ne hp]; exact p3 p hp)
  rw [nI_0] at this
  exact this
theorem sorted_eq (hO : OKm n m mv st) (hC : CI I L rm n m mv st) (he : EL n (Gp n m mv) N e) (hN : N ≤ 5040) : ∃ I1 L1 rm1, f_X2_sorted rm I L = some ((I1, L1), rm1) ∧ GD rm I L n m mv st N e I1 L1 rm1 ∧ Srt I1 (Gp n m mv) N e := by
  obtain ⟨I1, L1, rm1, a1, a2⟩ := all_eq hO hC he hN
  obtain ⟨b1, b2, b3, b4, b5, b6, b7, b8, b9, b10⟩ := id a2
  obtain ⟨nd, n1, n2, n3, n4⟩ := id b4.2.2.2.2.2.1
  unfold f_X2_sorted
  rw [ob a1]
  dsimp only
  rw [a2.kA, a2.kB, n1]
  rcases b9 with g | ⟨g1, g2⟩
  · obtain ⟨B, hB⟩ := dec_ex (fun x => ∀ y, y < x → ¬ Cj (Gp n m mv) (e y) (e x))
    have key : ∃ I2, f_X4_sort rm1 7 (nI nd) I1 L1 = some (I2, L1) ∧ I2 69 14 = 1 ∧ Srt I2 (Gp n m mv) N e ∧ (∀ p, p ≠ 69 → p ≠ 71 → p ≠ 75 → I2 p = I1 p) ∧ (∀ j, j ≠ 3 → j ≠ 14 → I2 69 j = I1 69 j) := by
      unfold f_X4_sort
      rw [if_pos g]
      generalize hk0 : (fun (I_6 : MI) => bnd (up2 I_6 69 3 0) (fun I_7 => f_X4_sort_38 rm1 7 (nI nd) (fun (I_16 : MI) (L_17 : ML) => bnd (up2 I_16 69 14 1) (fun I_18 => some (I_18, L_17))) FU 0 I_7 L1)) = k0
      obtain ⟨K, c1, c2, c3⟩ := sort10 (a2 := nI nd) b5 k0
      have hLK : Lst (up2 K 69 3 0) L1 rm1 n N e := by
        obtain ⟨d1, d2, d3, d4⟩ := b5
        exact ⟨by rw [up2_n (by decide), c3 69 (by decide)]; exact d1, by rw [up2_n (by decide), c3 69 (by decide)]; exact d2, by rw [up2_n (by decide), c3 69 (by decide)]; exact d3, d4⟩
      obtain ⟨K2, e1, e2, e3, e4, e5⟩ := sort38 (I := up2 K 69 3 0) hO he hLK b4.2.2.1 n2 n3 n4 up2_s (fun x _ => hB x) (fun x hx => by rw [up2_ne (by decide)]; exact c2 x hx) (fun (I_16 : MI) (L_17 : ML) => bnd (up2 I_16 69 14 1) (fun I_18 => some (I_18, L_17)))
      refine ⟨up2 K2 69 14 1, ?_, up2_s, ⟨⟨B, fun x _ => hB x, by rw [up2_n (by decide)]; exact e2⟩, fun x y hx hy => by rw [up2_ne (by decide)]; exact e3 x y hx hy⟩, fun p h1 h2 h3 => by rw [up2_ne h1, e4 p h1 h2 h3, up2_ne h1, c3 p h2], fun j h1 h2 => by rw [up2_n h2, e5 j h1, up2_n h1, c3 69 (by decide)]⟩
      rw [c1, ← hk0]
      dsimp only
      rw [bnd_eq, e1]
      rfl
    obtain ⟨I2, k1, k2, k3, k4, k5⟩ := key
    rw [ob k1]
    have A2 : AF I L I2 L1 := b6.trans ⟨fun p hp _ => k4 p (by omega) (by omega) (by omega), fun j _ => by rw [k4 6 (by decide) (by decide) (by decide)], fun _ _ => rfl⟩
    have Ls2 : Lst I2 L1 rm1 n N e := by
      obtain ⟨d1, d2, d3, d4⟩ := b5
      exact ⟨by rw [k5 0 (by decide) (by decide)]; exact d1, by rw [k5 1 (by decide) (by decide)]; exact d2, by rw [k5 11 (by decide) (by decide)]; exact d3, d4⟩
    have e6 : I2 6 11 = 1 := by rw [k4 6 (by decide) (by decide) (by decide)]; exact b7
    have F2 : FL I2 L1 n m mv N e := by
      refine ⟨?_, Or.inr ⟨k2, k3⟩, ?_⟩
      · rw [k5 13 (by decide) (by decide)]
        exact b8.imp id (fun ⟨w1, w2⟩ => ⟨w1, w2.fr (k5 2 (by decide) (by decide)) (k5 12 (by decide) (by decide)) (k4 70 (by decide) (by decide) (by decide)) (k4 74 (by decide) (by decide) (by decide)) (fun s => k4 (77 + s) (by omega) (by omega) (by omega))⟩)
      · rw [k5 15 (by decide) (by decide)]; exact b10
    exact ⟨_, _, _, rfl, ⟨b1, b2, b3, CI_ros hC A2 ⟨b3, fun _ => Ls2.1, Or.inr ⟨e6, b2, N, e, he, Ls2, F2⟩⟩, Ls2, A2, e6, F2⟩, k3⟩
  · have : f_X4_sort rm1 7 (nI nd) I1 L1 = some (I1, L1) := by
      unfold f_X4_sort
      rw [if_neg (by rw [g1]; decide)]
    rw [ob this]
    exact ⟨_, _, _, rfl, a2, g2⟩
end KJ
