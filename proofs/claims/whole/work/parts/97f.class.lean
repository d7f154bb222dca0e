/-! Classes: the reference -/
section KR
variable {n m N rm : Nat} {mv : Nat → Nat → Nat} {st : Nat → Nat} {I : MI} {L : ML} {e : Nat → Nat → Nat}
abbrev KS : List Nat := [46, 47, 48, 49, 50, 57, 58, 59, 62, 63]
theorem lc26 {h len0 x : Nat} {l0 : Nat → Int32} {q0 : Nat → Nat} (hO : OKm n m mv st) (he : EL n (Gp n m mv) N e) (hN : N ≤ 5040) (hA : AD I n m mv st N e) (hx : x < N) (hl0 : ∀ y, y < N → Cj (Gp n m mv) (e x) (e y) → l0 y = -1) (hB : BK N e (Gp n m mv) x l0 (nI x) q0 len0 (I 63)) (hq : ∀ i, i < len0 → I 62 i = nI (q0 i)) (hh : h < len0) (k0 : Int32 → MI → ML → Option (Int32 × Mm)) :
    ∃ q len I', f_X8_laysClass_26 (nI x) (nI h) k0 FU (nI len0) 0 I L = k0 (nI len) I' L ∧ BK N e (Gp n m mv) x l0 (nI x) q len (I' 63) ∧ (∀ i, i < len → I' 62 i = nI (q i)) ∧ len0 ≤ len ∧ (∀ i, i < len0 → q i = q0 i) ∧ (∀ t, t < m → ∃ k, k < len ∧ e (q k) = cj (e (q0 h)) (mv t)) ∧ Fr KS I I' := by
  have hn := hO.1
  have hm := hO.2.1
  have hG := Gp_Sub hn hO.2.2.1
  obtain ⟨y1, _, _, y4⟩ := hB.1 h hh
  have yP := EL_P hG he y1
  have := loop0 (fun fu (z : Int32 × Int32 × MI × ML) => f_X8_laysClass_26 (nI x) (nI h) k0 fu z.1 z.2.1 z.2.2.1 z.2.2.2)
    (fun j z => j ≤ m ∧ z.2.1 = nI j ∧ z.2.2.2 = L ∧ ∃ q len, z.1 = nI len ∧ BK N e (Gp n m mv) x l0 (nI x) q len (z.2.2.1 63) ∧ (∀ i, i < len → z.2.2.1 62 i = nI (q i)) ∧ len0 ≤ len ∧ (∀ i, i < len0 → q i = q0 i) ∧ (∀ t, t < j → ∃ k, k < len ∧ e (q k) = cj (e (q0 h)) (mv t)) ∧ Fr KS I z.2.2.1)
    (fun o => ∃ q len I', o = k0 (nI len) I' L ∧ BK N e (Gp n m mv) x l0 (nI x) q len (I' 63) ∧ (∀ i, i < len → I' 62 i = nI (q i)) ∧ len0 ≤ len ∧ (∀ i, i < len0 → q i = q0 i) ∧ (∀ t, t < m → ∃ k, k < len ∧ e (q k) = cj (e (q0 h)) (mv t)) ∧ Fr KS I I') m (by omega) (nI len0, nI 0, I, L) ⟨Nat.zero_le _, rfl, rfl, q0, len0, rfl, hB, hq, Nat.le_refl _, fun _ _ => rfl, fun t ht => by omega, Fr.refl⟩
    (fun fu j z hj hP => by
      obtain ⟨z1, z2, K, M⟩ := z
      obtain ⟨_, p1, p9, q, len, p2, p3, p4, p5, p6, p7, p8⟩ := hP
      dsimp only at p1 p9 p2 p3 p4 p5 p6 p7 p8 ⊢
      subst p1 p2 p9
      have hlen := BK_len p3
      have A := hA.fr p8 (by decide)
      rw [f_X8_laysClass_26, ob (moves_eq A.1.2.1), ifc (q_le (by omega) (by omega))]
      by_cases c1 : m ≤ j
      · left
        rw [if_pos c1]
        exact ⟨q, len, K, rfl, p3, p4, p5, p6, fun t ht => p7 t (by omega), p8⟩
      · right
        have hjm : j < m := by omega
        have mP := hO.2.2.1 j hjm
        refine ⟨by omega, ?_⟩
        have e62 : K 62 h = nI (q0 h) := by rw [p4 h (by omega), p6 h hh]
        have f1 : Fr KS I (wp K 46 0 (e (q0 h))) := p8.trans (Fr_wp (by decide))
        have A1 := hA.fr f1 (by decide)
        have f2 : Fr KS I (wp (wp K 46 0 (e (q0 h))) 47 0 (mv j)) := f1.trans (Fr_wp (by decide))
        have tu := turns_eq (I := wp (wp K 46 0 (e (q0 h))) 47 0 (mv j)) (L := M) (a := 46) (b := 47) (c := 48) (IsP_mono yP hn) (IsP_mono mP hn) (Row_ne (by decide) Row_wp) Row_wp (by decide) (by decide) (by decide) (by decide) (by decide) (by decide)
        obtain ⟨y, w1, w2⟩ := he.2.1 (cj (e (q0 h)) (mv j)) (Sub_cj hG (he.1 _ y1) (Gp_mv hjm))
        generalize hJ : wp (wp (wp (wp (wp K 46 0 (e (q0 h))) 47 0 (mv j)) 49 0 (iv (mv j))) 50 0 (cp (iv (mv j)) (e (q0 h)))) 48 0 (cj (e (q0 h)) (mv j)) = J at tu
        have f3 : Fr KS I J := by rw [← hJ]; exact ((f2.trans (Fr_wp (by decide))).trans (Fr_wp (by decide))).trans (Fr_wp (by decide))
        have k62 : J 62 = K 62 := by rw [← hJ, wp_ne (by decide), wp_ne (by decide), wp_ne (by decide), wp_ne (by decide), wp_ne (by decide)]
        have k63 : J 63 = K 63 := by rw [← hJ, wp_ne (by decide), wp_ne (by decide), wp_ne (by decide), wp_ne (by decide), wp_ne (by decide)]
        have r48 : Row J 48 0 (e y) := by rw [← hJ, w2]; exact Row_wp
        have A3 := hA.fr f3 (by decide)
        obtain ⟨r, I2, g1, g2, g3⟩ := placeOf8_eq (L := M) (a := 48) hn hG (by decide) (EL_P hG he w1) A3.1.1 A3.1.2.2.1 r48 he
        have hr1 : r = nI y := by
          rcases g3 with ⟨y', v1, v2, v3⟩ | ⟨g, _⟩
          · rw [v3, EL_inj he v1 w1 v2]
          · exact absurd (he.1 _ w1) g
        subst hr1
        have f4 : Fr KS I I2 := f3.trans (g2.mono (by decide))
        have j62 : I2 62 = K 62 := (g2 62 (by decide)).trans k62
        have j63 : I2 63 = K 63 := (g2 63 (by decide)).trans k63
        have hcy : Cj (Gp n m mv) (e x) (e y) := Cj_t hn hG y4 ⟨mv j, Gp_mv hjm, w2⟩
        rw [if_neg c1, q_chk (by omega) (by decide), q_ix (by omega), e62, ob (laysOne_eq hN A.2.2 y1 (by decide)), ob (laysMove_eq A1.1.2.1 hjm (by decide)), ob tu, ob g1]
        dsimp only
        rw [bnd_eq, q_chk (by omega) (by decide), q_ix (by omega)]
        by_cases c2 : K 63 y = -1
        · have p3' := BK_add (lab' := up2 (up2 I2 63 y (nI x)) 62 len (nI y) 63) p3 (nI_nm1 (by omega)) w1 c2 hcy (q' := fun i => if i = len then y else q i) (if_pos rfl) (fun i hi => if_neg (by omega)) (by rw [up2_ne (by decide), up2_s]) (fun z hz => by rw [up2_ne (by decide), up2_n hz, j63])
          have hlen2 := BK_len p3'
          refine ⟨(nI (len + 1), nI (j + 1), up2 (up2 I2 63 y (nI x)) 62 len (nI y), M), ?_, by omega, rfl, rfl, fun i => if i = len then y else q i, len + 1, rfl, p3', fun i hi => ?_, by omega, fun i hi => ?_, fun t ht => ?_, fun p hp => ?_⟩
          · rw [if_pos (show I2 63 y = -1 by rw [j63]; exact c2), q_chk (by omega) (by decide), bnd_eq, q_chk (by omega) (by decide), bnd_eq, bnd_eq, bnd_eq, nI_1, nI_1, q_ix (by omega)]
          · dsimp only
            by_cases e1 : i = len
            · rw [if_pos e1, e1, up2_s]
            · rw [if_neg e1, up2_n e1, up2_ne (by decide), j62]; exact p4 i (by omega)
          · dsimp only
            rw [if_neg (by omega)]; exact p6 i hi
          · dsimp only
            by_cases e1 : t = j
            · subst e1; exact ⟨len, by omega, by rw [if_pos rfl]; exact w2⟩
            · obtain ⟨k, k1, k2⟩ := p7 t (by omega)
              exact ⟨k, by omega, by rw [if_neg (by omega)]; exact k2⟩
          · dsimp only
            rw [up2_ne (fun g => hp (by rw [g]; decide)), up2_ne (fun g => hp (by rw [g]; decide))]; exact f4 p hp
        · obtain ⟨k, k1, k2⟩ := BK_in p3 w1 (hl0 y w1 hcy) c2
          refine ⟨(nI len, nI (j + 1), I2, M), ?_, by omega, rfl, rfl, q, len, rfl, by dsimp only; rw [j63]; exact p3, fun i hi => by dsimp only; rw [j62]; exact p4 i hi, p5, p6, fun t ht => ?_, f4⟩
          · rw [if_neg (show ¬ I2 63 y = -1 by rw [j63]; exact c2), bnd_eq, nI_1]
          · by_cases e1 : t = j
            · subst e1; exact ⟨k, k1, by rw [k2]; exact w2⟩
            · exact p7 t (by omega))
  rw [nI_0] at this
  exact this
theorem tb_m (m : Nat) {t : Nat} (ht : t < m) : (2 ^ m - 1).testBit t = true := by
  rw [Nat.testBit_two_pow_sub_one]; exact decide_eq_true ht
theorem laysClass_eq {x : Nat} (hO : OKm n m mv st) (he : EL n (Gp n m mv) N e) (hN : N ≤ 5040) (hA : AD I n m mv st N e) (hx : x < N) (hl0 : ∀ y, y < N → Cj (Gp n m mv) (e x) (e y) → I 63 y = -1) : ∃ r I', f_X8_laysClass (nI x) I L = some (r, I', L) ∧ (∀ y, y < N → Cj (Gp n m mv) (e x) (e y) → I' 63 y = nI x) ∧ (∀ y, y < N → ¬ Cj (Gp n m mv) (e x) (e y) → I' 63 y = I 63 y) ∧ Fr KS I I' := by
  have hn := hO.1
  have hm := hO.2.1
  have hG := Gp_Sub hn hO.2.2.1
  unfold f_X8_laysClass
  rw [q_chk (by omega) (by decide), bnd_eq, show (0 : Int32) = nI 0 from rfl, q_chk (by omega) (by decide), bnd_eq, q_ix (by omega), q_ix (by omega)]
  have B0 : BK N e (Gp n m mv) x (I 63) (nI x) (fun _ => x) 1 (up2 (up2 I 63 x (nI x)) 62 0 (nI x) 63) := BK_0 hG hx (hl0 x hx (Cj_r hG _)) rfl (by rw [up2_ne (by decide), up2_s]) (fun y hy => by rw [up2_ne (by decide), up2_n hy])
  have := loop0 (fun fu (z : Int32 × Int32 × MI × ML) => f_X8_laysClass_18 (nI x) fu z.1 z.2.1 z.2.2.1 z.2.2.2)
    (fun h z => h ≤ N ∧ z.2.1 = nI h ∧ z.2.2.2 = L ∧ ∃ q len, z.1 = nI len ∧ h ≤ len ∧ BK N e (Gp n m mv) x (I 63) (nI x) q len (z.2.2.1 63) ∧ (∀ i, i < len → z.2.2.1 62 i = nI (q i)) ∧ (∀ i, i < h → ∀ t, t < m → ∃ k, k < len ∧ e (q k) = cj (e (q i)) (mv t)) ∧ Fr KS I z.2.2.1)
    (fun o => ∃ r I', o = some (r, I', L) ∧ (∀ y, y < N → Cj (Gp n m mv) (e x) (e y) → I' 63 y = nI x) ∧ (∀ y, y < N → ¬ Cj (Gp n m mv) (e x) (e y) → I' 63 y = I 63 y) ∧ Fr KS I I') N (by omega) (nI 1, nI 0, up2 (up2 I 63 x (nI x)) 62 0 (nI x), L) ⟨Nat.zero_le _, rfl, rfl, fun _ => x, 1, rfl, by decide, B0, fun i hi => by dsimp only; rw [show i = 0 by omega, up2_s], fun i hi => by omega, fun p hp => by dsimp only; rw [up2_ne (fun g => hp (by rw [g]; decide)), up2_ne (fun g => hp (by rw [g]; decide))]⟩
    (fun fu h z hh hP => by
      obtain ⟨z1, z2, K, M⟩ := z
      obtain ⟨_, p1, p9, q, len, p2, p0, p3, p4, p5, p6⟩ := hP
      dsimp only at p1 p9 p2 p3 p4 p5 p6 ⊢
      subst p1 p2 p9
      have hlen := BK_len p3
      rw [f_X8_laysClass_18, ifc (q_le (by omega) (by omega))]
      by_cases c1 : len ≤ h
      · left
        rw [if_pos c1]
        have := BK_end hn (MS_P hO.2.2.1 (2 ^ m - 1)) rfl he hx p3 (fun i hi s ⟨t, t1, t2, t3⟩ => by subst t3; exact p5 i (by omega) t t1)
        exact ⟨_, K, rfl, this.1, this.2, p6⟩
      · right
        rw [if_neg c1]
        generalize hk0 : (fun (v2_25 : Int32) (I_26 : MI) (L_27 : ML) => bnd (nI h + 1 : Int32) (fun v3_28 => f_X8_laysClass_18 (nI x) fu v2_25 v3_28 I_26 L_27)) = k0
        obtain ⟨q', len', I', g1, g2, g3, g4, g5, g6, g7⟩ := lc26 (L := M) hO he hN (hA.fr p6 (by decide)) hx hl0 p3 p4 (show h < len by omega) k0
        refine ⟨by omega, (nI len', nI (h + 1), I', M), ?_, by omega, rfl, rfl, q', len', rfl, by omega, g2, g3, fun i hi t ht => ?_, p6.trans g7⟩
        · rw [g1, ← hk0]
          dsimp only
          rw [bnd_eq, nI_1]
        · by_cases e1 : i = h
          · rw [e1, g5 h (by omega)]; exact g6 t ht
          · obtain ⟨k, k1, k2⟩ := p5 i (by omega) t ht
            exact ⟨k, by omega, by rw [g5 k k1, g5 i (by omega)]; exact k2⟩)
  exact this
theorem lcs31 {B : Nat → Bool} (hO : OKm n m mv st) (he : EL n (Gp n m mv) N e) (hN : N ≤ 5040) (hA : AD I n m mv st N e) (hB : ∀ x, x < N → (B x = true ↔ ∀ y, y < x → ¬ Cj (Gp n m mv) (e y) (e x))) (h0 : ∀ x, x < N → I 63 x = -1) : ∃ I', f_X8_laysClasses_31 FU 0 0 I L = some (nI (cT B N), I', L) ∧ (∀ x y, x < N → y < N → (I' 63 x = I' 63 y ↔ Cj (Gp n m mv) (e x) (e y))) ∧ Fr KS I I' := by
  have hn := hO.1
  have hG := Gp_Sub hn hO.2.2.1
  have := loop0 (fun fu (z : Int32 × Int32 × MI × ML) => f_X8_laysClasses_31 fu z.1 z.2.1 z.2.2.1 z.2.2.2)
    (fun x z => x ≤ N ∧ z.1 = nI (cT B x) ∧ z.2.1 = nI x ∧ z.2.2.2 = L ∧ SI N e (Gp n m mv) x x (z.2.2.1 63) ∧ Fr KS I z.2.2.1)
    (fun o => ∃ I', o = some (nI (cT B N), I', L) ∧ (∀ x y, x < N → y < N → (I' 63 x = I' 63 y ↔ Cj (Gp n m mv) (e x) (e y))) ∧ Fr KS I I') N (by omega) (nI 0, nI 0, I, L) ⟨Nat.zero_le _, rfl, rfl, rfl, SI_0 h0, Fr.refl⟩
    (fun fu x z hx hP => by
      obtain ⟨z1, z2, K, M⟩ := z
      obtain ⟨_, p1, p2, p3, p4, p5⟩ := hP
      dsimp only at p1 p2 p3 p4 p5 ⊢
      subst p1 p2 p3
      have A := hA.fr p5 (by decide)
      rw [f_X8_laysClasses_31, A.2.1, ifc (q_le (by omega) (by omega))]
      by_cases c1 : N ≤ x
      · left
        have ex : x = N := by omega
        subst ex
        rw [if_pos c1]
        exact ⟨K, rfl, SI_end hG (by omega) p4, p5⟩
      · right
        rw [if_neg c1, q_chk (by omega) (by decide), q_ix (by omega)]
        have hb := SI_B (by omega) p4 (show x < N by omega) (hB x (by omega))
        by_cases c2 : K 63 x = -1
        · obtain ⟨r, I', g1, g2, g3, g4⟩ := laysClass_eq (L := M) hO he hN A (show x < N by omega) (SI_free hn hG (by omega) p4 (by omega) c2)
          refine ⟨by omega, (nI (cT B (x + 1)), nI (x + 1), I', M), ?_, by omega, rfl, rfl, rfl, SI_step hn hG p4 (Nat.le_refl _) (by omega) (by omega) c2 g2 g3, p5.trans g4⟩
          rw [if_pos c2, ob g1]
          dsimp only
          rw [bnd_eq, bnd_eq, nI_1, nI_1, cT_t (hb.mpr c2)]
        · have e1 : cT B (x + 1) = cT B x := cT_f (by
            cases hbx : B x
            · rfl
            · exact absurd (hb.mp hbx) c2)
          refine ⟨by omega, (nI (cT B (x + 1)), nI (x + 1), K, M), ?_, by omega, rfl, rfl, rfl, SI_skip hn hG p4 (by omega) (by omega) c2, p5⟩
          rw [if_neg c2, bnd_eq, nI_1, e1])
  rw [nI_0] at this
  exact this
theorem laysClasses_eq {B : Nat → Bool} (hO : OKm n m mv st) (hR : RDY I n m mv st) (he : EL n (Gp n m mv) N e) (hN : N ≤ 5040) (hB : ∀ x, x < N → (B x = true ↔ ∀ y, y < x → ¬ Cj (Gp n m mv) (e y) (e x))) : ∃ I', f_X8_laysClasses I L = some (nI (cT B N), I', L) ∧ AD I' n m mv st N e ∧ (∀ x y, x < N → y < N → (I' 63 x = I' 63 y ↔ Cj (Gp n m mv) (e x) (e y))) ∧ Q8 I I' ∧ I' 43 0 = I 43 0 := by
  obtain ⟨I3, g1, g2, g3, g4⟩ := laysAll_eq (L := L) hO hR he hN
  unfold f_X8_laysClasses
  rw [ob g1]
  dsimp only
  generalize hk0 : (fun (I_6 : MI) => f_X8_laysClasses_31 FU 0 0 I_6 L) = k0
  have key : ∃ K, f_X8_laysClasses_6 L k0 FU 0 I3 = k0 K ∧ (∀ x, x < N → K 63 x = -1) ∧ Fr [63] I3 K := by
    have := loop0 (fun fu (z : Int32 × MI) => f_X8_laysClasses_6 L k0 fu z.1 z.2) (fun x z => x ≤ N ∧ z.1 = nI x ∧ (∀ y, y < x → z.2 63 y = -1) ∧ Fr [63] I3 z.2) (fun o => ∃ K, o = k0 K ∧ (∀ x, x < N → K 63 x = -1) ∧ Fr [63] I3 K) N (by omega) (nI 0, I3) ⟨Nat.zero_le _, rfl, fun y hy => by omega, Fr.refl⟩
      (fun fu x z hx hP => by
        obtain ⟨z1, K⟩ := z
        obtain ⟨_, p1, p2, p3⟩ := hP
        dsimp only at p1 p2 p3 ⊢
        subst p1
        have A := g2.fr p3 (by decide)
        rw [f_X8_laysClasses_6, A.2.1, ifc (q_le (by omega) (by omega))]
        by_cases c1 : N ≤ x
        · left
          rw [if_pos c1]
          exact ⟨K, rfl, fun y hy => p2 y (by omega), p3⟩
        · right
          refine ⟨by omega, (nI (x + 1), up2 K 63 x (-1)), ?_, by omega, rfl, fun y hy => ?_, fun p hp => ?_⟩
          · rw [if_neg c1, q_chk (by omega) (by decide), bnd_eq, bnd_eq, q_ix (by omega), nI_1]
          · dsimp only
            by_cases e1 : y = x
            · rw [e1, up2_s]
            · rw [up2_n e1]; exact p2 y (by omega)
          · dsimp only
            rw [up2_ne (fun g => hp (by rw [g]; decide))]; exact p3 p hp)
    rw [nI_0] at this
    exact this
  obtain ⟨K, k1, k2, k3⟩ := key
  obtain ⟨I4, w1, w2, w3⟩ := lcs31 (L := L) hO he hN (g2.fr k3 (by decide)) hB k2
  refine ⟨I4, by rw [k1, ← hk0]; exact w1, (g2.fr k3 (by decide)).fr w3 (by decide), w2, ((Q8_l g3 g4).trans (Q8_fr k3 (by decide))).trans (Q8_fr w3 (by decide)), by rw [w3 43 (by decide), k3 43 (by decide), g4 0 (by decide) (by decide)]⟩
theorem countKin_eq {x : Nat} {B : Nat → Bool} (hL : Lst I L rm n N e) (hx : x < N) (hB : ∀ y, y < N → (B y = true ↔ I 71 y = I 71 x)) : f_X4_countKin rm (nI x) I L = some (nI (cT B N)) := by
  have l3 := hL.2.2.2.1
  have l4 := hL.2.2.2.2.1
  unfold f_X4_countKin
  have := for0 (fun fu z => f_X4_countKin_4 rm (nI x) I L fu z.1 z.2) (fun i => (nI (cT B i), nI i)) N (some (nI (cT B N))) (by omega)
    (fun fu => by
      dsimp only
      rw [f_X4_countKin_4, hL.2.1, if_pos (by rw [q_le (by omega) (by omega)]; omega)])
    (fun fu i hi => by
      dsimp only
      rw [f_X4_countKin_4, hL.2.1, if_neg (by rw [q_le (by omega) (by omega)]; omega), q_chk (by omega) (by omega), q_chk (by omega) (by omega), q_ix (by omega), q_ix (by omega)]
      cases c : B i
      · rw [if_neg (fun g => by rw [(hB i hi).mpr g] at c; cases c), bnd_eq, nI_1, cT_f c]
      · rw [if_pos ((hB i hi).mp c), bnd_eq, bnd_eq, nI_1, nI_1, cT_t c])
  rw [nI_0] at this
  exact this
theorem inClass_eq {x : Nat} {B : Nat → Bool} (hN : N ≤ 5040) (h24 : I 43 24 = nI N) (hx : x < N) (hB : ∀ y, y < N → (B y = true ↔ I 63 y = I 63 x)) : f_X8_inClass (nI x) I L = some (nI (cT B N)) := by
  unfold f_X8_inClass
  have := for0 (fun fu z => f_X8_inClass_4 (nI x) I L fu z.1 z.2) (fun i => (nI (cT B i), nI i)) N (some (nI (cT B N))) (by omega)
    (fun fu => by
      dsimp only
      rw [f_X8_inClass_4, h24, if_pos (by rw [q_le (by omega) (by omega)]; omega)])
    (fun fu i hi => by
      dsimp only
      rw [f_X8_inClass_4, h24, if_neg (by rw [q_le (by omega) (by omega)]; omega), q_chk (by omega) (by decide), q_chk (by omega) (by decide), q_ix (by omega), q_ix (by omega)]
      cases c : B i
      · rw [if_neg (fun g => by rw [(hB i hi).mpr g] at c; cases c), bnd_eq, bnd_eq, nI_1, show (0 : Int32) = nI 0 from rfl, nI_add, cT_f c]
        rfl
      · rw [if_pos ((hB i hi).mp c), bnd_eq, bnd_eq, nI_1, nI_1, cT_t c])
  rw [nI_0] at this
  exact this
theorem PR_28h : PR_28 Inv := by
  intro I L rm ⟨n, m, mv, st, h⟩
  obtain ⟨hO, hC, hR, hP, hT, hU, hF, hS⟩ := id h
  have hn := hO.1
  have hG := Gp_Sub hn hO.2.2.1
  obtain ⟨N, e, he⟩ := EL_ex hn hG
  have hu := hurdle_eq hO hC he
  rcases hz_3 n N with hz | hz | hz
  · obtain ⟨hN, hn0⟩ := hz_N hz
    rw [hz] at hu
    obtain ⟨I1, L1, rm1, a1, a2, ⟨B, a3, a4⟩, a5⟩ := sorted_eq hO hC he hN
    obtain ⟨J, b1, b2, b3, b4⟩ := wS0 (L := L1) hO (RDY_a (s := 0) a2 hR) he hz
    obtain ⟨I3, g1, g2, g3, g4, g5⟩ := laysClasses_eq (L := L1) hO (RDY_is (a := 0) b2.rdy) he hN a3
    refine ⟨nI (cT B N), up2 I1 0 6 0, L1, rm1, ?_, a2.1, I3, L1, ?_, IV_a h a2 ((b3.trans Q8_is).trans g4) g2.1.rdy (by rw [g5]; exact is8_0)⟩
    · simp (config := { decide := true }) only [f_X7_classes, hu, nI_0, a1, a2.kA, a2.kB, a4, obs, bnd_eq, is_0, is_1, is_2, is_3, is_4, is_5, is_6, is_9, tell_eq, refuse_eq, refuse8_eq, b2i_1, b2i_0, if_true, if_false, ↓reduceIte]
    · simp (config := { decide := true }) only [f_X8_classes, b1, g1, obs, bnd_eq, is_0, is_1, is_2, is_3, is_4, is_5, is_6, is_9, tell_eq, refuse_eq, refuse8_eq, b2i_1, b2i_0, if_true, if_false, ↓reduceIte]
  · rw [hz] at hu
    obtain ⟨I2, b1, b2, b3, b4⟩ := wS (L := L) hO (RDY_s (s := 5) hR) he hz
    refine ⟨-1, up2 I 0 6 5, L, rm, ?_, RS_r, is8 I2 5, L, ?_, IV_q h (b3.trans Q8_is) (RDY_is b2) is8_0⟩
    · simp (config := { decide := true }) only [f_X7_classes, hu, show nI 5 = 5 from rfl, obs, bnd_eq, is_0, is_1, is_2, is_3, is_4, is_5, is_6, is_9, tell_eq, refuse_eq, refuse8_eq, b2i_1, b2i_0, if_true, if_false, ↓reduceIte]
    · simp (config := { decide := true }) only [f_X8_classes, b1, show nI 5 = 5 from rfl, obs, bnd_eq, is_0, is_1, is_2, is_3, is_4, is_5, is_6, is_9, tell_eq, refuse_eq, refuse8_eq, b2i_1, b2i_0, if_true, if_false, ↓reduceIte]
  · rw [hz] at hu
    obtain ⟨I2, b1, b2, b3, b4⟩ := wS (L := L) hO (RDY_s (s := 3) hR) he hz
    refine ⟨-1, up2 I 0 6 3, L, rm, ?_, RS_r, is8 I2 3, L, ?_, IV_q h (b3.trans Q8_is) (RDY_is b2) is8_0⟩
    · simp (config := { decide := true }) only [f_X7_classes, hu, show nI 3 = 3 from rfl, obs, bnd_eq, is_0, is_1, is_2, is_3, is_4, is_5, is_6, is_9, tell_eq, refuse_eq, refuse8_eq, b2i_1, b2i_0, if_true, if_false, ↓reduceIte]
    · simp (config := { decide := true }) only [f_X8_classes, b1, show nI 3 = 3 from rfl, obs, bnd_eq, is_0, is_1, is_2, is_3, is_4, is_5, is_6, is_9, tell_eq, refuse_eq, refuse8_eq, b2i_1, b2i_0, if_true, if_false, ↓reduceIte]
theorem PR_29h : PR_29 Inv := by
  intro I L rm x ⟨n, m, mv, st, h⟩
  obtain ⟨hO, hC, hR, hP, hT, hU, hF, hS⟩ := id h
  have hn := hO.1
  have hG := Gp_Sub hn hO.2.2.1
  obtain ⟨N, e, he⟩ := EL_ex hn hG
  have hu := hurdle_eq hO hC he
  rcases rd hn x with ⟨p, hp, h0, e1, e2⟩ | ⟨e1, e2⟩
  · rcases hz_3 n N with hz | hz | hz
    · obtain ⟨hN, hn0⟩ := hz_N hz
      rw [hz] at hu
      obtain ⟨I1, L1, rm1, a1, a2, ⟨B, a3, a4⟩, a5⟩ := sorted_eq hO hC he hN
      obtain ⟨r, r1, r2⟩ := find_eq hn hG he a2.2.2.2.2.1 hp
      have ref : ∀ s : Int32, ∃ J r' I3, f_X8_lies x 46 (up2 I1 0 6 s) L1 = some (true, wp (up2 I1 0 6 s) 46 0 p, L1) ∧ f_X8_whySmall 0 (wp (up2 I1 0 6 s) 46 0 p) L1 = some (0, J, L1) ∧ f_X8_placeOf 46 (is8 J 0) L1 = some (r', I3, L1) ∧ BD I3 n m mv st ∧ Q8 (up2 I1 0 6 s) I3 ∧ I3 43 0 = 0 ∧ r' = r := fun s => by
        have hR1 := RDY_a (s := s) a2 hR
        have j3 : Fr [46] (up2 I1 0 6 s) (wp (up2 I1 0 6 s) 46 0 p) := Fr_wp (by decide)
        obtain ⟨J, b1, b2, b3, b4⟩ := wS0 (L := L1) hO (hR1.fr j3 (by decide)) he hz
        have B2 := BD_is (a := 0) b2
        obtain ⟨r', I3, c1, c2, c3⟩ := placeOf8_eq (L := L1) (a := 46) hn hG (by decide) hp B2.1 B2.2.2.1 (Row_is (by decide) (Row_of (b4 46 (by decide)) Row_wp)) he
        refine ⟨J, r', I3, e2 46 _ L1 (by decide) hR1.1, b1, c1, B2.fr c2 (by decide), (((Q8_fr j3 (by decide)).trans b3).trans Q8_is).trans (Q8_fr c2 (by decide)), by rw [c2 43 (by decide)]; exact is8_0, ?_⟩
        rcases r2 with ⟨i, i1, i2, i3⟩ | ⟨i1, i2⟩
        · rcases c3 with ⟨j, j1, j2, j3⟩ | ⟨j1, _⟩
          · rw [i3, j3, EL_inj he j1 i1 (j2.trans i2.symm)]
          · exact absurd (i2 ▸ he.1 i i1) j1
        · rcases c3 with ⟨j, j1, j2, j3⟩ | ⟨_, j2⟩
          · exact absurd (j2 ▸ he.1 j j1) i1
          · rw [i2, j2]
      rcases r2 with ⟨y, y1, y2, y3⟩ | ⟨_, y3⟩
      · subst y3
        obtain ⟨J, r', I3, v1, v2, v3, v4, v5, v6, v7⟩ := ref 0
        subst v7
        obtain ⟨I4, g1, g2, g3, g4, g5⟩ := laysClasses_eq (L := L1) hO v4.rdy he hN a3
        obtain ⟨D, hD⟩ := dec_ex (fun z => Cj (Gp n m mv) (e z) (e y))
        have ck := countKin_eq (B := D) a2.2.2.2.2.1 y1 (fun z hz => (hD z).trans (a5 z y hz y1).symm)
        have ic := inClass_eq (B := D) (L := L1) hN g2.2.1 y1 (fun z hz => (hD z).trans (g3 z y hz y1).symm)
        refine ⟨nI (cT D N), up2 I1 0 6 0, L1, rm1, ?_, a2.1, I4, L1, ?_, IV_a h a2 (v5.trans g4) g2.1.rdy (by rw [g5]; exact v6)⟩
        · simp (config := { decide := true }) only [f_X7_alike, read_eq hC.1 e1, cmp_tn hn hp, hu, nI_0, a1, a2.kA, a2.kB, r1, nI_pos' (show y < 2 ^ 31 by omega), ck, obs, bnd_eq, is_0, is_1, is_2, is_3, is_4, is_5, is_6, is_9, tell_eq, refuse_eq, refuse8_eq, b2i_1, b2i_0, if_true, if_false, ↓reduceIte]
        · simp (config := { decide := true }) only [f_X8_alike, v1, v2, v3, nI_nm1 (show y < 2 ^ 31 by omega), g1, ic, obs, bnd_eq, is_0, is_1, is_2, is_3, is_4, is_5, is_6, is_9, tell_eq, refuse_eq, refuse8_eq, b2i_1, b2i_0, if_true, if_false, ↓reduceIte]
      · subst y3
        obtain ⟨J, r', I3, v1, v2, v3, v4, v5, v6, v7⟩ := ref 6
        subst v7
        refine ⟨-1, up2 I1 0 6 6, L1, rm1, ?_, a2.1, up2 I3 43 0 6, L1, ?_, IV_a h a2 (v5.trans Q8_r) (RDY_r v4.rdy) up2_s⟩
        · simp (config := { decide := true }) only [f_X7_alike, read_eq hC.1 e1, cmp_tn hn hp, hu, nI_0, a1, a2.kA, a2.kB, r1, obs, bnd_eq, is_0, is_1, is_2, is_3, is_4, is_5, is_6, is_9, tell_eq, refuse_eq, refuse8_eq, b2i_1, b2i_0, if_true, if_false, ↓reduceIte]
        · simp (config := { decide := true }) only [f_X8_alike, v1, v2, v3, obs, bnd_eq, is_0, is_1, is_2, is_3, is_4, is_5, is_6, is_9, tell_eq, refuse_eq, refuse8_eq, b2i_1, b2i_0, if_true, if_false, ↓reduceIte]
    · rw [hz] at hu
      have j3 : Fr [46] (up2 I 0 6 5) (wp (up2 I 0 6 5) 46 0 p) := Fr_wp (by decide)
      obtain ⟨I2, b1, b2, b3, b4⟩ := wS (L := L) hO ((RDY_s (s := 5) hR).fr j3 (by decide)) he hz
      refine ⟨-1, up2 I 0 6 5, L, rm, ?_, RS_r, is8 I2 5, L, ?_, IV_q h (((Q8_fr j3 (by decide)).trans b3).trans Q8_is) (RDY_is b2) is8_0⟩
      · simp (config := { decide := true }) only [f_X7_alike, read_eq hC.1 e1, cmp_tn hn hp, hu, show nI 5 = 5 from rfl, obs, bnd_eq, is_0, is_1, is_2, is_3, is_4, is_5, is_6, is_9, tell_eq, refuse_eq, refuse8_eq, b2i_1, b2i_0, if_true, if_false, ↓reduceIte]
      · simp (config := { decide := true }) only [f_X8_alike, e2 46 _ L (by decide) (RDY_s (s := 5) hR).1, b1, show nI 5 = 5 from rfl, obs, bnd_eq, is_0, is_1, is_2, is_3, is_4, is_5, is_6, is_9, tell_eq, refuse_eq, refuse8_eq, b2i_1, b2i_0, if_true, if_false, ↓reduceIte]
    · rw [hz] at hu
      have j3 : Fr [46] (up2 I 0 6 3) (wp (up2 I 0 6 3) 46 0 p) := Fr_wp (by decide)
      obtain ⟨I2, b1, b2, b3, b4⟩ := wS (L := L) hO ((RDY_s (s := 3) hR).fr j3 (by decide)) he hz
      refine ⟨-1, up2 I 0 6 3, L, rm, ?_, RS_r, is8 I2 3, L, ?_, IV_q h (((Q8_fr j3 (by decide)).trans b3).trans Q8_is) (RDY_is b2) is8_0⟩
      · simp (config := { decide := true }) only [f_X7_alike, read_eq hC.1 e1, cmp_tn hn hp, hu, show nI 3 = 3 from rfl, obs, bnd_eq, is_0, is_1, is_2, is_3, is_4, is_5, is_6, is_9, tell_eq, refuse_eq, refuse8_eq, b2i_1, b2i_0, if_true, if_false, ↓reduceIte]
      · simp (config := { decide := true }) only [f_X8_alike, e2 46 _ L (by decide) (RDY_s (s := 3) hR).1, b1, show nI 3 = 3 from rfl, obs, bnd_eq, is_0, is_1, is_2, is_3, is_4, is_5, is_6, is_9, tell_eq, refuse_eq, refuse8_eq, b2i_1, b2i_0, if_true, if_false, ↓reduceIte]
  · obtain ⟨I', f1, f2⟩ := e2 46 (up2 I 0 6 1) L (by decide) (RDY_s (s := 1) hR).1
    refine ⟨-1, up2 I 0 6 1, L, rm, ?_, RS_r, _, L, ?_, IV_q h ((Q8_fr f2 (by decide)).trans (Q8_is (a := 1))) (RDY_is ((RDY_s hR).fr f2 (by decide))) is8_0⟩
    · simp (config := { decide := true }) only [f_X7_alike, read_eq hC.1 e1, cmp_m1, obs, bnd_eq, is_0, is_1, is_2, is_3, is_4, is_5, is_6, is_9, tell_eq, refuse_eq, refuse8_eq, b2i_1, b2i_0, if_true, if_false, ↓reduceIte]
    · simp (config := { decide := true }) only [f_X8_alike, f1, wS_1, obs, bnd_eq, is_0, is_1, is_2, is_3, is_4, is_5, is_6, is_9, tell_eq, refuse_eq, refuse8_eq, b2i_1, b2i_0, if_true, if_false, ↓reduceIte]
end KR
