/-! What a group has: moves that commute, an end at home, evenness, no blocks -/
section HA
variable {n m rm : Nat} {mv : Nat → Nat → Nat} {st : Nat → Nat} {I J : MI} {L M : ML}
theorem mc12 {i : Nat} (hO : OKm n m mv st) (h6 : I 6 0 = nI n) (h7 : ∀ i, i < m → L 7 i = tn n (mv i)) (hi : i < m) (k0 : Option Bool) : (f_X2_movesCommute_12 (nI i) I L k0 FU 0 = k0 ∧ ∀ j, j < i → cp (mv i) (mv j) = cp (mv j) (mv i)) ∨ (f_X2_movesCommute_12 (nI i) I L k0 FU 0 = some false ∧ ∃ j, j < i ∧ ¬ cp (mv i) (mv j) = cp (mv j) (mv i)) := by
  have hm := hO.2.1
  have := loop0 (fun fu z => f_X2_movesCommute_12 (nI i) I L k0 fu z) (fun j z => j ≤ i ∧ z = nI j ∧ ∀ t, t < j → cp (mv i) (mv t) = cp (mv t) (mv i)) (fun o => (o = k0 ∧ ∀ j, j < i → cp (mv i) (mv j) = cp (mv j) (mv i)) ∨ (o = some false ∧ ∃ j, j < i ∧ ¬ cp (mv i) (mv j) = cp (mv j) (mv i))) i (by omega) (nI 0) ⟨Nat.zero_le _, rfl, fun t ht => by omega⟩
    (fun fu j z hj hP => by
      obtain ⟨_, p1, p2⟩ := hP
      subst p1
      rw [f_X2_movesCommute_12, ifc (q_le (by omega) (by omega))]
      by_cases c1 : i ≤ j
      · left; left
        rw [if_pos c1]
        exact ⟨rfl, fun t ht => p2 t (by omega)⟩
      · obtain ⟨c, hc⟩ := em_B (cp (mv i) (mv j) = cp (mv j) (mv i))
        rw [if_neg c1, q_chk (by omega) (by decide), q_chk (by omega) (by decide), q_ix (by omega), q_ix (by omega), h7 i hi, h7 j (by omega), h6, ob (commute_eq hO.1 (hO.2.2.1 i hi) (hO.2.2.1 j (by omega)) hc)]
        cases c
        · left; right
          rw [if_pos b2i_f]
          exact ⟨rfl, j, by omega, fun g => absurd (hc.mpr g) (by decide)⟩
        · right
          refine ⟨by omega, nI (j + 1), ?_, by omega, rfl, fun t ht => ?_⟩
          · rw [if_neg b2i_t, bnd_eq, nI_1]
          · by_cases e1 : t = j
            · rw [e1]; exact hc.mp rfl
            · exact p2 t (by omega))
  rw [nI_0] at this
  exact this
theorem movesCommute_eq {c : Bool} (hO : OKm n m mv st) (hC : CI I L rm n m mv st) (hc : c = true ↔ ∀ i, i < m → Zp m mv (mv i)) : f_X2_movesCommute I L = some c := by
  have hm := hO.2.1
  unfold f_X2_movesCommute
  have := loop0 (fun fu z => f_X2_movesCommute_2 I L fu z) (fun i z => i ≤ m ∧ z = nI i ∧ ∀ t, t < i → ∀ j, j < t → cp (mv t) (mv j) = cp (mv j) (mv t)) (fun o => o = some c) m (by omega) (nI 0) ⟨Nat.zero_le _, rfl, fun t ht => by omega⟩
    (fun fu i z hi hP => by
      obtain ⟨_, p1, p2⟩ := hP
      subst p1
      rw [f_X2_movesCommute_2, hC.2.1, ifc (q_le (by omega) (by omega))]
      by_cases c1 : m ≤ i
      · left
        rw [if_pos c1, hc.mpr (fun t ht j hj => ?_)]
        rcases Nat.lt_trichotomy j t with g | g | g
        · exact p2 t (by omega) j g
        · rw [g]
        · exact (p2 j (by omega) t g).symm
      · rw [if_neg c1]
        rcases mc12 hO hC.1 hC.2.2.1 (show i < m by omega) (bnd (nI i + 1 : Int32) (fun v1_6 => f_X2_movesCommute_2 I L fu v1_6)) with ⟨g1, g2⟩ | ⟨g1, j, g2, g3⟩
        · right
          refine ⟨by omega, nI (i + 1), ?_, by omega, rfl, fun t ht j hj => ?_⟩
          · rw [g1, bnd_eq, nI_1]
          · by_cases e1 : t = i
            · rw [e1]; exact g2 j (by omega)
            · exact p2 t (by omega) j hj
        · left
          rw [g1]
          cases c
          · rfl
          · exact absurd (hc.mp rfl i (by omega) j (by omega)) g3)
  rw [nI_0] at this
  exact this
theorem allGo_eq {c : Bool} (hO : OKm n m mv st) (hN : Nw J m mv st) (hc : c = true ↔ ∀ i, i < m → Zp m mv (mv i)) : ∃ J', f_X8_allGo J M = some (c, J', M) ∧ Fr [46, 47, 49, 50] J J' := by
  have hm := hO.2.1
  unfold f_X8_allGo
  have := loop0 (fun fu (z : Int32 × MI × ML) => f_X8_allGo_2 fu z.1 z.2.1 z.2.2) (fun i z => i ≤ m ∧ z.1 = nI i ∧ z.2.2 = M ∧ Fr [46, 47, 49, 50] J z.2.1 ∧ ∀ t, t < i → Zp m mv (mv t)) (fun o => ∃ J', o = some (c, J', M) ∧ Fr [46, 47, 49, 50] J J') m (by omega) (nI 0, J, M) ⟨Nat.zero_le _, rfl, rfl, Fr.refl, fun t ht => by omega⟩
    (fun fu i z hi hP => by
      obtain ⟨z1, K, M1⟩ := z
      obtain ⟨_, p1, p2, p3, p4⟩ := hP
      dsimp only at p1 p2 p3 ⊢
      subst p1 p2
      have hNK := hN.fr (I' := K) (p3 44 (by decide))
      rw [f_X8_allGo_2, ob (moves_eq hNK), ifc (q_le (by omega) (by omega))]
      by_cases c1 : m ≤ i
      · left
        rw [if_pos c1, hc.mpr (fun t ht => p4 t (by omega))]
        exact ⟨K, rfl, p3⟩
      · obtain ⟨b, hb⟩ := em_B (Zp m mv (mv i))
        have hN1 := hNK.fr (I' := wp K 46 0 (mv i)) (wp_ne (by decide))
        obtain ⟨K1, g1, g2⟩ := goesWith_eq (L := M1) hO hN1 (hO.2.2.1 i (by omega)) Row_wp hb
        have f1 : Fr [46, 47, 49, 50] J K1 := (p3.trans (Fr_wp (by decide))).trans (g2.mono (by decide))
        rw [if_neg c1, ob (laysMove_eq hNK (show i < m by omega) (by decide)), ob g1]
        dsimp only
        cases b
        · left
          rw [if_pos b2i_f]
          cases c
          · exact ⟨K1, rfl, f1⟩
          · exact absurd (hb.mpr (hc.mp rfl i (by omega))) (by decide)
        · right
          refine ⟨by omega, (nI (i + 1), K1, M1), ?_, by omega, rfl, rfl, f1, fun t ht => ?_⟩
          · rw [if_neg b2i_t, bnd_eq, nI_1]
          · by_cases e1 : t = i
            · rw [e1]; exact hb.mp rfl
            · exact p4 t (by omega))
  rw [nI_0] at this
  exact this
def EvP (n : Nat) (p : Nat → Nat) : Prop := (n - cT (mn p) n) % 2 = 0
theorem movesAreEven_eq {c : Bool} (hO : OKm n m mv st) (hC : CI I L rm n m mv st) (hc : c = true ↔ ∀ i, i < m → EvP n (mv i)) : f_X2_movesAreEven I L = some c := by
  have hm := hO.2.1
  unfold f_X2_movesAreEven
  have := loop0 (fun fu z => f_X2_movesAreEven_2 I L fu z) (fun i z => i ≤ m ∧ z = nI i ∧ ∀ t, t < i → EvP n (mv t)) (fun o => o = some c) m (by omega) (nI 0) ⟨Nat.zero_le _, rfl, fun t ht => by omega⟩
    (fun fu i z hi hP => by
      obtain ⟨_, p1, p2⟩ := hP
      subst p1
      rw [f_X2_movesAreEven_2, hC.2.1, ifc (q_le (by omega) (by omega))]
      by_cases c1 : m ≤ i
      · left
        rw [if_pos c1, hc.mpr (fun t ht => p2 t (by omega))]
      · rw [if_neg c1, q_chk (by omega) (by decide), q_ix (by omega), hC.2.2.1 i (by omega), hC.1, ob (isEven_eq hO.1 (hO.2.2.1 i (by omega)))]
        by_cases c2 : (n - cT (mn (mv i)) n) % 2 = 0
        · right
          refine ⟨by omega, nI (i + 1), ?_, by omega, rfl, fun t ht => ?_⟩
          · rw [decide_eq_true c2, if_neg b2i_t, bnd_eq, nI_1]
          · by_cases e1 : t = i
            · rw [e1]; exact c2
            · exact p2 t (by omega)
        · left
          rw [decide_eq_false c2, if_pos b2i_f]
          cases c
          · rfl
          · exact absurd (hc.mp rfl i (by omega)) c2)
  rw [nI_0] at this
  exact this
theorem allEven_eq {c : Bool} (hO : OKm n m mv st) (h43 : J 43 2 = nI n) (hN : Nw J m mv st) (hc : c = true ↔ ∀ i, i < m → EvP n (mv i)) : ∃ J', f_X8_allEven J M = some (c, J', M) ∧ Fr [46] J J' := by
  have hm := hO.2.1
  unfold f_X8_allEven
  have := loop0 (fun fu (z : Int32 × Int32 × MI × ML) => f_X8_allEven_4 fu z.1 z.2.1 z.2.2.1 z.2.2.2) (fun i z => i ≤ m ∧ z.2.1 = nI i ∧ z.2.2.2 = M ∧ Fr [46] J z.2.2.1 ∧ ∃ b, z.1 = b2i b ∧ (b = true ↔ ∀ t, t < i → EvP n (mv t))) (fun o => ∃ J', o = some (c, J', M) ∧ Fr [46] J J') m (by omega) (b2i true, nI 0, J, M) ⟨Nat.zero_le _, rfl, rfl, Fr.refl, true, rfl, ⟨fun _ t ht => by omega, fun _ => rfl⟩⟩
    (fun fu i z hi hP => by
      obtain ⟨z0, z1, K, M1⟩ := z
      obtain ⟨_, p1, p2, p3, b, p4, p5⟩ := hP
      dsimp only at p1 p2 p3 p4 ⊢
      subst p1 p2 p4
      have hNK := hN.fr (I' := K) (p3 44 (by decide))
      rw [f_X8_allEven_4, ob (moves_eq hNK), ifc (q_le (by omega) (by omega))]
      by_cases c1 : m ≤ i
      · left
        have hbc : b = c := by
          cases c
          · cases b
            · rfl
            · exact absurd (hc.mpr (fun t ht => p5.mp rfl t (by omega))) (by decide)
          · exact p5.mpr (fun t ht => hc.mp rfl t (by omega))
        rw [if_pos c1, chk_pos (i2z_b b).1, (i2z_b b).2, hbc]
        exact ⟨K, rfl, p3⟩
      · right
        have f1 : Fr [46] J (wp K 46 0 (mv i)) := p3.trans (Fr_wp (by decide))
        have k43 : wp K 46 0 (mv i) 43 2 = nI n := by rw [f1 43 (by decide)]; exact h43
        refine ⟨by omega, ?_⟩
        rw [if_neg c1, ob (laysMove_eq hNK (show i < m by omega) (by decide))]
        dsimp only
        cases b
        · refine ⟨(b2i false, nI (i + 1), _, M1), ?_, by omega, rfl, rfl, f1, false, rfl, ⟨(fun g => by cases g), fun g => p5.mpr (fun t ht => g t (by omega))⟩⟩
          rw [if_pos b2i_f, bnd_eq, nI_1]
          rfl
        · rw [if_neg b2i_t, ob (isEven8_eq hO.1 (hO.2.2.1 i (by omega)) k43 Row_wp)]
          by_cases c2 : (n - cT (mn (mv i)) n) % 2 = 0
          · refine ⟨(b2i true, nI (i + 1), _, M1), ?_, by omega, rfl, rfl, f1, true, rfl, ⟨fun _ t ht => ?_, fun _ => rfl⟩⟩
            · rw [decide_eq_true c2, if_neg b2i_t, bnd_eq, nI_1]
              rfl
            · by_cases e1 : t = i
              · rw [e1]; exact c2
              · exact p5.mp rfl t (by omega)
          · refine ⟨(b2i false, nI (i + 1), _, M1), ?_, by omega, rfl, rfl, f1, false, rfl, ⟨(fun g => by cases g), fun g => absurd (g i (by omega)) c2⟩⟩
            rw [decide_eq_false c2, if_pos b2i_f, bnd_eq, nI_1]
            rfl)
  rw [nI_0] at this
  exact this
theorem endsHome_eq {s : Nat → Nat} {cnt : Nat} (c1 : 1 ≤ cnt) (c2 : cnt ≤ 31) (s2 : ∀ i, 0 < s i ∧ s i ≤ 3628800) (hch : ∀ k, k < 2 ^ 31 → ∀ (J : MI) (M : ML), RDY J n m mv st → ∃ J', f_X8_chainAt (nI k) true J M = some (if k < cnt then nI (s k) else -1, J', M) ∧ RDY J' n m mv st ∧ Q8 J J' ∧ J' 43 0 = J 43 0) (hJ : RDY J n m mv st) : ∃ J', f_X8_endsHome J M = some (decide (s (cnt - 1) = 1), J', M) ∧ RDY J' n m mv st ∧ Q8 J J' ∧ J' 43 0 = J 43 0 := by
  obtain ⟨J1, x1, x2, x3, x4⟩ := hch 0 (by decide) J M hJ
  rw [if_pos (by omega), nI_0] at x1
  unfold f_X8_endsHome
  rw [ob x1, bnd_eq]
  have := loop0 (fun fu (z : Int32 × Int32 × Int32 × MI × ML) => f_X8_endsHome_11 (fun (v2_11 : Int32) (I_12 : MI) (L_13 : ML) => if v2_11 = 1 then some (true, I_12, L_13) else some (false, I_12, L_13)) fu z.1 z.2.1 z.2.2.1 z.2.2.2.1 z.2.2.2.2) (fun i z => i ≤ cnt ∧ z.1 = nI i ∧ z.2.1 = (if i = 0 then -1 else nI (s (i - 1))) ∧ z.2.2.1 = (if i < cnt then nI (s i) else -1) ∧ z.2.2.2.2 = M ∧ RDY z.2.2.2.1 n m mv st ∧ Q8 J z.2.2.2.1 ∧ z.2.2.2.1 43 0 = J 43 0) (fun o => ∃ J', o = some (decide (s (cnt - 1) = 1), J', M) ∧ RDY J' n m mv st ∧ Q8 J J' ∧ J' 43 0 = J 43 0) cnt (by omega) (nI 0, -1, nI (s 0), J1, M) ⟨Nat.zero_le _, rfl, rfl, (if_pos (by omega)).symm, rfl, x2, x3, x4⟩
    (fun fu i z hi hP => by
      obtain ⟨z0, z1, z2, K, M1⟩ := z
      obtain ⟨_, p1, p2, p3, p4, p5, p6, p7⟩ := hP
      dsimp only at p1 p2 p3 p4 p5 p6 p7 ⊢
      subst p1 p2 p3 p4
      rw [f_X8_endsHome_11]
      by_cases d1 : i < cnt
      · right
        rw [if_pos d1, if_neg (nI_nm1 (by have := (s2 i).2; omega)), bnd_eq, nI_1]
        obtain ⟨K1, y1, y2, y3, y4⟩ := hch (i + 1) (by omega) K M1 p5
        refine ⟨by omega, (nI (i + 1), nI (s i), (if i + 1 < cnt then nI (s (i + 1)) else -1), K1, M1), ?_, by omega, rfl, (if_neg (by omega)).symm, rfl, rfl, y2, p6.trans y3, y4.trans p7⟩
        rw [ob y1, bnd_eq]
      · left
        obtain rfl : i = cnt := by omega
        rw [if_neg d1, if_pos rfl]
        rw [if_neg (show ¬ i = 0 by omega)]
        refine ⟨K, ?_, p5, p6, p7⟩
        rw [show (1 : Int32) = nI 1 from rfl, ifc (q_eq (by have := (s2 (i - 1)).2; omega) (by decide))]
        by_cases e : s (i - 1) = 1
        · rw [if_pos e, decide_eq_true e]
        · rw [if_neg e, decide_eq_false e])
  rw [nI_0] at this
  exact this
/-! no blocks -/
theorem fullB {s : Nat} (hs : s < 2 ^ n) : s = 2 ^ n - 1 ↔ ∀ x, x < n → s.testBit x = true := by
  constructor
  · intro e x hx
    rw [e]; exact tb_m n hx
  · intro h
    apply Nat.eq_of_testBit_eq
    intro i
    by_cases hi : i < n
    · rw [h i hi, tb_m n hi]
    · cases g : s.testBit i
      · cases g2 : (2 ^ n - 1).testBit i
        · rfl
        · exact absurd (tb_lt (n := n) (by have := Nat.two_pow_pos n; omega) g2) hi
      · exact absurd (tb_lt hs g) hi
theorem full_oS {B : Nat → Bool} : oS B n = 2 ^ n - 1 ↔ ∀ x, x < n → B x = true := by
  refine (fullB (oS_lt B n)).trans ⟨fun h x hx => ?_, fun h x hx => ?_⟩
  · have := h x hx
    rw [oS_tb, decide_eq_true hx, Bool.true_and] at this
    exact this
  · rw [oS_tb, decide_eq_true hx, Bool.true_and]; exact h x hx
theorem sh1 (hn : n ≤ 10) : (shl 1 (nI n)) - 1 = nI (2 ^ n - 1) := by
  have := Nat.two_pow_pos n
  rw [q_shl1 (by omega), show (1 : Int32) = nI 1 from rfl, pk_sub (by omega)]
theorem p10 (hn : n ≤ 10) : 2 ^ n ≤ 1024 := Nat.pow_le_pow_right (by decide) hn
def Prm (n m : Nat) (mv : Nat → Nat → Nat) : Prop := (∀ x, x < n → Ob m mv 0 x) ∧ ∀ v, 1 ≤ v → v < n → ∀ x, x < n → Blk m mv 0 v x 0
theorem Blk_ab {a b x y : Nat} (h : Blk m mv a b x y) : Blk m mv b a x y := fun E r s t e c => h E r s t (s _ _ e) c
theorem Prm_iff (hO : OKm n m mv st) (hn0 : 0 < n) : Prm n m mv ↔ ((∀ x, x < n → Ob m mv 0 x) ∧ ∀ u, u < n → ∀ w, w < u → ∀ x, x < n → Blk m mv u w x u) := by
  constructor
  · intro ⟨h1, h2⟩
    refine ⟨h1, fun u hu w hw x hx E r s t e c => ?_⟩
    have ob0 : Ob m mv u 0 := Ob_sym hO.1 hO.2.2.1 (h1 u hu)
    obtain ⟨w', w1, w2, w3⟩ := ob0 (fun y => ∃ w', w' ≠ y ∧ w' < n ∧ E y w') ⟨w, by omega, by omega, e⟩ (fun j y hj ⟨w', a1, a2, a3⟩ => ⟨mv j w', fun g => a1 ((hO.2.2.1 j hj).2.2 _ _ g), (hO.2.2.1 j hj).1 w' a2, c j _ _ hj a3⟩)
    have k := fun y hy => h2 w' (by omega) w2 y hy E r s t w3 c
    exact t _ _ _ (k x hx) (s _ _ (k u hu))
  · intro ⟨h1, h2⟩
    refine ⟨h1, fun v hv1 hv x hx => ?_⟩
    have k := fun y hy => Blk_ab (h2 v hv 0 (by omega) y hy)
    exact Blk_t (k x hx) (Blk_s (k 0 hn0))
theorem isPrimC_eq {c : Bool} (hO : OKm n m mv st) (hC : CI I L rm n m mv st) (h0 : 0 < n) (hc : c = true ↔ Prm n m mv) : ∃ I', f_X2_isPrimitive I L = some (c, I', L) ∧ (∀ p, p ≠ 36 → I' p = I p) := by
  have hn := hO.1
  have hp := p10 hn
  obtain ⟨s, s1, s2, s3⟩ := reachedFrom_eq hO hC h0
  rw [nI_0] at s1
  unfold f_X2_isPrimitive
  rw [hC.1, sh1 hn, bnd_eq, ob s1, ifc (q_eq (by omega) (by omega)), ifc (propext (fullB s2))]
  by_cases d : ∀ x, x < n → s.testBit x = true
  · rw [if_pos d]
    have := loop0 (fun fu (z : Int32 × MI × ML) => f_X2_isPrimitive_22 (nI (2 ^ n - 1)) fu z.1 z.2.1 z.2.2) (fun i z => i + 1 ≤ n ∧ z.1 = nI (i + 1) ∧ z.2.2 = L ∧ (∀ p, p ≠ 36 → z.2.1 p = I p) ∧ ∀ v, 1 ≤ v → v ≤ i → ∀ x, x < n → Blk m mv 0 v x 0) (fun o => ∃ I', o = some (c, I', L) ∧ (∀ p, p ≠ 36 → I' p = I p)) (n - 1) (by omega) (nI 1, I, L) ⟨by omega, rfl, rfl, fun _ _ => rfl, fun v h1 h2 => by omega⟩
      (fun fu i z hi hP => by
        obtain ⟨z1, K, M1⟩ := z
        obtain ⟨p0, p1, p2, p3, p4⟩ := hP
        dsimp only at p1 p2 p3 ⊢
        subst p1 p2
        have CK := hC.g36 p3
        rw [f_X2_isPrimitive_22, CK.1, ifc (q_le (by omega) (by omega))]
        by_cases c1 : n ≤ i + 1
        · left
          rw [if_pos c1, hc.mpr ⟨fun x hx => (s3 x).mp (d x hx), fun v h1 h2 => p4 v h1 (by omega)⟩]
          exact ⟨K, rfl, p3⟩
        · obtain ⟨B, hB⟩ := dec_ex (fun x => Blk m mv 0 (i + 1) x 0)
          obtain ⟨K1, g1, g2⟩ := blockC_eq (L := M1) hO CK h0 (show i + 1 < n by omega) (by omega) (fun x _ => hB x)
          rw [nI_0] at g1
          have ho := oS_lt B n
          have f1 : ∀ p, p ≠ 36 → K1 p = I p := fun p hp => (g2 p hp).trans (p3 p hp)
          rw [if_neg c1, ob g1]
          dsimp only
          rw [ifc (q_eq (by omega) (by omega)), ifc (propext full_oS)]
          by_cases c2 : ∀ x, x < n → B x = true
          · right
            refine ⟨by omega, (nI (i + 1 + 1), K1, M1), ?_, by omega, rfl, rfl, f1, fun v h1 h2 => ?_⟩
            · rw [if_pos c2, bnd_eq, nI_1]
            · by_cases e : v = i + 1
              · rw [e]; exact fun x hx => (hB x).mp (c2 x hx)
              · exact p4 v h1 (by omega)
          · left
            rw [if_neg c2]
            cases c
            · exact ⟨K1, rfl, f1⟩
            · exact absurd (fun x hx => (hB x).mpr ((hc.mp rfl).2 (i + 1) (by omega) (by omega) x hx)) c2)
    exact this
  · rw [if_neg d]
    cases c
    · exact ⟨I, rfl, fun _ _ => rfl⟩
    · exact absurd (fun x hx => (s3 x).mpr ((hc.mp rfl).1 x hx)) d
theorem pr38 {u : Nat} {f0 : Bool} (hO : OKm n m mv st) (h43 : J 43 2 = nI n) (hN : Nw J m mv st) (hu : u < n) (k0 : Int32 → MI → ML → Option (Bool × Mm)) : ∃ f J', f_X8_isPrimitive_38 (nI u) k0 FU (b2i f0) 0 J M = k0 (b2i f) J' M ∧ Fr [64] J J' ∧ (f = true ↔ (f0 = true ∧ ∀ w, w < u → ∀ x, x < n → Blk m mv u w x u)) := by
  have hn := hO.1
  have hp := p10 hn
  have := loop0 (fun fu (z : Int32 × Int32 × MI × ML) => f_X8_isPrimitive_38 (nI u) k0 fu z.1 z.2.1 z.2.2.1 z.2.2.2) (fun i z => i ≤ u ∧ z.2.1 = nI i ∧ z.2.2.2 = M ∧ Fr [64] J z.2.2.1 ∧ ∃ f, z.1 = b2i f ∧ (f = true ↔ (f0 = true ∧ ∀ w, w < i → ∀ x, x < n → Blk m mv u w x u))) (fun o => ∃ f J', o = k0 (b2i f) J' M ∧ Fr [64] J J' ∧ (f = true ↔ (f0 = true ∧ ∀ w, w < u → ∀ x, x < n → Blk m mv u w x u))) u (by omega) (b2i f0, nI 0, J, M) ⟨Nat.zero_le _, rfl, rfl, Fr.refl, f0, rfl, ⟨fun g => ⟨g, fun w hw => by omega⟩, fun g => g.1⟩⟩
    (fun fu i z hi hP => by
      obtain ⟨z0, z1, K, M1⟩ := z
      obtain ⟨_, p1, p2, p3, f, p4, p5⟩ := hP
      dsimp only at p1 p2 p3 p4 ⊢
      subst p1 p2 p4
      rw [f_X8_isPrimitive_38, ifc (q_le (by omega) (by omega))]
      by_cases c1 : u ≤ i
      · left
        obtain rfl : i = u := by omega
        rw [if_pos c1]
        exact ⟨f, K, rfl, p3, p5⟩
      · right
        refine ⟨by omega, ?_⟩
        rw [if_neg c1]
        cases f
        · refine ⟨(b2i false, nI (i + 1), K, M1), ?_, by omega, rfl, rfl, p3, false, rfl, ⟨(fun g => by cases g), fun g => p5.mpr ⟨g.1, fun w hw => g.2 w (by omega)⟩⟩⟩
          rw [if_pos b2i_f, bnd_eq, nI_1]
          rfl
        · obtain ⟨B, hB⟩ := dec_ex (fun x => Blk m mv u i x u)
          have k43 : K 43 2 = nI n := by rw [p3 43 (by decide)]; exact h43
          obtain ⟨K1, g1, g2⟩ := blockR_eq (L := M1) hO k43 (hN.fr (p3 44 (by decide))) hu (show i < n by omega) (by omega) (fun x _ => hB x)
          have ho := oS_lt B n
          have k43' : K1 43 2 = nI n := by rw [g2 43 (by decide)]; exact k43
          have hp5 := p5.mp rfl
          rw [if_neg b2i_t, ob g1]
          dsimp only
          have e3 : (nI (oS B n) = (shl 1 (K1 43 2)) - 1) = (∀ x, x < n → B x = true) := by
            rw [k43', sh1 hn]
            exact (q_eq (by omega) (by omega)).trans (propext full_oS)
          rw [ifc e3]
          by_cases c2 : ∀ x, x < n → B x = true
          · refine ⟨(b2i true, nI (i + 1), K1, M1), ?_, by omega, rfl, rfl, p3.trans g2, true, rfl, ⟨fun _ => ⟨hp5.1, fun w hw => ?_⟩, fun _ => rfl⟩⟩
            · rw [if_pos c2, bnd_eq, nI_1]
              rfl
            · by_cases e : w = i
              · rw [e]; exact fun x hx => (hB x).mp (c2 x hx)
              · exact hp5.2 w (by omega)
          · refine ⟨(b2i false, nI (i + 1), K1, M1), ?_, by omega, rfl, rfl, p3.trans g2, false, rfl, ⟨(fun g => by cases g), fun g => absurd (fun x hx => (hB x).mpr (g.2 i (by omega) x hx)) c2⟩⟩
            rw [if_neg c2, bnd_eq, nI_1]
            rfl)
  rw [nI_0] at this
  exact this
theorem isPrimR_eq {c : Bool} (hO : OKm n m mv st) (h43 : J 43 2 = nI n) (hN : Nw J m mv st) (h0 : 0 < n) (hc : c = true ↔ Prm n m mv) : ∃ J', f_X8_isPrimitive J M = some (c, J', M) ∧ Fr [64] J J' := by
  have hn := hO.1
  have hp := p10 hn
  have hc := hc.trans (Prm_iff hO h0)
  obtain ⟨s, s1, s2, s3⟩ := orbitOf_eq (L := M) hO h43 hN h0
  rw [nI_0] at s1
  unfold f_X8_isPrimitive
  rw [ob s1, bnd_eq, h43, sh1 hn, ifc (q_eq (by omega) (by omega)), ifc (propext (fullB s2))]
  obtain ⟨b, hb⟩ := em_B (∀ x, x < n → s.testBit x = true)
  have key : (if (∀ x, x < n → s.testBit x = true) then bnd (b2i true : Int32) (fun v1_3 => f_X8_isPrimitive_24 FU v1_3 0 J M) else bnd (b2i false : Int32) (fun v1_3 => f_X8_isPrimitive_24 FU v1_3 0 J M)) = f_X8_isPrimitive_24 FU (b2i b) 0 J M := by
    cases b
    · rw [if_neg (fun g => absurd (hb.mpr g) (by decide)), bnd_eq]
    · rw [if_pos (hb.mp rfl), bnd_eq]
  refine (?_ : ∃ J', (if (∀ x, x < n → s.testBit x = true) then bnd (b2i true : Int32) (fun v1_3 => f_X8_isPrimitive_24 FU v1_3 0 J M) else bnd (b2i false : Int32) (fun v1_3 => f_X8_isPrimitive_24 FU v1_3 0 J M)) = some (c, J', M) ∧ Fr [64] J J')
  rw [key]
  have hb' : b = true ↔ ∀ x, x < n → Ob m mv 0 x := hb.trans ⟨fun h x hx => (s3 x).mp (h x hx), fun h x hx => (s3 x).mpr (h x hx)⟩
  have := loop0 (fun fu (z : Int32 × Int32 × MI × ML) => f_X8_isPrimitive_24 fu z.1 z.2.1 z.2.2.1 z.2.2.2) (fun i z => i ≤ n ∧ z.2.1 = nI i ∧ z.2.2.2 = M ∧ Fr [64] J z.2.2.1 ∧ ∃ f, z.1 = b2i f ∧ (f = true ↔ ((∀ x, x < n → Ob m mv 0 x) ∧ ∀ u, u < i → ∀ w, w < u → ∀ x, x < n → Blk m mv u w x u))) (fun o => ∃ J', o = some (c, J', M) ∧ Fr [64] J J') n (by omega) (b2i b, nI 0, J, M) ⟨Nat.zero_le _, rfl, rfl, Fr.refl, b, rfl, ⟨fun g => ⟨hb'.mp g, fun u hu => by omega⟩, fun g => hb'.mpr g.1⟩⟩
    (fun fu i z hi hP => by
      obtain ⟨z0, z1, K, M1⟩ := z
      obtain ⟨_, p1, p2, p3, f, p4, p5⟩ := hP
      dsimp only at p1 p2 p3 p4 ⊢
      subst p1 p2 p4
      have k43 : K 43 2 = nI n := by rw [p3 43 (by decide)]; exact h43
      rw [f_X8_isPrimitive_24, k43, ifc (q_le (by omega) (by omega))]
      by_cases c1 : n ≤ i
      · left
        have hfc : f = c := by
          cases c
          · cases f
            · rfl
            · exact absurd (hc.mpr ⟨(p5.mp rfl).1, fun u hu => (p5.mp rfl).2 u (by omega)⟩) (by decide)
          · exact p5.mpr ⟨(hc.mp rfl).1, fun u hu => (hc.mp rfl).2 u (by omega)⟩
        rw [if_pos c1, chk_pos (i2z_b f).1, (i2z_b f).2, hfc]
        exact ⟨K, rfl, p3⟩
      · rw [if_neg c1]
        cases f
        · left
          rw [if_pos b2i_f, chk_pos (i2z_b false).1, (i2z_b false).2]
          cases c
          · exact ⟨K, rfl, p3⟩
          · exact absurd (p5.mpr ⟨(hc.mp rfl).1, fun u hu => (hc.mp rfl).2 u (by omega)⟩) (by decide)
        · right
          obtain ⟨f2, K2, g1, g2, g3⟩ := pr38 (M := M1) (f0 := true) hO k43 (hN.fr (p3 44 (by decide))) (show i < n by omega) (fun (v1_17 : Int32) (I_18 : MI) (L_19 : ML) => bnd (nI i + 1 : Int32) (fun v2_20 => f_X8_isPrimitive_24 fu v1_17 v2_20 I_18 L_19))
          have hp5 := p5.mp rfl
          refine ⟨by omega, (b2i f2, nI (i + 1), K2, M1), ?_, by omega, rfl, rfl, p3.trans g2, f2, rfl, g3.trans ⟨fun g => ⟨hp5.1, fun u hu => ?_⟩, fun g => ⟨rfl, g.2 i (by omega)⟩⟩⟩
          · rw [if_neg b2i_t, g1, bnd_eq, nI_1]
          · by_cases e : u = i
            · rw [e]; exact g.2
            · exact hp5.2 u (by omega))
  rw [nI_0] at this
  exact this
end HA
