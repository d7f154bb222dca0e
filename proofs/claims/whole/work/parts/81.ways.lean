/-! Ways, from either end -/
section WY
variable {n m N : Nat} {mv : Nat → Nat → Nat} {e : Nat → Nat → Nat} {dp kk : Nat → Nat}
theorem PK_cons (hm : m ≤ 6) : ∀ d k p, PK m mv (d + 1) k p → ∃ s q k', s < 2 * m ∧ PK m mv d k' q ∧ p = cp (stp mv s) q ∧ k = 12 ^ (d + 1) + s * 12 ^ d + (k' - 12 ^ d) := by
  intro d
  induction d with
  | zero =>
    intro k p ⟨k1, s, q, h1, h2, h3, h4⟩
    refine ⟨s, idp, 1, h1, ⟨rfl, rfl⟩, by rw [h4, h3.2]; rfl, ?_⟩
    rw [h2, h3.1]
    show 12 * 1 + s = 12 ^ 1 + s * 1 + 0
    omega
  | succ d ih =>
    intro k p ⟨k1, t, p1, h1, h2, h3, h4⟩
    obtain ⟨s, q1, k1', a1, a2, a3, a4⟩ := ih k1 p1 h3
    refine ⟨s, cp q1 (stp mv t), 12 * k1' + t, a1, ⟨k1', t, q1, h1, rfl, a2, rfl⟩, by rw [h4, a3, cp_as], ?_⟩
    have r := PK_rng hm _ _ _ a2
    rw [h2, a4, show 12 ^ (d + 1 + 1) = 12 * 12 ^ (d + 1) by rw [Nat.pow_succ, Nat.mul_comm], show 12 ^ (d + 1) = 12 * 12 ^ d by rw [Nat.pow_succ, Nat.mul_comm], show s * (12 * 12 ^ d) = 12 * (s * 12 ^ d) by rw [← Nat.mul_assoc, Nat.mul_comm s 12, Nat.mul_assoc]]
    omega
theorem PK_snoc (hm : m ≤ 6) : ∀ d k q s, s < 2 * m → PK m mv d k q → PK m mv (d + 1) (12 ^ (d + 1) + s * 12 ^ d + (k - 12 ^ d)) (cp (stp mv s) q) := by
  intro d
  induction d with
  | zero =>
    intro k q s hs h
    refine ⟨1, s, idp, hs, ?_, ⟨rfl, rfl⟩, by rw [h.2]; rfl⟩
    rw [h.1]
    show 12 ^ 1 + s * 1 + 0 = 12 * 1 + s
    omega
  | succ d ih =>
    intro k q s hs ⟨k1, t, q1, h1, h2, h3, h4⟩
    have := ih k1 q1 s hs h3
    have r := PK_rng hm _ _ _ h3
    refine ⟨_, t, _, h1, ?_, this, by rw [h4, cp_as]⟩
    rw [h2, show 12 ^ (d + 1 + 1) = 12 * 12 ^ (d + 1) by rw [Nat.pow_succ, Nat.mul_comm], show 12 ^ (d + 1) = 12 * 12 ^ d by rw [Nat.pow_succ, Nat.mul_comm], show s * (12 * 12 ^ d) = 12 * (s * 12 ^ d) by rw [← Nat.mul_assoc, Nat.mul_comm s 12, Nat.mul_assoc]]
    omega
/-- the first step of the first shortest way, and what is left -/
theorem DK_first (hn : n ≤ 10) (hm : m ≤ 6) (hmv : ∀ i, i < m → IsP n (mv i)) (he : EL n (Gp n m mv) N e) (hD : DK m mv N e dp kk) {z d : Nat} (hz : z < N) (hd : dp z = d + 1) : kk z / 12 ^ d % 12 < 2 * m ∧ ∃ y, y < N ∧ e y = cp (iv (stp mv (kk z / 12 ^ d % 12))) (e z) ∧ dp y = d ∧ kk y = 12 ^ d + kk z % 12 ^ d ∧ ∀ s y', s < kk z / 12 ^ d % 12 → y' < N → e y' = cp (iv (stp mv s)) (e z) → dp y' ≠ d := by
  obtain ⟨a, b⟩ := hD z hz
  rw [hd] at a
  obtain ⟨s, q, k', h1, h2, h3, h4⟩ := PK_cons hm d _ _ a
  obtain ⟨y, hy, ey⟩ := he.2.1 q (PK_G hn hmv d k' q h2)
  obtain ⟨c1, c2⟩ := hD y hy
  have r' := PK_rng hm _ _ _ h2
  have ry := PK_rng hm _ _ _ c1
  have rz := PK_rng hm _ _ _ a
  have h5 : kk y ≤ k' := c2 d k' (ey ▸ h2)
  have sn := PK_snoc hm (dp y) (kk y) (e y) s h1 c1
  have e1 : e z = cp (stp mv s) (e y) := by rw [ey]; exact h3
  have h6 := b _ _ (e1 ▸ sn)
  have hdp : dp y = d := by
    rcases Nat.lt_trichotomy (dp y) d with g | g | g
    · exfalso
      have rs := PK_rng hm _ _ _ sn
      have h7 : 12 ^ (dp y + 1 + 1) ≤ 12 ^ (d + 1) := Nat.pow_le_pow_right (by decide) (by omega)
      have h8 : 12 ^ (dp y + 1 + 1) = 12 * 12 ^ (dp y + 1) := by rw [Nat.pow_succ, Nat.mul_comm]
      omega
    · exact g
    · exfalso
      have h7 : 12 ^ (d + 1) ≤ 12 ^ dp y := Nat.pow_le_pow_right (by decide) g
      have h8 : 12 ^ (d + 1) = 12 * 12 ^ d := by rw [Nat.pow_succ, Nat.mul_comm]
      omega
  rw [hdp] at h6 ry
  have hk : kk y = k' := by omega
  have hp : 0 < 12 ^ d := Nat.pow_pos (by decide)
  have hz1 : kk z = (12 + s) * 12 ^ d + (k' - 12 ^ d) := by
    rw [h4, Nat.add_mul, Nat.pow_succ, Nat.mul_comm (12 ^ d) 12]
  have hdiv : kk z / 12 ^ d = 12 + s := by
    rw [hz1, Nat.add_comm, Nat.add_mul_div_right _ _ hp, Nat.div_eq_of_lt (by omega)]
    omega
  have hmod : kk z % 12 ^ d = k' - 12 ^ d := by
    rw [hz1, Nat.add_comm, Nat.add_mul_mod_self_right, Nat.mod_eq_of_lt (by omega)]
  have hs : kk z / 12 ^ d % 12 = s := by rw [hdiv]; omega
  rw [hs]
  have hsP := IsP_stp hn hmv h1
  refine ⟨h1, y, hy, ?_, hdp, by omega, fun s' y' hs' hy' ey' hd' => ?_⟩
  · rw [e1, ← cp_as, iv_cp hn hsP, id_cp]
  · have h9 := PK_snoc hm (dp y') (kk y') (e y') s' (by omega) (hD y' hy').1
    rw [ey', ← cp_as, cp_iv hn (IsP_stp hn hmv (show s' < 2 * m by omega)), id_cp, hd'] at h9
    have h10 := b _ _ h9
    have r9 := PK_rng hm _ _ _ (hD y' hy').1
    rw [hd'] at r9
    have h11 : (s' + 1) * 12 ^ d ≤ s * 12 ^ d := Nat.mul_le_mul_right _ hs'
    rw [Nat.succ_mul] at h11
    omega
end WY
theorem q_xor1 : ∀ s : Nat, s < 12 → nI s ^^^ 1 = nI (if s % 2 = 0 then s + 1 else s - 1) := by decide +kernel
section CW
variable {n m N rm : Nat} {mv : Nat → Nat → Nat} {e nx : Nat → Nat → Nat} {dp kk : Nat → Nat}
theorem stp_x (hn : n ≤ 10) (hmv : ∀ i, i < m → IsP n (mv i)) {s : Nat} (hs : s < 2 * m) : stp mv (if s % 2 = 0 then s + 1 else s - 1) = iv (stp mv s) := by
  unfold stp
  by_cases h : s % 2 = 0
  · rw [if_pos h, if_neg (by omega), if_pos h, show (s + 1) / 2 = s / 2 by omega]
  · rw [if_neg h, if_pos (by omega), if_neg h, show (s - 1) / 2 = s / 2 by omega, iv_iv hn (hmv _ (by omega))]
/-- the class tells a step of a way -/
theorem stepOfWay_eq {I : MI} {L : ML} {x k : Nat} (hn : n ≤ 10) (hmv : ∀ i, i < m → IsP n (mv i)) (hm : m ≤ 6) (he : EL n (Gp n m mv) N e) (hD : DK m mv N e dp kk) (hX : NX m mv N e nx) (hN : N ≤ rm) (hrm : rm ≤ 5040) (h70 : ∀ x, x < N → I 70 x = nI (dp x)) (h74 : ∀ x, x < N → x ≠ 0 → I 74 x = nI (kk x % 12)) (h77 : ∀ s x, s < 2 * m → x < N → I (77 + s) x = nI (nx s x)) (hx : x < N) (hk : k < dp x) : f_X4_stepOfWay rm (nI x) (nI k) I L = some (nI (kk x / 12 ^ (dp x - 1 - k) % 12)) := by
  have hdl := DK_lt hn hm hmv he hD hx
  have z0 := (DK_0 hn hm hmv he hD).1
  unfold f_X4_stepOfWay
  rw [q_chk (by omega) (by omega), bnd_eq, q_ix (by omega), h70 x hx, show (1 : Int32) = nI 1 from rfl, pk_sub (by omega)]
  exact loop0 (fun fu z => f_X4_stepOfWay_12 rm (nI k) I L (fun (v3_8 : Int32) => chk (inb v3_8 rm) (some (I 74 (ix v3_8)))) fu z.1 z.2)
    (fun t z => t ≤ dp x - 1 - k ∧ ∃ y, y < N ∧ z.1 = nI y ∧ z.2 = nI (dp x - 1 - t) ∧ kk y = kk x / 12 ^ t ∧ dp y = dp x - t)
    (fun o => o = some (nI (kk x / 12 ^ (dp x - 1 - k) % 12))) (dp x - 1 - k) (by omega) (nI x, nI (dp x - 1)) ⟨Nat.zero_le _, x, hx, rfl, rfl, by rw [Nat.pow_zero, Nat.div_one], rfl⟩
    (fun fu t z ht hP => by
      obtain ⟨z1, z2⟩ := z
      obtain ⟨_, y, hy, p1, p2, p3, p4⟩ := hP
      dsimp only at p1 p2 ⊢
      subst p1 p2
      have hy0 : y ≠ 0 := fun g => by rw [g, z0] at p4; omega
      rw [f_X4_stepOfWay_12, ifc (q_le (by omega) (by omega))]
      by_cases c1 : dp x - 1 - t ≤ k
      · left
        rw [if_pos c1, q_chk (by omega) (by omega), q_ix (by omega), h74 y hy hy0, p3, show t = dp x - 1 - k by omega]
      · right
        refine ⟨by omega, ?_⟩
        obtain ⟨s1, w, hw, w1, w2, w3⟩ := DK_par hn hm hmv he hD hy hy0
        have hsx : (if kk y % 12 % 2 = 0 then kk y % 12 + 1 else kk y % 12 - 1) < 2 * m := by split <;> omega
        have hnx : nx (if kk y % 12 % 2 = 0 then kk y % 12 + 1 else kk y % 12 - 1) y = w := by
          obtain ⟨a1, a2⟩ := hX _ y hsx hy
          refine EL_inj he a1 hw ?_
          rw [a2, stp_x hn hmv s1, w3, cp_as, cp_iv hn (IsP_stp hn hmv s1), cp_id]
        rw [if_neg c1, q_chk (by omega) (by omega), q_ix (by omega), h74 y hy hy0, q_xor1 _ (by omega), q_chk (by omega) (by decide), q_chk (by omega) (by omega), bnd_eq, q_ix (by omega), h77 _ y hsx hy, hnx, bnd_eq, show dp x - 1 - t = (dp x - 1 - (t + 1)) + 1 by omega, pk_m1]
        exact ⟨(nI w, nI (dp x - 1 - (t + 1))), rfl, by omega, w, hw, rfl, rfl, by rw [w1, p3, Nat.div_div_eq_div_mul, ← Nat.pow_succ], by omega⟩)
theorem stepsCloser_eq {I : MI} {L : ML} {x : Nat} (hn : n ≤ 10) (hmv : ∀ i, i < m → IsP n (mv i)) (hm : m ≤ 6) (he : EL n (Gp n m mv) N e) (hD : DK m mv N e dp kk) (hX : NX m mv N e nx) (hN : N ≤ rm) (hrm : rm ≤ 5040) (h12 : I 69 12 = nI (2 * m)) (h70 : ∀ x, x < N → I 70 x = nI (dp x)) (h77 : ∀ s x, s < 2 * m → x < N → I (77 + s) x = nI (nx s x)) (hx : x < N) : f_X4_stepsCloser rm (nI x) I L = some (nI (oS (fun s => decide (dp (nx s x) < dp x)) (2 * m))) := by
  unfold f_X4_stepsCloser
  exact for0 (fun fu z => f_X4_stepsCloser_4 rm (nI x) I L fu z.1 z.2) (fun s => (nI (oS (fun s => decide (dp (nx s x) < dp x)) s), nI s)) (2 * m) _ (by omega)
    (fun fu => by
      dsimp only
      rw [f_X4_stepsCloser_4, h12, if_pos (by rw [q_le (by omega) (by omega)]; omega)])
    (fun fu s hs => by
      dsimp only
      obtain ⟨a1, a2⟩ := hX s x hs hx
      have d1 := DK_lt hn hm hmv he hD hx
      have d2 := DK_lt hn hm hmv he hD a1
      rw [f_X4_stepsCloser_4, h12, if_neg (by rw [q_le (by omega) (by omega)]; omega), q_chk (by omega) (by decide), q_chk (by omega) (by omega), q_ix (by omega), q_ix (by omega), h77 s x hs hx, q_chk (by omega) (by omega), q_chk (by omega) (by omega), q_ix (by omega), h70 x hx, h70 _ a1, ifc (q_le (by omega) (by omega))]
      by_cases c : dp x ≤ dp (nx s x)
      · rw [if_pos c, bnd_eq, nI_1, oS_f (P := fun s => decide (dp (nx s x) < dp x)) (decide_eq_false (by omega))]
      · rw [if_neg c, bnd_eq, q_shl1 (by omega), q_or, bnd_eq, nI_1, oS_t (P := fun s => decide (dp (nx s x) < dp x)) (decide_eq_true (by omega))])
theorem countDeep_eq {I : MI} {L : ML} {d : Nat} (hNr : ∀ x, x < N → dp x < 2 ^ 31) (hN : N ≤ rm) (hrm : rm ≤ 5040) (h1 : I 69 1 = nI N) (h70 : ∀ x, x < N → I 70 x = nI (dp x)) (hd : d < 2 ^ 31) : f_X4_countDeep rm (nI d) I L = some (nI (cT (fun x => decide (dp x = d)) N)) := by
  unfold f_X4_countDeep
  exact for0 (fun fu z => f_X4_countDeep_4 rm (nI d) I L fu z.1 z.2) (fun x => (nI (cT (fun x => decide (dp x = d)) x), nI x)) N _ (by omega)
    (fun fu => by
      dsimp only
      rw [f_X4_countDeep_4, h1, if_pos (by rw [q_le (by omega) (by omega)]; omega)])
    (fun fu x hx => by
      dsimp only
      rw [f_X4_countDeep_4, h1, if_neg (by rw [q_le (by omega) (by omega)]; omega), q_chk (by omega) (by omega), q_ix (by omega), h70 x hx, ifc (q_eq (hNr x hx) hd)]
      by_cases c : dp x = d
      · rw [if_pos c, bnd_eq, nI_1, bnd_eq, nI_1, cT_t (P := fun x => decide (dp x = d)) (decide_eq_true c)]
      · rw [if_neg c, bnd_eq, nI_1, cT_f (P := fun x => decide (dp x = d)) (decide_eq_false c)])
theorem firstDeep_eq {I : MI} {L : ML} {d x0 : Nat} (hNr : ∀ x, x < N → dp x < 2 ^ 31) (hN : N ≤ rm) (hrm : rm ≤ 5040) (h1 : I 69 1 = nI N) (h70 : ∀ x, x < N → I 70 x = nI (dp x)) (hd : d < 2 ^ 31) (hx0 : x0 < N) (hx1 : dp x0 = d) (hx2 : ∀ x, x < x0 → dp x ≠ d) : f_X4_firstDeep rm (nI d) I L = some (nI x0) := by
  unfold f_X4_firstDeep
  exact for0 (fun fu z => f_X4_firstDeep_2 rm (nI d) I L fu z) (fun x => nI x) x0 _ (by omega)
    (fun fu => by
      rw [f_X4_firstDeep_2, h1, if_neg (by rw [q_le (by omega) (by omega)]; omega), q_chk (by omega) (by omega), q_ix (by omega), h70 x0 hx0, hx1, if_pos rfl])
    (fun fu x hx => by
      rw [f_X4_firstDeep_2, h1, if_neg (by rw [q_le (by omega) (by omega)]; omega), q_chk (by omega) (by omega), q_ix (by omega), h70 x (by omega), if_neg (by rw [q_eq (hNr x (by omega)) hd]; exact hx2 x hx), bnd_eq, nI_1])
def sm (f : Nat → Nat) : Nat → Nat
  | 0 => 0
  | i + 1 => sm f i + f i
theorem sumOfDepths_eq {I : MI} {L : ML} (hN : N ≤ rm) (hrm : rm ≤ 5040) (h1 : I 69 1 = nI N) (h70 : ∀ x, x < N → I 70 x = nI (dp x)) : f_X4_sumOfDepths rm I L = some (nI (sm dp N)) := by
  unfold f_X4_sumOfDepths
  exact for0 (fun fu z => f_X4_sumOfDepths_4 rm I L fu z.1 z.2) (fun x => (nI (sm dp x), nI x)) N _ (by omega)
    (fun fu => by
      dsimp only
      rw [f_X4_sumOfDepths_4, h1, if_pos (by rw [q_le (by omega) (by omega)]; omega)])
    (fun fu x hx => by
      dsimp only
      rw [f_X4_sumOfDepths_4, h1, if_neg (by rw [q_le (by omega) (by omega)]; omega), q_chk (by omega) (by omega), bnd_eq, q_ix (by omega), h70 x hx, nI_add, bnd_eq, nI_1]
      rfl)
end CW
/-! The reference's ways -/
theorem nI_m1p (s : Nat) : nI s + (-1) + 1 = nI s := by
  rw [Int32.add_assoc, show (-1 : Int32) + 1 = 0 by decide, Int32.add_zero]
section RW2
variable {n m N : Nat} {mv : Nat → Nat → Nat} {st : Nat → Nat} {e : Nat → Nat → Nat} {dp kk : Nat → Nat}
abbrev WS : List Nat := [46, 48, 49, 50, 51, 57, 58, 59]
theorem wayTo44 {L : ML} {a z d c : Nat} {v2 : Int32} (hO : OKm n m mv st) (he : EL n (Gp n m mv) N e) (hN : N ≤ 5040) (hD : DK m mv N e dp kk) (hz : z < N) (hd : dp z = d + 1) (k0 : Int32 → MI → ML → Option (Int32 × Mm)) {J : MI} (hA : AD J n m mv st N e) (h61 : ∀ x, x < N → J 61 x = nI (dp x)) (h46 : Row J 46 0 (e z)) :
    ∃ I' y, f_X8_wayTo_44 a v2 (nI (d + 1 + c)) (nI c) k0 FU (-1) J L = k0 (nI (kk z / 12 ^ d % 12)) I' L ∧ y < N ∧ dp y = d ∧ kk y = 12 ^ d + kk z % 12 ^ d ∧ Row I' 48 0 (e y) ∧ Fr WS J I' := by
  have hG := Gp_Sub hO.1 hO.2.2.1
  have hn := hO.1
  have hm := hO.2.1
  have hmv := hO.2.2.1
  have hzl := DK_lt hn hm hmv he hD hz
  obtain ⟨f1, y, hy, f2, f3, f4, f5⟩ := DK_first hn hm hmv he hD hz hd
  generalize hs0 : kk z / 12 ^ d % 12 = s0 at *
  have key := loop0 (fun fu w => f_X8_wayTo_44 a v2 (nI (d + 1 + c)) (nI c) k0 fu w.1 w.2.1 w.2.2)
    (fun s w => s ≤ s0 ∧ w.1 = nI s + (-1) ∧ w.2.2 = L ∧ Row w.2.1 46 0 (e z) ∧ Fr WS J w.2.1 ∧ AD w.2.1 n m mv st N e)
    (fun o => ∃ I' y, o = k0 (nI s0) I' L ∧ y < N ∧ dp y = d ∧ kk y = 12 ^ d + kk z % 12 ^ d ∧ Row I' 48 0 (e y) ∧ Fr WS J I') s0 (by omega) (nI 0 + (-1), J, L) ⟨Nat.zero_le _, rfl, rfl, h46, Fr.refl, hA⟩
    (fun fu s w hs hP => by
      obtain ⟨w1, K, M⟩ := w
      obtain ⟨_, p1, p2, p3, p4, p5⟩ := hP
      dsimp only at p1 p2 p3 p4 p5 ⊢
      subst p1 p2
      have hs2 : s < 2 * m := by omega
      obtain ⟨K2, j1, j2, j3⟩ := laysStep_eq (I := K) (L := M) (s := s) (a := 49) hO p5.1.2.1 hs2 (by decide) (by decide)
      have hsP := IsP_stp hn hmv hs2
      have hsv := IsP_iv hn hsP
      rw [f_X8_wayTo_44, bnd_eq, nI_m1p, ob j1, ob (inverts_eq j2 (IsP_mono hsP hn) (by decide))]
      have r46 : Row (wp K2 50 0 (iv (stp mv s))) 46 0 (e z) := Row_ne (by decide) (Row_of (j3 46 (by decide)) p3)
      rw [ob (makes_eq Row_wp r46 (IsP_mono hsv hn) (by decide) (by decide))]
      generalize hK3 : wp (wp K2 50 0 (iv (stp mv s))) 48 0 (cp (iv (stp mv s)) (e z)) = K3
      have g1 : Fr [48, 49, 50, 51] K K3 := by rw [← hK3]; exact ((j3.mono (by decide)).trans (Fr_wp (by decide))).trans (Fr_wp (by decide))
      have r48 : Row K3 48 0 (cp (iv (stp mv s)) (e z)) := by rw [← hK3]; exact Row_wp
      have A3 := p5.fr g1 (by decide)
      have hin : Gp n m mv (cp (iv (stp mv s)) (e z)) := hG.2.2.1 _ _ (hG.2.2.2 _ (Gp_stp hn hmv hs2)) (he.1 z hz)
      obtain ⟨r, K4, k1, k2, k3⟩ := placeOf8_eq (L := M) (a := 48) hn hG (by decide) (hG.1 _ hin) A3.1.1 A3.1.2.2.1 r48 he
      rcases k3 with ⟨y', v1, v2', v3⟩ | ⟨g, _⟩
      · subst v3
        have g2 : Fr [48, 49, 50, 51, 57, 58, 59] K K4 := (g1.mono (by decide)).trans (k2.mono (by decide))
        have g3 : Fr WS J K4 := p4.trans (g2.mono (by decide))
        have hdl := DK_lt hn hm hmv he hD v1
        have e61 : K4 61 y' = nI (dp y') := by rw [g3 61 (by decide)]; exact h61 y' v1
        rw [ob k1, q_chk (by omega) (by decide), q_ix (by omega)]
        dsimp only
        rw [pk_sub (by omega), show (1 : Int32) = nI 1 from rfl, pk_sub (by omega), show d + 1 + c - c - 1 = d by omega]
        by_cases e1 : s = s0
        · left
          subst e1
          have ey : y' = y := EL_inj he v1 hy (v2'.trans f2.symm)
          subst ey
          rw [if_pos (by rw [e61, f3])]
          exact ⟨K4, y', rfl, v1, f3, f4, by rw [v2']; exact Row_of (k2 48 (by decide)) r48, g3⟩
        · right
          refine ⟨by omega, ?_⟩
          rw [if_neg (by rw [e61, q_eq (by omega) (by omega)]; exact f5 s y' (by omega) v1 v2')]
          exact ⟨(nI s, K4, M), rfl, by omega, (pk_m1 s).symm, rfl, Row_of (g2 46 (by decide)) p3, g3, p5.fr g2 (by decide)⟩
      · exact absurd hin g)
  rw [nI_m1] at key
  exact key
theorem wayTo_eq {I : MI} {L : ML} {a x k : Nat} (hO : OKm n m mv st) (he : EL n (Gp n m mv) N e) (hN : N ≤ 5040) (hD : DK m mv N e dp kk) (hA : AD I n m mv st N e) (h61 : ∀ x, x < N → I 61 x = nI (dp x)) (hx : x < N) (ha : a ≠ 46) (hr : Row I a 0 (e x)) :
    (∃ I', f_X8_wayTo a (-1) I L = some (nI (dp x), I', L) ∧ Fr WS I I') ∧ (k < 2 ^ 31 → dp x ≤ k → ∃ I', f_X8_wayTo a (nI k) I L = some (-1, I', L) ∧ Fr WS I I') ∧ (k < dp x → ∃ I', f_X8_wayTo a (nI k) I L = some (nI (kk x / 12 ^ (dp x - 1 - k) % 12), I', L) ∧ Fr WS I I') := by
  have hG := Gp_Sub hO.1 hO.2.2.1
  have hn := hO.1
  have hm := hO.2.1
  have hmv := hO.2.2.1
  have hdl := DK_lt hn hm hmv he hD hx
  have f0 : Fr WS I (wp I 46 0 (e x)) := Fr_wp (by decide)
  have A0 := hA.fr f0 (by decide)
  obtain ⟨r, I1, k1, k2, k3⟩ := placeOf8_eq (L := L) (a := 46) hn hG (by decide) (EL_P hG he hx) A0.1.1 A0.1.2.2.1 Row_wp he
  have hr1 : r = nI x := by
    rcases k3 with ⟨y, w1, w2, w3⟩ | ⟨g, _⟩
    · rw [w3, EL_inj he w1 hx w2]
    · exact absurd (he.1 x hx) g
  subst hr1
  have f1 : Fr WS I I1 := f0.trans (k2.mono (by decide))
  have A1 := hA.fr f1 (by decide)
  have e61 : I1 61 x = nI (dp x) := by rw [f1 61 (by decide)]; exact h61 x hx
  have base : ∀ k, f_X8_wayTo a k I L = if k = -1 then some (nI (dp x), I1, L) else if k < nI (dp x) then f_X8_wayTo_41 a k (nI (dp x)) FU 0 I1 L else some (-1, I1, L) := fun k => by
    unfold f_X8_wayTo
    rw [ob (copies10 hr ha), ob k1, q_chk (by omega) (by decide), bnd_eq, q_ix (by omega)]
    dsimp only
    by_cases h1 : k = -1
    · rw [if_pos h1, if_pos h1, e61]
    · rw [if_neg h1, if_neg h1]
      by_cases h2 : k < nI (dp x)
      · rw [if_pos (show k < I1 61 x by rw [e61]; exact h2), if_pos h2, e61]
      · rw [if_neg (show ¬ k < I1 61 x by rw [e61]; exact h2), if_neg h2]
  refine ⟨⟨I1, by rw [base, if_pos rfl], f1⟩, fun hk hle => ⟨I1, by rw [base, if_neg (nI_nm1 hk), if_neg (by rw [q_lt hk (by omega)]; omega)], f1⟩, fun hk => ?_⟩
  rw [base, if_neg (nI_nm1 (by omega)), if_pos (by rw [q_lt (by omega) (by omega)]; exact hk)]
  have key := loop0 (fun fu w => f_X8_wayTo_41 a (nI k) (nI (dp x)) fu w.1 w.2.1 w.2.2)
    (fun c w => c ≤ k ∧ w.1 = nI c ∧ w.2.2 = L ∧ (∃ z, z < N ∧ dp z = dp x - c ∧ kk z = 12 ^ (dp x - c) + kk x % 12 ^ (dp x - c) ∧ Row w.2.1 46 0 (e z)) ∧ Fr WS I w.2.1)
    (fun o => ∃ I', o = some (nI (kk x / 12 ^ (dp x - 1 - k) % 12), I', L) ∧ Fr WS I I') k (by omega) (nI 0, I1, L) ⟨Nat.zero_le _, rfl, rfl, ⟨x, hx, rfl, by
      have r := PK_rng hm _ _ _ (hD x hx).1
      have : kk x % 12 ^ dp x = kk x - 12 ^ dp x := by
        rw [Nat.mod_eq_sub_mod r.1, Nat.mod_eq_of_lt (by omega)]
      rw [Nat.sub_zero, this]; omega, Row_of (k2 46 (by decide)) Row_wp⟩, f1⟩
    (fun fu c w hc hP => by
      obtain ⟨w1, K, M⟩ := w
      obtain ⟨_, p1, p2, ⟨z, hz, z1, z2, z3⟩, p4⟩ := hP
      dsimp only at p1 p2 z3 p4 ⊢
      subst p1 p2
      have A2 := hA.fr p4 (by decide)
      obtain ⟨d, hd⟩ : ∃ d, dp x - c = d + 1 := ⟨dp x - c - 1, by omega⟩
      rw [hd] at z1 z2
      rw [f_X8_wayTo_41]
      generalize hk0 : (fun (v5_20 : Int32) (I_21 : MI) (L_22 : ML) => if nI c = nI k then some (v5_20, I_21, L_22) else Option.bind (f_X8_copies 48 10 0 46 10 0 I_21 L_22) (fun q_23 => bnd (nI c + 1 : Int32) (fun v4_24 => f_X8_wayTo_41 a (nI k) (nI (dp x)) fu v4_24 q_23.1 q_23.2))) = k0
      obtain ⟨I', y, j1, j2, j3, j4, j5, j6⟩ := wayTo44 (L := M) (a := a) (v2 := nI k) (c := c) hO he hN hD hz z1 k0 A2 (fun x hx => by rw [p4 61 (by decide)]; exact h61 x hx) z3
      rw [show d + 1 + c = dp x by omega] at j1
      have f6 : Fr WS I I' := p4.trans j6
      rw [j1, ← hk0]
      dsimp only
      have hdig : kk z / 12 ^ d % 12 = kk x / 12 ^ d % 12 := by
        have h12 : 12 ^ (d + 1) = 12 ^ d * 12 := Nat.pow_succ 12 d
        rw [z2, h12]
        have hp : 0 < 12 ^ d := Nat.pow_pos (by decide)
        rw [show 12 ^ d * 12 + kk x % (12 ^ d * 12) = kk x % (12 ^ d * 12) + 12 ^ d * 12 by omega, Nat.add_mul_div_left _ _ hp, Nat.add_mod_right, Nat.mod_mul_right_div_self, Nat.mod_mod]
      rw [hdig]
      by_cases c1 : c = k
      · left
        subst c1
        rw [if_pos rfl, show dp x - 1 - c = d by omega]
        exact ⟨I', rfl, f6⟩
      · right
        refine ⟨by omega, ?_⟩
        rw [if_neg (by rw [q_eq (by omega) (by omega)]; exact c1), ob (copies10 j5 (by decide)), bnd_eq, nI_1]
        refine ⟨(nI (c + 1), wp I' 46 0 (e y), M), rfl, by omega, rfl, rfl, ⟨y, j2, by omega, ?_, Row_wp⟩, f6.trans (Fr_wp (by decide))⟩
        rw [show dp x - (c + 1) = d by omega, j4, z2]
        refine congrArg (fun t => 12 ^ d + t) ?_
        have h12 : 12 ^ (d + 1) = 12 ^ d * 12 := Nat.pow_succ 12 d
        rw [h12, Nat.mul_add_mod, Nat.mod_mul_right_mod])
  rw [nI_0] at key
  exact key
end RW2
