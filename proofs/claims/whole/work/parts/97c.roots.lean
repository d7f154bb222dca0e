/-! Roots, the slightest, colourings -/
section RO
variable {n m N rm : Nat} {mv : Nat → Nat → Nat} {st : Nat → Nat} {I : MI} {L : ML} {e : Nat → Nat → Nat} {p : Nat → Nat}
theorem pw_red {k : Nat} (hn : n ≤ 10) (hp : IsP n p) : pw p (k % lcf p n) = pw p k := by
  funext i
  by_cases hi : i < n
  · have h1 := pw_mul (pw_lcf hn hp hi) (k / lcf p n)
    have h2 : k = (k / lcf p n) * lcf p n + k % lcf p n := by rw [Nat.mul_comm]; exact (Nat.div_add_mod k (lcf p n)).symm
    have h3 : pw p k i = pw p (k % lcf p n) (pw p ((k / lcf p n) * lcf p n) i) := by
      rw [← pw_ad, ← h2]
    rw [h3, h1]
  · rw [(IsP_pw hp _).2.1 i (by omega), (IsP_pw hp _).2.1 i (by omega)]
theorem firstRoot18 {x k : Nat} {q : Nat → Nat} {b : Bool} (hn : n ≤ 10) (hG : Sub n (Gp n m mv)) (he : EL n (Gp n m mv) N e) (hL : Lst I L rm n N e) (hq : IsP n q) (hk : k < 1001) (hx : x < N) (k0 : Int32 → Option Int32) (hb : b = true ↔ pw (e x) k = q) : f_X4_firstRoot_18 rm (tn n q) (nI k) (nI x) I L k0 FU 1 0 = k0 (b2i b) := by
  obtain ⟨l0, l1, l2, l3, l4, l5⟩ := hL
  have eP := EL_P hG he hx
  have hwP := IsP_pw eP k
  have := loop0 (fun fu (z : Int32 × Int32) => f_X4_firstRoot_18 rm (tn n q) (nI k) (nI x) I L k0 fu z.1 z.2) (fun j z => j ≤ n ∧ z.2 = nI j ∧ ((z.1 = 1 ∧ ∀ t, t < j → pw (e x) k t = q t) ∨ (z.1 = 0 ∧ b = false))) (fun o => o = k0 (b2i b)) n (by omega) (1, nI 0) ⟨Nat.zero_le _, rfl, Or.inl ⟨rfl, fun t ht => by omega⟩⟩
    (fun fu j z hj hP => by
      obtain ⟨z1, z2⟩ := z
      obtain ⟨_, p1, p2⟩ := hP
      dsimp only at p1 p2 ⊢
      subst p1
      rw [f_X4_firstRoot_18, l2, ifc (q_le (by omega) (by omega))]
      by_cases c1 : n ≤ j
      · left
        rw [if_pos c1]
        rcases p2 with ⟨g1, g2⟩ | ⟨g1, g2⟩
        · rw [g1, hb.mpr (funext fun t => by
            by_cases ht : t < n
            · exact g2 t (by omega)
            · rw [hwP.2.1 t (by omega), hq.2.1 t (by omega)])]; rfl
        · rw [g1, g2]; rfl
      · rw [if_neg c1]
        rcases p2 with ⟨g1, g2⟩ | ⟨g1, g2⟩
        · right
          subst g1
          have i1 := hwP.1 j (by omega)
          have i2 := hq.1 j (by omega)
          refine ⟨by omega, ?_⟩
          rw [if_neg (by decide), q_chk (by omega) (by omega), q_ix (by omega), l5 x hx, ob (imageOfPower_p hn eP (show j < n by omega) hk), ob (tn_img hn hq (show j < n by omega)), ifc (q_eq (by omega) (by omega))]
          by_cases c : pw (e x) k j = q j
          · refine ⟨(1, nI (j + 1)), ?_, by omega, rfl, Or.inl ⟨rfl, fun t ht => ?_⟩⟩
            · rw [if_pos c, bnd_eq, nI_1]
            · by_cases e1 : t = j
              · rw [e1]; exact c
              · exact g2 t (by omega)
          · refine ⟨(0, nI (j + 1)), ?_, by omega, rfl, Or.inr ⟨rfl, ?_⟩⟩
            · rw [if_neg c, bnd_eq, nI_1]
            · cases b
              · rfl
              · exact absurd (congrFun (hb.mp rfl) j) c
        · left
          rw [if_pos g1, g1, g2]; rfl)
  rw [nI_0] at this
  exact this
theorem firstRoot_eq {k : Nat} {q : Nat → Nat} {B : Nat → Bool} (hn : n ≤ 10) (hG : Sub n (Gp n m mv)) (he : EL n (Gp n m mv) N e) (hL : Lst I L rm n N e) (hq : IsP n q) (hk : k < 1001) (hB : ∀ x, x < N → (B x = true ↔ pw (e x) k = q)) : ∃ r, f_X4_firstRoot rm (tn n q) (nI k) I L = some r ∧ ((∃ x, x < N ∧ B x = true ∧ (∀ y, y < x → B y = false) ∧ r = nI x) ∨ ((∀ y, y < N → B y = false) ∧ r = -1)) := by
  have l3 := hL.2.2.2.1
  have l4 := hL.2.2.2.2.1
  unfold f_X4_firstRoot
  have := loop0 (fun fu z => f_X4_firstRoot_3 rm (tn n q) (nI k) I L fu z) (fun i z => i ≤ N ∧ z = nI i ∧ ∀ y, y < i → B y = false) (fun o => ∃ r, o = some r ∧ ((∃ x, x < N ∧ B x = true ∧ (∀ y, y < x → B y = false) ∧ r = nI x) ∨ ((∀ y, y < N → B y = false) ∧ r = -1))) N (by omega) (nI 0) ⟨Nat.zero_le _, rfl, fun y hy => by omega⟩
    (fun fu i z hi hP => by
      obtain ⟨_, p1, p2⟩ := hP
      subst p1
      rw [f_X4_firstRoot_3, hL.2.1, ifc (q_le (by omega) (by omega))]
      by_cases c1 : N ≤ i
      · left
        rw [if_pos c1]
        exact ⟨-1, rfl, Or.inr ⟨fun y hy => p2 y (by omega), rfl⟩⟩
      · rw [if_neg c1, firstRoot18 hn hG he hL hq hk (show i < N by omega) _ (hB i (by omega))]
        cases c : B i
        · right
          refine ⟨by omega, nI (i + 1), ?_, by omega, rfl, fun y hy => ?_⟩
          · rw [if_pos b2i_f, bnd_eq, nI_1]
          · by_cases e1 : y = i
            · rw [e1]; exact c
            · exact p2 y (by omega)
        · left
          rw [if_neg b2i_t]
          exact ⟨_, rfl, Or.inl ⟨i, by omega, c, p2, rfl⟩⟩)
  rw [nI_0] at this
  exact this
theorem root49_eq {k : Nat} {q : Nat → Nat} {B : Nat → Bool} (hO : OKm n m mv st) (he : EL n (Gp n m mv) N e) (hN : N ≤ 5040) (hA : AD I n m mv st N e) (hq : IsP n q) (hr : Row I 47 0 q) (hk : k < 1001) (hB : ∀ x, x < N → (B x = true ↔ pw (e x) k = q)) (k0 : MI → ML → Option (Int32 × Mm)) : ∃ I', Fr [46, 48] I I' ∧ ((∃ x, x < N ∧ B x = true ∧ (∀ y, y < x → B y = false) ∧ f_X8_root_49 (nI k) k0 FU 0 I L = some (nI x, I', L)) ∨ ((∀ y, y < N → B y = false) ∧ f_X8_root_49 (nI k) k0 FU 0 I L = k0 I' L)) := by
  have hn := hO.1
  have hG := Gp_Sub hn hO.2.2.1
  have := loop0 (fun fu (z : Int32 × MI × ML) => f_X8_root_49 (nI k) k0 fu z.1 z.2.1 z.2.2) (fun i z => i ≤ N ∧ z.1 = nI i ∧ z.2.2 = L ∧ Fr [46, 48] I z.2.1 ∧ ∀ y, y < i → B y = false) (fun o => ∃ I', Fr [46, 48] I I' ∧ ((∃ x, x < N ∧ B x = true ∧ (∀ y, y < x → B y = false) ∧ o = some (nI x, I', L)) ∨ ((∀ y, y < N → B y = false) ∧ o = k0 I' L))) N (by omega) (nI 0, I, L) ⟨Nat.zero_le _, rfl, rfl, Fr.refl, fun y hy => by omega⟩
    (fun fu i z hi hP => by
      obtain ⟨z1, K, M⟩ := z
      obtain ⟨_, p1, p2, p4, p5⟩ := hP
      dsimp only at p1 p2 p4 ⊢
      subst p1 p2
      have A := hA.fr p4 (by decide)
      rw [f_X8_root_49, A.2.1, ifc (q_le (by omega) (by omega))]
      by_cases c1 : N ≤ i
      · left
        rw [if_pos c1]
        exact ⟨K, p4, Or.inr ⟨fun y hy => p5 y (by omega), rfl⟩⟩
      · have eP := EL_P hG he (show i < N by omega)
        have f1 : Fr [46, 48] I (wp K 46 0 (e i)) := p4.trans (Fr_wp (by decide))
        have f2 : Fr [46, 48] I (wp (wp K 46 0 (e i)) 48 0 (pw (e i) k)) := f1.trans (Fr_wp (by decide))
        have A1 := hA.fr f1 (by decide)
        obtain ⟨d1, d2⟩ := dv_rng (lcf_le hn eP (Nat.le_refl n))
        have ml : k % lcf (e i) n < 10000 := by have := Nat.mod_le k (lcf (e i) n); omega
        have pe := powers_eq (I := wp K 46 0 (e i)) (L := M) (a := 46) (b := 48) (IsP_mono eP hn) Row_wp (by decide) ml
        rw [pw_red hn eP] at pe
        have sm := areSame_eq (I := wp (wp K 46 0 (e i)) 48 0 (pw (e i) k)) (L := M) (a := 48) (b := 47) Row_wp (Row_of (f2 47 (by decide)) hr) (IsP_mono (IsP_pw eP k) hn) (IsP_mono hq hn) (hB i (by omega))
        rw [if_neg c1, ob (laysOne_eq hN A.2.2 (show i < N by omega) (by decide)), ob (orderOf__eq hn eP A1.1.1 Row_wp), chk_pos (decide_eq_true (nI_ne0 (by omega) (by omega))), q_irem (by omega) (by omega) (by omega), ob pe, ob sm]
        cases c : B i
        · right
          refine ⟨by omega, (nI (i + 1), wp (wp K 46 0 (e i)) 48 0 (pw (e i) k), M), ?_, by omega, rfl, rfl, f2, fun y hy => ?_⟩
          · rw [if_pos b2i_f, bnd_eq, nI_1]
          · by_cases e1 : y = i
            · rw [e1]; exact c
            · exact p5 y (by omega)
        · left
          rw [if_neg b2i_t]
          exact ⟨_, f2, Or.inl ⟨i, by omega, c, p5, rfl⟩⟩)
  rw [nI_0] at this
  exact this
theorem first_un {B : Nat → Bool} {x y : Nat} (h1 : B x = true) (h2 : ∀ z, z < x → B z = false) (h3 : B y = true) (h4 : ∀ z, z < y → B z = false) : x = y := by
  rcases Nat.lt_trichotomy x y with g | g | g
  · have := h4 x g; rw [h1] at this; cases this
  · exact g
  · have := h2 y g; rw [h3] at this; cases this
theorem PR_49h : PR_49 Inv := by
  intro I L rm x a ⟨n, m, mv, st, h⟩
  obtain ⟨hO, hC, hR, hP, hT, hU, hF, hS⟩ := id h
  have hn := hO.1
  have hG := Gp_Sub hn hO.2.2.1
  obtain ⟨N, e, he⟩ := EL_ex hn hG
  have hu := hurdle_eq hO hC he
  rcases rd hn x with ⟨q, hq, h0, e1, e2⟩ | ⟨e1, e2⟩
  · rcases dshR (lo := 1) (hi := 1000) a (by decide) (by decide) with ⟨k, k1, k2, k3, hin, c1, c2⟩ | ⟨hin, hb⟩
    · have hin : f_X8_isIn a.toInt64 1 1000 = some true := hin
      have c1 : ¬ a < 1 := c1
      have c2 : a ≤ 1000 := c2
      rcases hz_3 n N with hz | hz | hz
      · obtain ⟨hN, hn0⟩ := hz_N hz
        rw [hz] at hu
        obtain ⟨I1, L1, rm1, a1, a2⟩ := all_eq hO hC he hN
        obtain ⟨B, hB⟩ := dec_ex (fun x => pw (e x) k = q)
        obtain ⟨r, r1, r2⟩ := firstRoot_eq hn hG he a2.2.2.2.2.1 hq (show k < 1001 by omega) (fun x _ => hB x)
        have ref : ∀ s : Int32, ∃ J I3 I4, f_X8_lies x 47 (up2 I1 0 6 s) L1 = some (true, wp (up2 I1 0 6 s) 47 0 q, L1) ∧ f_X8_whySmall 0 (wp (up2 I1 0 6 s) 47 0 q) L1 = some (0, J, L1) ∧ f_X8_laysAll (is8 J 0) L1 = some (I3, L1) ∧ RDY I4 n m mv st ∧ Q8 (up2 I1 0 6 s) I4 ∧ I4 43 0 = 0 ∧ ((∃ x, x < N ∧ B x = true ∧ (∀ y, y < x → B y = false) ∧ f_X8_root_49 a (fun (I_16 : MI) (L_17 : ML) => some (-1, up2 I_16 43 0 5, L_17)) FU 0 I3 L1 = some (nI x, I4, L1)) ∨ ((∀ y, y < N → B y = false) ∧ f_X8_root_49 a (fun (I_16 : MI) (L_17 : ML) => some (-1, up2 I_16 43 0 5, L_17)) FU 0 I3 L1 = some (-1, up2 I4 43 0 5, L1))) := fun s => by
          have hR1 := RDY_a (s := s) a2 hR
          have j3 : Fr [47] (up2 I1 0 6 s) (wp (up2 I1 0 6 s) 47 0 q) := Fr_wp (by decide)
          obtain ⟨J, I3, w1, w2, w3, w4, w5, w6⟩ := ref_l (L := L1) hO (hR1.fr j3 (by decide)) he hz hN
          obtain ⟨I4, y1, y2⟩ := root49_eq (L := L1) hO he hN w3 hq (Row_of (w6 47 (by decide)) Row_wp) (show k < 1001 by omega) (fun x _ => hB x) (fun (I_16 : MI) (L_17 : ML) => some (-1, up2 I_16 43 0 5, L_17))
          exact ⟨J, I3, I4, e2 47 _ L1 (by decide) hR1.1, w1, w2, (w3.fr y1 (by decide)).1.rdy, ((Q8_fr j3 (by decide)).trans w4).trans (Q8_fr y1 (by decide)), by rw [y1 43 (by decide)]; exact w5, by rw [k3]; exact y2⟩
        rw [← k3] at r1
        rcases r2 with ⟨x', x1, x2, x3, x4⟩ | ⟨x1, x4⟩
        · subst x4
          obtain ⟨J, I3, I4, v1, v2, v3, v4, v5, v6, v7⟩ := ref 0
          have y3 : f_X8_root_49 a (fun (I_16 : MI) (L_17 : ML) => some (-1, up2 I_16 43 0 5, L_17)) FU 0 I3 L1 = some (nI x', I4, L1) := by
            rcases v7 with ⟨y, z1, z2, z3, z4⟩ | ⟨z, _⟩
            · rw [first_un z2 z3 x2 x3] at z4; exact z4
            · have := z x' x1; rw [x2] at this; cases this
          refine ⟨nI x', up2 I1 0 6 0, L1, rm1, ?_, a2.1, I4, L1, ?_, IV_a h a2 v5 v4 v6⟩
          · simp (config := { decide := true }) only [f_X7_root, read_eq hC.1 e1, cmp_tn' hn hq, c1, c2, hu, nI_0, a1, a2.kA, a2.kB, r1, nI_pos' (show x' < 2 ^ 31 by omega), obs, bnd_eq, is_0, is_1, is_2, is_3, is_4, is_5, is_6, is_9, tell_eq, refuse_eq, refuse8_eq, b2i_1, b2i_0, if_true, if_false, ↓reduceIte]
          · simp (config := { decide := true }) only [f_X8_root, v1, hin, v2, v3, y3, obs, bnd_eq, is_0, is_1, is_2, is_3, is_4, is_5, is_6, is_9, tell_eq, refuse_eq, refuse8_eq, b2i_1, b2i_0, if_true, if_false, ↓reduceIte]
        · subst x4
          obtain ⟨J, I3, I4, v1, v2, v3, v4, v5, v6, v7⟩ := ref 5
          have y3 : f_X8_root_49 a (fun (I_16 : MI) (L_17 : ML) => some (-1, up2 I_16 43 0 5, L_17)) FU 0 I3 L1 = some (-1, up2 I4 43 0 5, L1) := by
            rcases v7 with ⟨y, z1, z2, z3, z4⟩ | ⟨_, z⟩
            · have := x1 y z1; rw [z2] at this; cases this
            · exact z
          refine ⟨-1, up2 I1 0 6 5, L1, rm1, ?_, a2.1, up2 I4 43 0 5, L1, ?_, IV_a h a2 (v5.trans Q8_r) (RDY_r v4) up2_s⟩
          · simp (config := { decide := true }) only [f_X7_root, read_eq hC.1 e1, cmp_tn' hn hq, c1, c2, hu, nI_0, a1, a2.kA, a2.kB, r1, obs, bnd_eq, is_0, is_1, is_2, is_3, is_4, is_5, is_6, is_9, tell_eq, refuse_eq, refuse8_eq, b2i_1, b2i_0, if_true, if_false, ↓reduceIte]
          · simp (config := { decide := true }) only [f_X8_root, v1, hin, v2, v3, y3, obs, bnd_eq, is_0, is_1, is_2, is_3, is_4, is_5, is_6, is_9, tell_eq, refuse_eq, refuse8_eq, b2i_1, b2i_0, if_true, if_false, ↓reduceIte]
      · rw [hz] at hu
        have j3 : Fr [47] (up2 I 0 6 5) (wp (up2 I 0 6 5) 47 0 q) := Fr_wp (by decide)
        obtain ⟨I2, b1, b2, b3, b4⟩ := wS (L := L) hO ((RDY_s (s := 5) hR).fr j3 (by decide)) he hz
        refine ⟨-1, up2 I 0 6 5, L, rm, ?_, RS_r, is8 I2 5, L, ?_, IV_q h (((Q8_fr j3 (by decide)).trans b3).trans Q8_is) (RDY_is b2) is8_0⟩
        · simp (config := { decide := true }) only [f_X7_root, read_eq hC.1 e1, cmp_tn' hn hq, c1, c2, hu, show nI 5 = 5 from rfl, obs, bnd_eq, is_0, is_1, is_2, is_3, is_4, is_5, is_6, is_9, tell_eq, refuse_eq, refuse8_eq, b2i_1, b2i_0, if_true, if_false, ↓reduceIte]
        · simp (config := { decide := true }) only [f_X8_root, e2 47 _ L (by decide) (RDY_s (s := 5) hR).1, hin, b1, show nI 5 = 5 from rfl, obs, bnd_eq, is_0, is_1, is_2, is_3, is_4, is_5, is_6, is_9, tell_eq, refuse_eq, refuse8_eq, b2i_1, b2i_0, if_true, if_false, ↓reduceIte]
      · rw [hz] at hu
        have j3 : Fr [47] (up2 I 0 6 3) (wp (up2 I 0 6 3) 47 0 q) := Fr_wp (by decide)
        obtain ⟨I2, b1, b2, b3, b4⟩ := wS (L := L) hO ((RDY_s (s := 3) hR).fr j3 (by decide)) he hz
        refine ⟨-1, up2 I 0 6 3, L, rm, ?_, RS_r, is8 I2 3, L, ?_, IV_q h (((Q8_fr j3 (by decide)).trans b3).trans Q8_is) (RDY_is b2) is8_0⟩
        · simp (config := { decide := true }) only [f_X7_root, read_eq hC.1 e1, cmp_tn' hn hq, c1, c2, hu, show nI 3 = 3 from rfl, obs, bnd_eq, is_0, is_1, is_2, is_3, is_4, is_5, is_6, is_9, tell_eq, refuse_eq, refuse8_eq, b2i_1, b2i_0, if_true, if_false, ↓reduceIte]
        · simp (config := { decide := true }) only [f_X8_root, e2 47 _ L (by decide) (RDY_s (s := 3) hR).1, hin, b1, show nI 3 = 3 from rfl, obs, bnd_eq, is_0, is_1, is_2, is_3, is_4, is_5, is_6, is_9, tell_eq, refuse_eq, refuse8_eq, b2i_1, b2i_0, if_true, if_false, ↓reduceIte]
    · have hin : f_X8_isIn a.toInt64 1 1000 = some false := hin
      have j3 : Fr [47] (up2 I 0 6 1) (wp (up2 I 0 6 1) 47 0 q) := Fr_wp (by decide)
      refine ⟨-1, up2 I 0 6 1, L, rm, ?_, RS_r, _, L, ?_, IV_q h ((Q8_fr j3 (by decide)).trans (Q8_is (a := 1))) (RDY_is ((RDY_s hR).fr j3 (by decide))) is8_0⟩
      · rcases hb with hb | ⟨hb, hc⟩
        · have hb : a < 1 := hb
          simp (config := { decide := true }) only [f_X7_root, read_eq hC.1 e1, cmp_tn' hn hq, hb, obs, bnd_eq, is_0, is_1, is_2, is_3, is_4, is_5, is_6, is_9, tell_eq, refuse_eq, refuse8_eq, b2i_1, b2i_0, if_true, if_false, ↓reduceIte]
        · have hb : ¬ a < 1 := hb
          have hc : ¬ a ≤ 1000 := hc
          simp (config := { decide := true }) only [f_X7_root, read_eq hC.1 e1, cmp_tn' hn hq, hb, hc, obs, bnd_eq, is_0, is_1, is_2, is_3, is_4, is_5, is_6, is_9, tell_eq, refuse_eq, refuse8_eq, b2i_1, b2i_0, if_true, if_false, ↓reduceIte]
      · simp (config := { decide := true }) only [f_X8_root, e2 47 _ L (by decide) (RDY_s (s := 1) hR).1, hin, wS_1, obs, bnd_eq, is_0, is_1, is_2, is_3, is_4, is_5, is_6, is_9, tell_eq, refuse_eq, refuse8_eq, b2i_1, b2i_0, if_true, if_false, ↓reduceIte]
  · obtain ⟨I', f1, f2⟩ := e2 47 (up2 I 0 6 1) L (by decide) (RDY_s (s := 1) hR).1
    refine ⟨-1, up2 I 0 6 1, L, rm, ?_, RS_r, _, L, ?_, IV_q h ((Q8_fr f2 (by decide)).trans (Q8_is (a := 1))) (RDY_is ((RDY_s hR).fr f2 (by decide))) is8_0⟩
    · simp (config := { decide := true }) only [f_X7_root, read_eq hC.1 e1, cmp_m1', obs, bnd_eq, is_0, is_1, is_2, is_3, is_4, is_5, is_6, is_9, tell_eq, refuse_eq, refuse8_eq, b2i_1, b2i_0, if_true, if_false, ↓reduceIte]
    · simp (config := { decide := true }) only [f_X8_root, f1, wS_1, obs, bnd_eq, is_0, is_1, is_2, is_3, is_4, is_5, is_6, is_9, tell_eq, refuse_eq, refuse8_eq, b2i_1, b2i_0, if_true, if_false, ↓reduceIte]
/-! colourings -/
def pL (a : Int64) : Nat → Int64
  | 0 => 1
  | k + 1 => pL a k * a
def sL (f : Nat → Int64) : Nat → Int64
  | 0 => 0
  | k + 1 => sL f k + f k
theorem col32 {a : Int32} {v2 : Int64} {v4 : Int32} {c : Nat} (hc : c ≤ 10) (k0 : Int64 → Option Int64) : f_X4_countColourings_32 rm a v2 v4 (nI c) I L k0 FU 1 0 = k0 (pL a.toInt64 c) := by
  have := for0 (fun fu z => f_X4_countColourings_32 rm a v2 v4 (nI c) I L k0 fu z.1 z.2) (fun i => (pL a.toInt64 i, nI i)) c (k0 (pL a.toInt64 c)) (by omega)
    (fun fu => by
      dsimp only
      rw [f_X4_countColourings_32, if_pos (by rw [q_le (by omega) (by omega)]; omega)])
    (fun fu i hi => by
      dsimp only
      rw [f_X4_countColourings_32, if_neg (by rw [q_le (by omega) (by omega)]; omega), bnd_eq, bnd_eq, nI_1]
      rfl)
  exact this
theorem col73 {a : Int32} {v2 : Int64} {v4 : Int32} {c : Nat} (hc : c ≤ 10) (k0 : Int64 → Option (Int64 × Mm)) : f_X8_colours_73 a v2 v4 I L k0 FU 1 (nI c) = k0 (pL a.toInt64 c) := by
  have := for0 (fun fu z => f_X8_colours_73 a v2 v4 I L k0 fu z.1 z.2) (fun i => (pL a.toInt64 i, nI (c - i))) c (k0 (pL a.toInt64 c)) (by omega)
    (fun fu => by
      dsimp only
      rw [f_X8_colours_73, if_pos (by rw [Nat.sub_self]; decide)])
    (fun fu i hi => by
      dsimp only
      rw [f_X8_colours_73, show (0 : Int32) = nI 0 from rfl, if_neg (by rw [q_le (by omega) (by omega)]; omega), bnd_eq, bnd_eq, ← nI_s1, show (1 : Int32) = nI 1 from rfl, pk_sub (by omega)]
      rfl)
  rw [Nat.sub_zero] at this
  exact this
theorem countCol_eq {a : Int32} (hn : n ≤ 10) (hG : Sub n (Gp n m mv)) (he : EL n (Gp n m mv) N e) (hL : Lst I L rm n N e) (hS : Shp L n N e) (h0 : 0 < N) : f_X4_countColourings rm a I L = some (sL (fun x => pL a.toInt64 (cT (mn (e x)) n)) N / (nI N).toInt64) := by
  have l3 := hL.2.2.2.1
  have l4 := hL.2.2.2.2.1
  unfold f_X4_countColourings
  have hne : ((nI N).toInt64 : Int64) ≠ 0 := fun g => by
    rw [nI_l (by omega)] at g
    have : (lN N).toBitVec.toNat = (0 : Int64).toBitVec.toNat := congrArg (fun x : Int64 => x.toBitVec.toNat) g
    rw [q_lnat (by omega)] at this
    have h9 : (0 : Int64).toBitVec.toNat = 0 := (by decide)
    omega
  have := for0 (fun fu z => f_X4_countColourings_5 rm a I L (fun (v2_16 : Int64) => if (I 69 1) ≤ 0 then some 0 else chk (decide (((Int32.toInt64 (I 69 1)) : Int64) ≠ 0)) (some (v2_16 / (Int32.toInt64 (I 69 1))))) fu z.1 z.2) (fun i => (sL (fun x => pL a.toInt64 (cT (mn (e x)) n)) i, nI i)) N (some (sL (fun x => pL a.toInt64 (cT (mn (e x)) n)) N / (nI N).toInt64)) (by omega)
    (fun fu => by
      dsimp only
      rw [f_X4_countColourings_5, hL.2.1, if_pos (by rw [q_le (by omega) (by omega)]; omega), show (0 : Int32) = nI 0 from rfl, if_neg (by rw [q_le (by omega) (by omega)]; omega), chk_pos (decide_eq_true hne)])
    (fun fu i hi => by
      dsimp only
      rw [f_X4_countColourings_5, hL.2.1]
      generalize hk0 : (fun (v2_16 : Int64) => if nI N ≤ 0 then some 0 else chk (decide (((Int32.toInt64 (nI N)) : Int64) ≠ 0)) (some (v2_16 / (Int32.toInt64 (nI N))))) = k0
      rw [if_neg (by rw [q_le (by omega) (by omega)]; omega), q_chk (by omega) (by omega), q_ix (by omega), hS i hi, ob (cycles_eq hn (EL_P hG he hi)), col32 (Nat.le_trans (cT_le _ _) hn), bnd_eq, bnd_eq, nI_1]
      rfl)
  rw [nI_0] at this
  exact this
theorem colours41_eq {a : Int32} (hO : OKm n m mv st) (he : EL n (Gp n m mv) N e) (hN : N ≤ 5040) (hA : AD I n m mv st N e) (k0 : Int64 → MI → ML → Option (Int64 × Mm)) : ∃ I', f_X8_colours_41 a k0 FU 0 0 I L = k0 (sL (fun x => pL a.toInt64 (cT (mn (e x)) n)) N) I' L ∧ Fr [46] I I' := by
  have hn := hO.1
  have hG := Gp_Sub hn hO.2.2.1
  have := loop0 (fun fu (z : Int64 × Int32 × MI × ML) => f_X8_colours_41 a k0 fu z.1 z.2.1 z.2.2.1 z.2.2.2) (fun i z => i ≤ N ∧ z.1 = sL (fun x => pL a.toInt64 (cT (mn (e x)) n)) i ∧ z.2.1 = nI i ∧ z.2.2.2 = L ∧ Fr [46] I z.2.2.1) (fun o => ∃ I', o = k0 (sL (fun x => pL a.toInt64 (cT (mn (e x)) n)) N) I' L ∧ Fr [46] I I') N (by omega) (0, nI 0, I, L) ⟨Nat.zero_le _, rfl, rfl, rfl, Fr.refl⟩
    (fun fu i z hi hP => by
      obtain ⟨z1, z2, K, M⟩ := z
      obtain ⟨_, p1, p2, p3, p4⟩ := hP
      dsimp only at p1 p2 p3 p4 ⊢
      subst p1 p2 p3
      have A := hA.fr p4 (by decide)
      rw [f_X8_colours_41, A.2.1, ifc (q_le (by omega) (by omega))]
      by_cases c1 : N ≤ i
      · left
        rw [if_pos c1, show i = N by omega]
        exact ⟨K, rfl, p4⟩
      · right
        have eP := EL_P hG he (show i < N by omega)
        have f1 : Fr [46] I (wp K 46 0 (e i)) := p4.trans (Fr_wp (by decide))
        have A1 := hA.fr f1 (by decide)
        refine ⟨by omega, (sL (fun x => pL a.toInt64 (cT (mn (e x)) n)) (i + 1), nI (i + 1), wp K 46 0 (e i), M), ?_, by omega, rfl, rfl, rfl, f1⟩
        rw [if_neg c1, ob (laysOne_eq hN A.2.2 (show i < N by omega) (by decide)), ob (cycles8_eq hn eP A1.1.1 Row_wp), col73 (Nat.le_trans (cT_le _ _) hn), bnd_eq, bnd_eq, nI_1]
        rfl)
  rw [nI_0] at this
  exact this
theorem toL_ne0 (h0 : 0 < N) (hN : N ≤ 5040) : ((nI N).toInt64 : Int64) ≠ 0 := fun g => by
  rw [nI_l (by omega)] at g
  have : (lN N).toBitVec.toNat = (0 : Int64).toBitVec.toNat := congrArg (fun x : Int64 => x.toBitVec.toNat) g
  rw [q_lnat (by omega)] at this
  have h9 : (0 : Int64).toBitVec.toNat = 0 := (by decide)
  omega
theorem PR_47h : PR_47 Inv := by
  intro I L rm a ⟨n, m, mv, st, h⟩
  obtain ⟨hO, hC, hR, hP, hT, hU, hF, hS⟩ := id h
  have hn := hO.1
  have hG := Gp_Sub hn hO.2.2.1
  obtain ⟨N, e, he⟩ := EL_ex hn hG
  have hu := hurdle_eq hO hC he
  rcases dshR (lo := 1) (hi := 5) a (by decide) (by decide) with ⟨k, k1, k2, k3, hin, c1, c2⟩ | ⟨hin, hb⟩
  · have hin : f_X8_isIn a.toInt64 1 5 = some true := hin
    have c1 : ¬ a < 1 := c1
    have c2 : a ≤ 5 := c2
    rcases hz_3 n N with hz | hz | hz
    · obtain ⟨hN, hn0⟩ := hz_N hz
      have hNp := EL_pos hG he
      rw [hz] at hu
      obtain ⟨I1, L1, rm1, a1, a2, a3⟩ := shaped_eq hO (CI_s (s := 0) hC) he hN
      have hA := a2.2.2.2.2.2.1
      have hR1 : RDY I1 n m mv st := (RDY_s (s := 0) hR).of (by rw [hA.1 43 (by decide) (by decide)]) (by rw [hA.1 43 (by decide) (by decide)]) (hA.1 44 (by decide) (by decide)) (hA.1 52 (by decide) (by decide)) (hA.1 53 (by decide) (by decide))
      obtain ⟨J, I3, w1, w2, w3, w4, w5, _⟩ := ref_l (L := L1) hO hR1 he hz hN
      obtain ⟨I4, x1, x2⟩ := colours41_eq (a := a) (L := L1) hO he hN w3 (fun (v2_23 : Int64) (I_24 : MI) (L_25 : ML) => chk (decide (((Int32.toInt64 (I_24 43 24)) : Int64) ≠ 0)) (some ((v2_23 / (Int32.toInt64 (I_24 43 24))), I_24, L_25)))
      have A4 := w3.fr x2 (by decide)
      rw [A4.2.1, chk_pos (decide_eq_true (toL_ne0 hNp hN))] at x1
      have e06 : I1 0 6 = 0 := by rw [hA.1 0 (by decide) (by decide)]; exact up2_s
      refine ⟨sL (fun x => pL a.toInt64 (cT (mn (e x)) n)) N / (nI N).toInt64, I1, L1, rm1, ?_, a2.1, I4, L1, ?_, IV_fin h a2.2.2.2.1 (CO_s.trans hA.co) (w4.trans (Q8_fr x2 (by decide))) A4.1.rdy (by rw [e06, x2 43 (by decide)]; exact w5.symm)⟩
      · simp (config := { decide := true }) only [f_X7_colours, c1, c2, hu, nI_0, a1, a2.kA, a2.kB, countCol_eq (a := a) hn hG he a2.2.2.2.2.1 a3 hNp, obs, bnd_eq, is_0, is_1, is_2, is_3, is_4, is_5, is_6, is_9, tell_eq, refuse_eq, refuse8_eq, b2i_1, b2i_0, if_true, if_false, ↓reduceIte]
      · simp (config := { decide := true }) only [f_X8_colours, hin, w1, w2, x1, obs, bnd_eq, is_0, is_1, is_2, is_3, is_4, is_5, is_6, is_9, tell_eq, refuse_eq, refuse8_eq, b2i_1, b2i_0, if_true, if_false, ↓reduceIte]
    · rw [hz] at hu
      obtain ⟨I2, b1, b2, b3, b4⟩ := wS (L := L) hO (RDY_s (s := 5) hR) he hz
      refine ⟨-1, up2 I 0 6 5, L, rm, ?_, RS_r, is8 I2 5, L, ?_, IV_q h (b3.trans Q8_is) (RDY_is b2) is8_0⟩
      · simp (config := { decide := true }) only [f_X7_colours, c1, c2, m1_l, hu, show nI 5 = 5 from rfl, obs, bnd_eq, is_0, is_1, is_2, is_3, is_4, is_5, is_6, is_9, tell_eq, refuse_eq, refuse8_eq, b2i_1, b2i_0, if_true, if_false, ↓reduceIte]
      · simp (config := { decide := true }) only [f_X8_colours, hin, b1, show nI 5 = 5 from rfl, obs, bnd_eq, is_0, is_1, is_2, is_3, is_4, is_5, is_6, is_9, tell_eq, refuse_eq, refuse8_eq, b2i_1, b2i_0, if_true, if_false, ↓reduceIte]
    · rw [hz] at hu
      obtain ⟨I2, b1, b2, b3, b4⟩ := wS (L := L) hO (RDY_s (s := 3) hR) he hz
      refine ⟨-1, up2 I 0 6 3, L, rm, ?_, RS_r, is8 I2 3, L, ?_, IV_q h (b3.trans Q8_is) (RDY_is b2) is8_0⟩
      · simp (config := { decide := true }) only [f_X7_colours, c1, c2, m1_l, hu, show nI 3 = 3 from rfl, obs, bnd_eq, is_0, is_1, is_2, is_3, is_4, is_5, is_6, is_9, tell_eq, refuse_eq, refuse8_eq, b2i_1, b2i_0, if_true, if_false, ↓reduceIte]
      · simp (config := { decide := true }) only [f_X8_colours, hin, b1, show nI 3 = 3 from rfl, obs, bnd_eq, is_0, is_1, is_2, is_3, is_4, is_5, is_6, is_9, tell_eq, refuse_eq, refuse8_eq, b2i_1, b2i_0, if_true, if_false, ↓reduceIte]
  · have hin : f_X8_isIn a.toInt64 1 5 = some false := hin
    refine ⟨-1, up2 I 0 6 1, L, rm, ?_, RS_r, is8 (up2 I 0 6 1) 1, L, ?_, IV_q h (Q8_is (a := 1)) (RDY_is (RDY_s hR)) is8_0⟩
    · rcases hb with hb | ⟨hb, hc⟩
      · have hb : a < 1 := hb
        simp (config := { decide := true }) only [f_X7_colours, hb, m1_l, obs, bnd_eq, is_0, is_1, is_2, is_3, is_4, is_5, is_6, is_9, tell_eq, refuse_eq, refuse8_eq, b2i_1, b2i_0, if_true, if_false, ↓reduceIte]
      · have hb : ¬ a < 1 := hb
        have hc : ¬ a ≤ 5 := hc
        simp (config := { decide := true }) only [f_X7_colours, hb, hc, m1_l, obs, bnd_eq, is_0, is_1, is_2, is_3, is_4, is_5, is_6, is_9, tell_eq, refuse_eq, refuse8_eq, b2i_1, b2i_0, if_true, if_false, ↓reduceIte]
    · simp (config := { decide := true }) only [f_X8_colours, hin, wS_1, obs, bnd_eq, is_0, is_1, is_2, is_3, is_4, is_5, is_6, is_9, tell_eq, refuse_eq, refuse8_eq, b2i_1, b2i_0, if_true, if_false, ↓reduceIte]
/-! the slightest -/
def mvd (n : Nat) (e : Nat → Nat → Nat) (x : Nat) : Nat := n - sy n (e x)
theorem cT_all {P : Nat → Bool} : ∀ n, cT P n = n → ∀ i, i < n → P i = true := by
  intro n h i hi
  cases hb : P i
  · have := cT_imp_lt (P := P) (Q := fun _ => true) (fun _ _ => rfl) hb rfl n hi
    have h2 := cT_le (fun _ : Nat => true) n
    omega
  · rfl
theorem mvd_pos (hn : n ≤ 10) (hG : Sub n (Gp n m mv)) (he : EL n (Gp n m mv) N e) {x : Nat} (hx : x < N) (h0 : x ≠ 0) : 0 < mvd n e x := by
  have h1 : sy n (e x) ≤ n := cT_le _ _
  refine Nat.pos_of_ne_zero fun g => h0 ?_
  unfold mvd at g
  have h2 := cT_all n (show sy n (e x) = n by omega)
  have : e x = idp := funext fun i => by
    by_cases hi : i < n
    · exact of_decide_eq_true (h2 i hi)
    · exact (EL_P hG he hx).2.1 i (by omega)
  have h3 := EL_0 hn hG he
  exact EL_inj he hx (by omega) (this.trans h3.symm)
theorem mvd_0 (hn : n ≤ 10) (hG : Sub n (Gp n m mv)) (he : EL n (Gp n m mv) N e) : mvd n e 0 = 0 := by
  unfold mvd
  rw [EL_0 hn hG he]
  have : ∀ k, cT (fun i => decide (idp i = i)) k = k := fun k => by
    induction k with
    | zero => rfl
    | succ k ih => rw [cT_t (P := fun i => decide (idp i = i)) (decide_eq_true rfl), ih]
  rw [show sy n idp = n from this n]; omega
/-- the least of those from 1 on, below j -/
def LM (f : Nat → Nat) (j M : Nat) : Prop := (∀ x, 1 ≤ x → x < j → M ≤ f x) ∧ ∃ x, 1 ≤ x ∧ x < j ∧ f x = M
theorem LM_un {f : Nat → Nat} {j M M' : Nat} (h : LM f j M) (h' : LM f j M') : M = M' := by
  obtain ⟨a, x, x1, x2, x3⟩ := h
  obtain ⟨b, y, y1, y2, y3⟩ := h'
  have := a y y1 y2
  have := b x x1 x2
  omega
theorem LM_s {f : Nat → Nat} {j M : Nat} (h : LM f j M) (hj : 1 ≤ j) : LM f (j + 1) (if M ≤ f j then M else f j) := by
  obtain ⟨a, x, x1, x2, x3⟩ := h
  by_cases c : M ≤ f j
  · rw [if_pos c]
    refine ⟨fun y y1 y2 => ?_, x, x1, by omega, x3⟩
    by_cases e1 : y = j
    · rw [e1]; exact c
    · exact a y y1 (by omega)
  · rw [if_neg c]
    refine ⟨fun y y1 y2 => ?_, j, hj, by omega, rfl⟩
    by_cases e1 : y = j
    · rw [e1]; exact Nat.le_refl _
    · have := a y y1 (by omega); omega
theorem LM_1 {f : Nat → Nat} : LM f 2 (f 1) := ⟨fun y y1 y2 => by rw [show y = 1 by omega]; exact Nat.le_refl _, 1, by decide, by decide, rfl⟩
theorem fewestMoved_eq (hn : n ≤ 10) (hG : Sub n (Gp n m mv)) (he : EL n (Gp n m mv) N e) (hL : Lst I L rm n N e) (hS : Shp L n N e) : ∃ r, f_X4_fewestMoved rm I L = some r ∧ ((N ≤ 1 ∧ r = 0) ∨ ∃ M, LM (mvd n e) N M ∧ r = nI M) := by
  have l3 := hL.2.2.2.1
  have l4 := hL.2.2.2.2.1
  unfold f_X4_fewestMoved
  have := loop0 (fun fu z => f_X4_fewestMoved_4 rm I L fu z.1 z.2) (fun j z => j ≤ N ∧ z.2 = nI j ∧ ((j ≤ 1 ∧ z.1 = 0) ∨ ∃ M, LM (mvd n e) j M ∧ z.1 = nI M)) (fun o => ∃ r, o = some r ∧ ((N ≤ 1 ∧ r = 0) ∨ ∃ M, LM (mvd n e) N M ∧ r = nI M)) N (by omega) (0, nI 0) ⟨Nat.zero_le _, rfl, Or.inl ⟨by decide, rfl⟩⟩
    (fun fu j z hj hP => by
      obtain ⟨z1, z2⟩ := z
      obtain ⟨_, p1, p2⟩ := hP
      dsimp only at p1 p2 ⊢
      subst p1
      rw [f_X4_fewestMoved_4, hL.2.1, ifc (q_le (by omega) (by omega))]
      by_cases c1 : N ≤ j
      · left
        have ej : j = N := by omega
        subst ej
        rw [if_pos c1]
        exact ⟨_, rfl, p2⟩
      · right
        have eP := EL_P hG he (show j < N by omega)
        have hsy : sy n (e j) ≤ n := cT_le _ _
        have hm : mvd n e j ≤ n := Nat.sub_le _ _
        have em : nI n - nI (sy n (e j)) = nI (mvd n e j) := pk_sub hsy
        rw [if_neg c1, q_chk (by omega) (by omega), q_ix (by omega), hS j (by omega), ob (staying_eq hn eP), hL.2.2.1, bnd_eq, em, show (0 : Int32) = nI 0 from rfl, ifc (q_le (by omega) (by decide))]
        by_cases j0 : j = 0
        · subst j0
          refine ⟨by omega, (0, nI 1), ?_, by omega, rfl, Or.inl ⟨by decide, rfl⟩⟩
          have hz1 : z1 = 0 := by
            rcases p2 with ⟨_, g⟩ | ⟨M, ⟨_, x, x1, x2, _⟩, _⟩
            · exact g
            · omega
          rw [if_pos (by rw [mvd_0 hn hG he]; omega), bnd_eq, nI_1, hz1]
        · have hpos := mvd_pos hn hG he (show j < N by omega) j0
          rw [if_neg (by omega)]
          rcases p2 with ⟨g1, g2⟩ | ⟨M, g1, g2⟩
          · have ej : j = 1 := by omega
            subst ej
            refine ⟨by omega, (nI (mvd n e 1), nI 2), ?_, by omega, rfl, Or.inr ⟨_, LM_1, rfl⟩⟩
            rw [if_pos (show z1 = nI 0 from g2), bnd_eq, nI_1]
          · obtain ⟨y, y1, y2, y3⟩ := g1.2
            have hMp := mvd_pos hn hG he (show y < N by omega) (by omega)
            have hMl : mvd n e y ≤ n := Nat.sub_le _ _
            subst g2
            refine ⟨by omega, (nI (if M ≤ mvd n e j then M else mvd n e j), nI (j + 1)), ?_, by omega, rfl, Or.inr ⟨_, LM_s g1 (by omega), rfl⟩⟩
            rw [ifc (q_eq (by omega) (by decide)), if_neg (by omega), ifc (q_le (by omega) (by omega))]
            by_cases c : M ≤ mvd n e j
            · rw [if_pos c, if_pos c, bnd_eq, nI_1]
            · rw [if_neg c, if_neg c, bnd_eq, nI_1])
  exact this
theorem slightest22_eq (hO : OKm n m mv st) (he : EL n (Gp n m mv) N e) (hN : N ≤ 5040) (hA : AD I n m mv st N e) (k0 : Int32 → MI → ML → Option (Int32 × Mm)) : ∃ r I', f_X8_slightest_22 k0 FU (-1) 1 I L = k0 r I' L ∧ ((N ≤ 1 ∧ r = -1) ∨ ∃ M, LM (mvd n e) N M ∧ r = nI M) ∧ Fr [46] I I' := by
  have hn := hO.1
  have hG := Gp_Sub hn hO.2.2.1
  have hNp := EL_pos hG he
  have := loop0 (fun fu (z : Int32 × Int32 × MI × ML) => f_X8_slightest_22 k0 fu z.1 z.2.1 z.2.2.1 z.2.2.2) (fun i z => i + 1 ≤ N ∧ z.2.1 = nI (i + 1) ∧ z.2.2.2 = L ∧ Fr [46] I z.2.2.1 ∧ ((i = 0 ∧ z.1 = -1) ∨ ∃ M, LM (mvd n e) (i + 1) M ∧ z.1 = nI M)) (fun o => ∃ r I', o = k0 r I' L ∧ ((N ≤ 1 ∧ r = -1) ∨ ∃ M, LM (mvd n e) N M ∧ r = nI M) ∧ Fr [46] I I') (N - 1) (by omega) (-1, nI 1, I, L) ⟨by omega, rfl, rfl, Fr.refl, Or.inl ⟨rfl, rfl⟩⟩
    (fun fu i z hi hP => by
      obtain ⟨z1, z2, K, M0⟩ := z
      obtain ⟨p0, p1, p2, p3, p4⟩ := hP
      dsimp only at p1 p2 p3 p4 ⊢
      subst p1 p2
      have A := hA.fr p3 (by decide)
      rw [f_X8_slightest_22, A.2.1, ifc (q_le (by omega) (by omega))]
      by_cases c1 : N ≤ i + 1
      · left
        have ej : i + 1 = N := by omega
        rw [if_pos c1]
        refine ⟨_, K, rfl, ?_, p3⟩
        rw [← ej]
        rcases p4 with ⟨g1, g2⟩ | g
        · exact Or.inl ⟨by omega, g2⟩
        · exact Or.inr g
      · right
        have eP := EL_P hG he (show i + 1 < N by omega)
        have f1 : Fr [46] I (wp K 46 0 (e (i + 1))) := p3.trans (Fr_wp (by decide))
        have A1 := hA.fr f1 (by decide)
        have hsy : sy n (e (i + 1)) ≤ n := cT_le _ _
        have hm : mvd n e (i + 1) ≤ n := Nat.sub_le _ _
        have em : nI n - nI (sy n (e (i + 1))) = nI (mvd n e (i + 1)) := pk_sub hsy
        rw [if_neg c1, ob (laysOne_eq hN A.2.2 (show i + 1 < N by omega) (by decide))]
        dsimp only
        rw [ob (staying8_eq hn eP A1.1.1 Row_wp), A1.1.1, bnd_eq, em]
        rcases p4 with ⟨g1, g2⟩ | ⟨M, g1, g2⟩
        · subst g1
          refine ⟨by omega, (nI (mvd n e 1), nI 2, wp K 46 0 (e 1), M0), ?_, by omega, rfl, rfl, f1, Or.inr ⟨_, LM_1, rfl⟩⟩
          rw [if_pos g2, bnd_eq, nI_1]
        · obtain ⟨y, y1, y2, y3⟩ := g1.2
          have hMl : mvd n e y ≤ n := Nat.sub_le _ _
          subst g2
          refine ⟨by omega, (nI (if M ≤ mvd n e (i + 1) then M else mvd n e (i + 1)), nI (i + 1 + 1), wp K 46 0 (e (i + 1)), M0), ?_, by omega, rfl, rfl, f1, Or.inr ⟨_, LM_s g1 (by omega), rfl⟩⟩
          rw [if_neg (nI_nm1 (by omega)), ifc (q_le (by omega) (by omega))]
          by_cases c : M ≤ mvd n e (i + 1)
          · rw [if_pos c, if_pos c, bnd_eq, nI_1]
          · rw [if_neg c, if_neg c, bnd_eq, nI_1])
  exact this
theorem PR_50h : PR_50 Inv := by
  intro I L rm ⟨n, m, mv, st, h⟩
  obtain ⟨hO, hC, hR, hP, hT, hU, hF, hS⟩ := id h
  have hn := hO.1
  have hG := Gp_Sub hn hO.2.2.1
  obtain ⟨N, e, he⟩ := EL_ex hn hG
  have hu := hurdle_eq hO hC he
  rcases hz_3 n N with hz | hz | hz
  · obtain ⟨hN, hn0⟩ := hz_N hz
    rw [hz] at hu
    obtain ⟨I1, L1, rm1, a1, a2, a3⟩ := shaped_eq hO hC he hN
    obtain ⟨r, r1, r2⟩ := fewestMoved_eq hn hG he a2.2.2.2.2.1 a3
    rcases r2 with ⟨g1, g2⟩ | ⟨M, g1, g2⟩
    · subst g2
      obtain ⟨J, I3, w1, w2, w3, w4, w5, _⟩ := ref_l (L := L1) hO (RDY_a (s := 5) a2 hR) he hz hN
      obtain ⟨r', I4, x1, x2, x3⟩ := slightest22_eq (L := L1) hO he hN w3 (fun (v1_14 : Int32) (I_15 : MI) (L_16 : ML) => Option.bind (f_X8_there v1_14 I_15 L_16) (fun q_17 => some (q_17.1, q_17.2.1, q_17.2.2)))
      have er : r' = -1 := by
        rcases x2 with ⟨_, g⟩ | ⟨M, ⟨_, y, y1, y2, _⟩, _⟩
        · exact g
        · omega
      subst er
      have x4 : f_X8_slightest_22 (fun (v1_14 : Int32) (I_15 : MI) (L_16 : ML) => Option.bind (f_X8_there v1_14 I_15 L_16) (fun q_17 => some (q_17.1, q_17.2.1, q_17.2.2))) FU (-1) 1 I3 L1 = some (-1, up2 I4 43 0 5, L1) := by
        rw [x1]
        simp (config := { decide := true }) only [f_X8_there, obs, bnd_eq, is_0, is_1, is_2, is_3, is_4, is_5, is_6, is_9, tell_eq, refuse_eq, refuse8_eq, b2i_1, b2i_0, if_true, if_false, ↓reduceIte]
      refine ⟨-1, up2 I1 0 6 5, L1, rm1, ?_, a2.1, up2 I4 43 0 5, L1, ?_, IV_a h a2 ((w4.trans (Q8_fr x3 (by decide))).trans Q8_r) (RDY_r (w3.fr x3 (by decide)).1.rdy) up2_s⟩
      · simp (config := { decide := true }) only [f_X7_slightest, hu, nI_0, a1, a2.kA, a2.kB, r1, obs, bnd_eq, is_0, is_1, is_2, is_3, is_4, is_5, is_6, is_9, tell_eq, refuse_eq, refuse8_eq, b2i_1, b2i_0, if_true, if_false, ↓reduceIte]
      · unfold f_X8_slightest
        rw [ob w1, ob is_0, if_neg b2i_t, ob w2]
        exact x4
    · subst g2
      obtain ⟨y, y1, y2, y3⟩ := g1.2
      have hMp := mvd_pos hn hG he (show y < N by omega) (by omega)
      have hMl : mvd n e y ≤ n := Nat.sub_le _ _
      obtain ⟨J, I3, w1, w2, w3, w4, w5, _⟩ := ref_l (L := L1) hO (RDY_a (s := 0) a2 hR) he hz hN
      obtain ⟨r', I4, x1, x2, x3⟩ := slightest22_eq (L := L1) hO he hN w3 (fun (v1_14 : Int32) (I_15 : MI) (L_16 : ML) => Option.bind (f_X8_there v1_14 I_15 L_16) (fun q_17 => some (q_17.1, q_17.2.1, q_17.2.2)))
      have er : r' = nI M := by
        rcases x2 with ⟨g, _⟩ | ⟨M', g, g'⟩
        · omega
        · rw [g', LM_un g g1]
      subst er
      have x4 : f_X8_slightest_22 (fun (v1_14 : Int32) (I_15 : MI) (L_16 : ML) => Option.bind (f_X8_there v1_14 I_15 L_16) (fun q_17 => some (q_17.1, q_17.2.1, q_17.2.2))) FU (-1) 1 I3 L1 = some (nI M, I4, L1) := by
        rw [x1]
        simp (config := { decide := true }) only [f_X8_there, nI_nm1 (show M < 2 ^ 31 by omega), obs, bnd_eq, is_0, is_1, is_2, is_3, is_4, is_5, is_6, is_9, tell_eq, refuse_eq, refuse8_eq, b2i_1, b2i_0, if_true, if_false, ↓reduceIte]
      refine ⟨nI M, up2 I1 0 6 0, L1, rm1, ?_, a2.1, I4, L1, ?_, IV_a h a2 (w4.trans (Q8_fr x3 (by decide))) (w3.fr x3 (by decide)).1.rdy (by rw [x3 43 (by decide)]; exact w5)⟩
      · simp (config := { decide := true }) only [f_X7_slightest, hu, nI_0, a1, a2.kA, a2.kB, r1, nI_ne0 (show 0 < M by omega) (show M < 2 ^ 31 by omega), obs, bnd_eq, is_0, is_1, is_2, is_3, is_4, is_5, is_6, is_9, tell_eq, refuse_eq, refuse8_eq, b2i_1, b2i_0, if_true, if_false, ↓reduceIte]
      · unfold f_X8_slightest
        rw [ob w1, ob is_0, if_neg b2i_t, ob w2]
        exact x4
  · rw [hz] at hu
    obtain ⟨I2, b1, b2, b3, b4⟩ := wS (L := L) hO (RDY_s (s := 5) hR) he hz
    refine ⟨-1, up2 I 0 6 5, L, rm, ?_, RS_r, is8 I2 5, L, ?_, IV_q h (b3.trans Q8_is) (RDY_is b2) is8_0⟩
    · simp (config := { decide := true }) only [f_X7_slightest, hu, show nI 5 = 5 from rfl, obs, bnd_eq, is_0, is_1, is_2, is_3, is_4, is_5, is_6, is_9, tell_eq, refuse_eq, refuse8_eq, b2i_1, b2i_0, if_true, if_false, ↓reduceIte]
    · simp (config := { decide := true }) only [f_X8_slightest, b1, show nI 5 = 5 from rfl, obs, bnd_eq, is_0, is_1, is_2, is_3, is_4, is_5, is_6, is_9, tell_eq, refuse_eq, refuse8_eq, b2i_1, b2i_0, if_true, if_false, ↓reduceIte]
  · rw [hz] at hu
    obtain ⟨I2, b1, b2, b3, b4⟩ := wS (L := L) hO (RDY_s (s := 3) hR) he hz
    refine ⟨-1, up2 I 0 6 3, L, rm, ?_, RS_r, is8 I2 3, L, ?_, IV_q h (b3.trans Q8_is) (RDY_is b2) is8_0⟩
    · simp (config := { decide := true }) only [f_X7_slightest, hu, show nI 3 = 3 from rfl, obs, bnd_eq, is_0, is_1, is_2, is_3, is_4, is_5, is_6, is_9, tell_eq, refuse_eq, refuse8_eq, b2i_1, b2i_0, if_true, if_false, ↓reduceIte]
    · simp (config := { decide := true }) only [f_X8_slightest, b1, show nI 3 = 3 from rfl, obs, bnd_eq, is_0, is_1, is_2, is_3, is_4, is_5, is_6, is_9, tell_eq, refuse_eq, refuse8_eq, b2i_1, b2i_0, if_true, if_false, ↓reduceIte]
end RO
