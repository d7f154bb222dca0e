/-! The roster: all the group's ones -/
section AL
variable {n m N rm : Nat} {mv : Nat → Nat → Nat} {st : Nat → Nat} {I : MI} {L : ML} {e : Nat → Nat → Nat}
theorem EL_un {G : PS} {N' : Nat} {e' : Nat → Nat → Nat} (hn : n ≤ 10) (hG : Sub n G) {R : Nat → Nat → Bool} {T : Nat → Nat → Nat → Nat} (h : TabG n G (RB R) T) (he : EL n G N e) (he' : EL n G N' e') : N' = N ∧ ∀ i, i < N → e' i = e i := by
  have h1 := EL_tab hn hG h he
  have h2 := EL_tab hn hG h he'
  refine ⟨by rw [h1.1, h2.1], fun i hi => ?_⟩
  obtain ⟨j, hj, e1⟩ := he'.2.1 (e i) (he.1 i hi)
  have k1 := h1.2 i hi
  have k2 := h2.2 j hj
  rw [e1, k1] at k2
  subst k2; exact e1
def AF (I : MI) (L : ML) (I' : MI) (L' : ML) : Prop := (∀ p, p < 69 → p ≠ 6 → I' p = I p) ∧ (∀ j, j ≠ 11 → I' 6 j = I 6 j) ∧ (∀ p, p < 69 → L' p = L p)
theorem AF.refl : AF I L I L := ⟨fun _ _ _ => rfl, fun _ _ => rfl, fun _ _ => rfl⟩
theorem AF.trans {I' I'' : MI} {L' L'' : ML} (h : AF I L I' L') (g : AF I' L' I'' L'') : AF I L I'' L'' := ⟨fun p h1 h2 => (g.1 p h1 h2).trans (h.1 p h1 h2), fun j hj => (g.2.1 j hj).trans (h.2.1 j hj), fun p hp => (g.2.2 p hp).trans (h.2.2 p hp)⟩
theorem AF.co {I' : MI} {L' : ML} (h : AF I L I' L') : CO I L I' L' := ⟨fun p hp => h.1 p (by omega) (by omega), fun j _ => by rw [h.1 0 (by decide) (by decide)], h.2.2 39 (by decide), h.2.2 41 (by decide)⟩
theorem CI_ros {I' : MI} {L' : ML} {rm' : Nat} (h : CI I L rm n m mv st) (hA : AF I L I' L') (hR : Ros I' L' rm' n m mv) : CI I' L' rm' n m mv st := by
  obtain ⟨a1, a2, a3, a4, a5, a6, a7, a8, a9, a10⟩ := h
  obtain ⟨f1, f2, f3⟩ := hA
  refine ⟨by rw [f2 0 (by decide)]; exact a1, by rw [f2 1 (by decide)]; exact a2, fun i hi => by rw [f3 7 (by decide)]; exact a3 i hi, by rw [f3 0 (by decide)]; exact a4, a5.fr (f1 8 (by decide) (by decide)) (f1 9 (by decide) (by decide)) (f1 13 (by decide) (by decide)) (f1 14 (by decide) (by decide)) (f3 8 (by decide)) (f3 10 (by decide)) (f3 11 (by decide)) (f3 12 (by decide)), ?_, ?_, a8.fr (f1 30 (by decide) (by decide)) (f1 31 (by decide) (by decide)), a9.fr (f1 33 (by decide) (by decide)) (f1 34 (by decide) (by decide)), hR⟩
  · unfold Ndd at a6 ⊢; rw [f2 4 (by decide)]; exact a6
  · unfold Psz at a7 ⊢; rw [f1 29 (by decide) (by decide)]; exact a7
def FL (I : MI) (L : ML) (n m : Nat) (mv : Nat → Nat → Nat) (N : Nat) (e : Nat → Nat → Nat) : Prop := (I 69 13 = 0 ∨ (I 69 13 = 1 ∧ Msd I m mv N e)) ∧ (I 69 14 = 0 ∨ (I 69 14 = 1 ∧ Srt I (Gp n m mv) N e)) ∧ (I 69 15 = 0 ∨ (I 69 15 = 1 ∧ Shp L n N e))
/-- what comes of a roster -/
def GD (rm : Nat) (I : MI) (L : ML) (n m : Nat) (mv : Nat → Nat → Nat) (st : Nat → Nat) (N : Nat) (e : Nat → Nat → Nat) (I1 : MI) (L1 : ML) (rm1 : Nat) : Prop := RS rm rm1 ∧ rm1 ≠ 0 ∧ rm1 ≤ 5040 ∧ CI I1 L1 rm1 n m mv st ∧ Lst I1 L1 rm1 n N e ∧ AF I L I1 L1 ∧ I1 6 11 = 1 ∧ FL I1 L1 n m mv N e
theorem allT_eq (hO : OKm n m mv st) {I0 : MI} {L0 : ML} {rm0 : Nat} (hC : CI I0 L0 rm0 n m mv st) (hA : AF I0 L0 I L) (hA6 : I 6 11 = I0 6 11) (he : EL n (Gp n m mv) N e) (h0 : I 69 0 = nI rm) (hr : rm ≠ 0) (hr2 : rm ≤ 5040) (hN : N ≤ rm) (hRS : RS rm0 rm) (hF : I 6 11 = 0 ∨ (I 6 11 = 1 ∧ Lst I L rm n N e ∧ FL I L n m mv N e)) : ∃ I1 L1, f_X2_all_T rm I L = some ((I1, L1), rm) ∧ GD rm0 I0 L0 n m mv st N e I1 L1 rm := by
  have hn := hO.1
  have hG := Gp_Sub hn hO.2.2.1
  obtain ⟨rb, th, t1, t2⟩ := CI_tab hO hC
  obtain ⟨f1, f2, f3⟩ := id hA
  have t1' : ChT I L 8 n rb th := by
    unfold ChT at t1 ⊢
    rw [f1 8 (by decide) (by decide), f1 (8 + 1) (by decide) (by decide), f3 8 (by decide), f3 (8 + 2) (by decide), f3 (8 + 3) (by decide)]; exact t1
  unfold f_X2_all_T
  rcases hF with hF | ⟨hF1, hF2, hF3⟩
  · obtain ⟨I', L', g1, g2, g3, g4, g5, g6, g7⟩ := fill_eq (L := L) hn hG t1' t2 he h0 hN hr2
    have e0 : I 6 0 = nI n := by rw [f2 0 (by decide)]; exact hC.1
    rw [if_pos hF, e0, ob g1, bnd_eq]
    have A1 : AF I0 L0 (up2 I' 6 11 1) L' := hA.trans ⟨fun p h1 h2 => by rw [up2_ne h2, g6 p (by omega)], fun j hj => by rw [up2_n hj, g6 6 (by decide)], fun p hp => g7 p (by omega)⟩
    have k69 : up2 I' 6 11 1 69 = I' 69 := up2_ne (by decide)
    have L1 : Lst (up2 I' 6 11 1) L' rm n N e := by unfold Lst at g2 ⊢; rw [k69]; exact g2
    have F1 : FL (up2 I' 6 11 1) L' n m mv N e := ⟨Or.inl (by rw [k69]; exact g3), Or.inl (by rw [k69]; exact g4), Or.inl (by rw [k69]; exact g5)⟩
    exact ⟨_, _, rfl, hRS, hr, hr2, CI_ros hC A1 ⟨hr2, fun _ => L1.1, Or.inr ⟨up2_s, hr, N, e, he, L1, F1⟩⟩, L1, A1, up2_s, F1⟩
  · rw [if_neg (by rw [hF1]; decide)]
    exact ⟨_, _, rfl, hRS, hr, hr2, CI_ros hC hA ⟨hr2, fun _ => hF2.1, Or.inr ⟨hF1, hr, N, e, he, hF2, hF3⟩⟩, hF2, hA, hF1, hF3⟩
theorem Msd_e {e' : Nat → Nat → Nat} (h : ∀ i, i < N → e' i = e i) (hM : Msd I m mv N e) : Msd I m mv N e' := by
  obtain ⟨dp, kk, nx, D, a1, a2, a3⟩ := hM
  refine ⟨dp, kk, nx, D, fun x hx => ?_, fun s x hs hx => ?_, a3⟩
  · rw [h x hx]; exact a1 x hx
  · obtain ⟨b1, b2⟩ := a2 s x hs hx
    exact ⟨b1, by rw [h _ b1, h x hx]; exact b2⟩
theorem all_eq (hO : OKm n m mv st) (hC : CI I L rm n m mv st) (he : EL n (Gp n m mv) N e) (hN : N ≤ 5040) : ∃ I1 L1 rm1, f_X2_all rm I L = some ((I1, L1), rm1) ∧ GD rm I L n m mv st N e I1 L1 rm1 := by
  have hn := hO.1
  have hG := Gp_Sub hn hO.2.2.1
  have hNp := EL_pos hG he
  obtain ⟨rb, th, t1, t2⟩ := CI_tab hO hC
  have s1 : f_X0_size 8 I L = some (nI N) := by rw [size_eq hn t1 t2.1, ← (EL_tab hn hG t2 he).1]
  obtain ⟨r1, r2, r3⟩ := id hC.2.2.2.2.2.2.2.2.2
  have mn5 : ∀ k, k ≤ 5040 → imin (nI k) 5040 = nI k := fun k hk => if_neg (by rw [show (5040 : Int32) = nI 5040 from rfl, q_lt (by decide) (by omega)]; omega)
  have mx1 : ∀ k, 1 ≤ k → k ≤ 5040 → imax (nI k) 1 = nI k := fun k hk hk2 => if_neg (by rw [show (1 : Int32) = nI 1 from rfl, q_lt (by omega) (by decide)]; omega)
  have rok : ∀ k, 1 ≤ k → k ≤ 5040 → k ≠ rm → rOK (nI k) rm = true := fun k h1 h2 h3 => by
    unfold rOK
    rw [nI_toInt (by omega), q_ix (by omega), decide_eq_true (by omega), decide_eq_true (by omega), decide_eq_true h3]; rfl
  have nw : ∀ k, AF I L (nwI (nI k) I) (nwL L) := fun k => ⟨fun p hp _ => funext fun j => by unfold nwI; rw [if_neg (by omega)], fun j _ => by unfold nwI; rw [if_neg (by omega)], fun p hp => funext fun j => by unfold nwL; rw [if_neg (by omega)]⟩
  have nw6 : ∀ k, nwI (nI k) I 6 11 = I 6 11 := fun k => by unfold nwI; rw [if_neg (by omega)]
  have nw0 : ∀ k, nwI (nI k) I 69 0 = nI k := fun k => by unfold nwI; rw [if_pos (by omega), if_pos ⟨rfl, rfl⟩]
  unfold f_X2_all
  rw [ob s1, bnd_eq, mn5 N hN]
  by_cases h0 : rm = 0
  · have h6 : I 6 11 = 0 := by
      rcases r3 with g | ⟨_, g, _⟩
      · exact g
      · exact absurd h0 g
    rw [if_pos h0, bnd_eq, mx1 N hNp hN, chk_pos (rok N hNp hN (by omega)), bnd_eq, bnd_eq, nw0, if_pos (by rw [q_le (by omega) (by omega)]; omega), q_ix (by omega)]
    obtain ⟨I1, L1, g1, g2⟩ := allT_eq hO hC (nw N) (nw6 N) he (nw0 N) (by omega) hN (Nat.le_refl _) (Or.inr ⟨by omega, hN, Or.inl h0⟩) (Or.inl (by rw [nw6]; exact h6))
    exact ⟨I1, L1, N, g1, g2⟩
  · have e69 := r2 h0
    rw [if_neg h0, e69, ifc (q_le (by omega) (by omega))]
    have hF : I 6 11 = 0 ∨ (I 6 11 = 1 ∧ Lst I L rm n N e ∧ FL I L n m mv N e) := by
      rcases r3 with g | ⟨g1, g2, N', e', g3, g4, g5, g6, g7⟩
      · exact Or.inl g
      · obtain ⟨u1, u2⟩ := EL_un hn hG t2 he g3
        subst u1
        refine Or.inr ⟨g1, ⟨g4.1, g4.2.1, g4.2.2.1, g4.2.2.2.1, g4.2.2.2.2.1, fun x hx => by rw [g4.2.2.2.2.2 x hx, u2 x hx]⟩, g5.imp id (fun ⟨w1, w2⟩ => ⟨w1, Msd_e (fun i hi => (u2 i hi).symm) w2⟩), g6.imp id (fun ⟨w1, ⟨B, b1, b2⟩, w3⟩ => ⟨w1, ⟨B, fun x hx => (b1 x hx).trans ?_, b2⟩, fun x y hx hy => by rw [← u2 x hx, ← u2 y hy]; exact w3 x y hx hy⟩), g7.imp id (fun ⟨w1, w2⟩ => ⟨w1, fun x hx => by rw [← u2 x hx]; exact w2 x hx⟩)⟩
        rw [u2 x hx]
        exact ⟨fun g y hy => by rw [← u2 y (by omega)]; exact g y hy, fun g y hy => by rw [u2 y (by omega)]; exact g y hy⟩
    by_cases hle : N ≤ rm
    · rw [if_pos hle]
      obtain ⟨I1, L1, g1, g2⟩ := allT_eq hO hC AF.refl rfl he e69 h0 r1 hle (Or.inl rfl) hF
      exact ⟨I1, L1, rm, g1, g2⟩
    · have h6 : I 6 11 = 0 := by
        rcases hF with g | ⟨_, g, _⟩
        · exact g
        · exact absurd g.2.2.2.1 hle
      have hmx : ∃ k, imax (imin (imax (nI N) (2 * nI rm)) 5040) 1 = nI k ∧ N ≤ k ∧ k ≤ 5040 ∧ (k = 5040 ∨ 2 * rm ≤ k) := by
        have e2 : (2 : Int32) * nI rm = nI (2 * rm) := by rw [show (2 : Int32) = nI 2 from rfl, pk_mul]
        rw [e2]
        by_cases c1 : N < 2 * rm
        · rw [show imax (nI N) (nI (2 * rm)) = nI (2 * rm) from if_pos (by rw [q_lt (by omega) (by omega)]; exact c1)]
          by_cases c2 : 5040 < 2 * rm
          · rw [show imin (nI (2 * rm)) 5040 = nI 5040 from if_pos (by rw [show (5040 : Int32) = nI 5040 from rfl, q_lt (by omega) (by omega)]; exact c2), mx1 5040 (by omega) (by omega)]
            exact ⟨5040, rfl, hN, by omega, Or.inl rfl⟩
          · rw [mn5 _ (by omega), mx1 _ (by omega) (by omega)]
            exact ⟨2 * rm, rfl, by omega, by omega, Or.inr (by omega)⟩
        · rw [show imax (nI N) (nI (2 * rm)) = nI N from if_neg (by rw [q_lt (by omega) (by omega)]; exact c1), mn5 _ hN, mx1 _ (by omega) (by omega)]
          exact ⟨N, rfl, by omega, hN, Or.inr (by omega)⟩
      obtain ⟨k, k1, k2, k3, k4⟩ := hmx
      rw [if_neg hle, bnd_eq, k1, chk_pos (rok k (by omega) k3 (by omega)), bnd_eq, bnd_eq, q_ix (by omega)]
      obtain ⟨I1, L1, g1, g2⟩ := allT_eq hO hC (nw k) (nw6 k) he (nw0 k) (by omega) k3 k2 (Or.inr ⟨by omega, k3, Or.inr k4⟩) (Or.inl (by rw [nw6]; exact h6))
      exact ⟨I1, L1, k, g1, g2⟩
theorem hurdle_eq (hO : OKm n m mv st) (hC : CI I L rm n m mv st) (he : EL n (Gp n m mv) N e) : f_X7_hurdle I L = some (nI (hz n N)) := by
  have hn := hO.1
  have hN := EL_N hO he
  unfold f_X7_hurdle hz
  rw [hC.1]
  by_cases h0 : n = 0
  · rw [if_pos (show nI n = 0 by rw [h0]; rfl), if_pos h0]; rfl
  · rw [if_neg (nI_ne0 (by omega) (by omega)), ob (size2_eq hO hC he), if_neg h0]
    by_cases h1 : N ≤ 5040
    · rw [if_pos (show nI N ≤ 5040 by rw [show (5040 : Int32) = nI 5040 from rfl, q_le (by omega) (by decide)]; exact h1), if_pos h1]; rfl
    · rw [if_neg (show ¬ nI N ≤ 5040 by rw [show (5040 : Int32) = nI 5040 from rfl, q_le (by omega) (by decide)]; exact h1), if_neg h1]; rfl
theorem hz_3 (n N : Nat) : hz n N = 0 ∨ hz n N = 5 ∨ hz n N = 3 := by
  unfold hz
  by_cases h0 : n = 0
  · rw [if_pos h0]; omega
  · rw [if_neg h0]
    by_cases h1 : N ≤ 5040
    · rw [if_pos h1]; omega
    · rw [if_neg h1]; omega
theorem hz_N (h : hz n N = 0) : N ≤ 5040 ∧ 0 < n := by
  unfold hz at h
  by_cases h0 : n = 0
  · rw [if_pos h0] at h; omega
  · rw [if_neg h0] at h
    by_cases h1 : N ≤ 5040
    · omega
    · rw [if_neg h1] at h; omega
theorem wS (hO : OKm n m mv st) (hR : RDY I n m mv st) (he : EL n (Gp n m mv) N e) {k : Nat} (hk : hz n N = k) : ∃ I', f_X8_whySmall 0 I L = some (nI k, I', L) ∧ RDY I' n m mv st ∧ Q8 I I' ∧ Fr (43 :: 48 :: SC) I I' := by
  obtain ⟨I', a1, a2, a3, a4, a5⟩ := whySmall0 (L := L) hO hR he
  rw [hk] at a1
  exact ⟨I', a1, a2, Q8_b a4 a5, a4⟩
theorem wS_1 : f_X8_whySmall 1 I L = some (1, I, L) := rfl
/-- the end of a call with a roster -/
theorem IV_a {I1 I2 : MI} {L1 : ML} {rm1 : Nat} {s : Int32} (h : IV I L rm n m mv st) (g : GD rm I L n m mv st N e I1 L1 rm1) (hq : Q8 (up2 I1 0 6 s) I2) (hr : RDY I2 n m mv st) (hs : I2 43 0 = s) : Inv I2 L1 rm1 :=
  IV_fin h (CI_s g.2.2.2.1) (g.2.2.2.2.2.1.co.trans CO_s) hq hr (by rw [up2_s, hs])
theorem RDY_a {I1 : MI} {L1 : ML} {rm1 : Nat} {s : Int32} (g : GD rm I L n m mv st N e I1 L1 rm1) (h : RDY I n m mv st) : RDY (up2 I1 0 6 s) n m mv st := by
  obtain ⟨f1, _, _⟩ := g.2.2.2.2.2.1
  have k : ∀ p, p ≠ 0 → p < 69 → p ≠ 6 → up2 I1 0 6 s p = I p := fun p h0 h1 h2 => by rw [up2_ne h0, f1 p h1 h2]
  exact h.of (by rw [k 43 (by decide) (by decide) (by decide)]) (by rw [k 43 (by decide) (by decide) (by decide)]) (k 44 (by decide) (by decide) (by decide)) (k 52 (by decide) (by decide) (by decide)) (k 53 (by decide) (by decide) (by decide))
theorem GD.kA {I1 : MI} {L1 : ML} {rm1 : Nat} (g : GD rm I L n m mv st N e I1 L1 rm1) {β : Type} {x : Option β} : chk (decide (rm1 ≤ 5040)) x = x := chk_pos (decide_eq_true g.2.2.1)
theorem GD.kB {I1 : MI} {L1 : ML} {rm1 : Nat} (g : GD rm I L n m mv st N e I1 L1 rm1) {β : Type} {x : Option β} : chk (decide (rm1 ≠ 0)) x = x := chk_pos (decide_eq_true g.2.1)
theorem wS0 (hO : OKm n m mv st) (hR : RDY I n m mv st) (he : EL n (Gp n m mv) N e) (hk : hz n N = 0) : ∃ I', f_X8_whySmall 0 I L = some (0, I', L) ∧ BD I' n m mv st ∧ Q8 I I' ∧ Fr (43 :: 48 :: SC) I I' := by
  obtain ⟨I', a1, a2, a3, a4, a5⟩ := whySmall0 (L := L) hO hR he
  rw [hk] at a1
  exact ⟨I', a1, (a3 hk).1, Q8_b a4 a5, a4⟩
theorem RS_r : RS rm rm := Or.inl rfl
theorem measured_eq (hO : OKm n m mv st) (hC : CI I L rm n m mv st) (he : EL n (Gp n m mv) N e) (hN : N ≤ 5040) : ∃ I1 L1 rm1, f_X2_measured rm I L = some ((I1, L1), rm1) ∧ GD rm I L n m mv st N e I1 L1 rm1 ∧ Msd I1 m mv N e := by
  obtain ⟨I1, L1, rm1, a1, a2⟩ := all_eq hO hC he hN
  obtain ⟨b1, b2, b3, b4, b5, b6, b7, b8, b9, b10⟩ := id a2
  unfold f_X2_measured
  rw [ob a1]
  dsimp only
  rw [chk_pos (decide_eq_true b3), chk_pos (decide_eq_true b2), b4.2.1]
  rcases b8 with g | ⟨g1, g2⟩
  · obtain ⟨I2, c1, c2, c3, c4, c5⟩ := measure_eq hO.1 hO.2.2.1 hO.2.1 he b5 b4.2.2.1 g
    rw [ob c1]
    have A2 : AF I L I2 L1 := b6.trans ⟨fun p hp _ => c5 p (Or.inl hp), fun j _ => by rw [c5 6 (Or.inl (by decide))], fun _ _ => rfl⟩
    have Ls2 : Lst I2 L1 rm1 n N e := by
      obtain ⟨d1, d2, d3, d4⟩ := b5
      exact ⟨by rw [c4 0 (by decide) (by decide) (by decide)]; exact d1, by rw [c4 1 (by decide) (by decide) (by decide)]; exact d2, by rw [c4 11 (by decide) (by decide) (by decide)]; exact d3, d4⟩
    have e6 : I2 6 11 = 1 := by rw [c5 6 (Or.inl (by decide))]; exact b7
    have F2 : FL I2 L1 n m mv N e := by
      refine ⟨Or.inr ⟨c3, c2⟩, ?_, ?_⟩
      · rw [c4 14 (by decide) (by decide) (by decide)]
        refine b9.imp id (fun ⟨w1, w2⟩ => ⟨w1, ?_⟩)
        unfold Srt at w2 ⊢
        rw [c4 3 (by decide) (by decide) (by decide), c5 71 (by decide)]; exact w2
      · rw [c4 15 (by decide) (by decide) (by decide)]
        exact b10
    exact ⟨_, _, _, rfl, ⟨b1, b2, b3, CI_ros hC A2 ⟨b3, fun _ => Ls2.1, Or.inr ⟨e6, b2, N, e, he, Ls2, F2⟩⟩, Ls2, A2, e6, F2⟩, c2⟩
  · have : f_X4_measure rm1 7 (nI m) I1 L1 = some (I1, L1) := by
      unfold f_X4_measure
      rw [if_neg (by rw [g1]; decide)]
    rw [ob this]
    exact ⟨_, _, _, rfl, a2, g2⟩
end AL
