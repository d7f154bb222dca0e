/-! The reference: built, listed, measured -/
def OKm (n m : Nat) (mv : Nat → Nat → Nat) (st : Nat → Nat) : Prop := n ≤ 10 ∧ m ≤ 6 ∧ (∀ i, i < m → IsP n (mv i)) ∧ IsP n st
def RDY (I : MI) (n m : Nat) (mv : Nat → Nat → Nat) (st : Nat → Nat) : Prop := I 43 2 = nI n ∧ Nw I m mv st ∧ (I 43 20 = 0 ∨ (I 43 20 = 1 ∧ SlotG I 0 (Gp n m mv)))
def BD (I : MI) (n m : Nat) (mv : Nat → Nat → Nat) (st : Nat → Nat) : Prop := I 43 2 = nI n ∧ Nw I m mv st ∧ SlotG I 0 (Gp n m mv) ∧ I 43 20 = 1
def AD (I : MI) (n m : Nat) (mv : Nat → Nat → Nat) (st : Nat → Nat) (N : Nat) (e : Nat → Nat → Nat) : Prop := BD I n m mv st ∧ I 43 24 = nI N ∧ ∀ k, k < N → Row I 60 (10 * k) (e k)
/-- what a question leaves as it was -/
def Q8 (I I' : MI) : Prop := (∀ p, (p < 43 ∨ 69 ≤ p ∨ p = 44 ∨ p = 45 ∨ p = 65 ∨ p = 66) → I' p = I p) ∧ (∀ j, j ≠ 0 → j ≠ 1 → j ≠ 20 → j ≠ 24 → I' 43 j = I 43 j)
theorem Q8.refl {I : MI} : Q8 I I := ⟨fun _ _ => rfl, fun _ _ _ _ _ => rfl⟩
theorem Q8.trans {I I' I'' : MI} (h : Q8 I I') (g : Q8 I' I'') : Q8 I I'' := ⟨fun p hp => (g.1 p hp).trans (h.1 p hp), fun j a b c d => (g.2 j a b c d).trans (h.2 j a b c d)⟩
def scr (q : Nat) : Bool := decide (46 ≤ q) && (decide (q < 65) || decide (q = 67) || decide (q = 68))
theorem Q8_fr {S : List Nat} {I I' : MI} (h : Fr S I I') (hS : S.all scr = true) : Q8 I I' := by
  have key : ∀ q, q ∈ S → scr q = true := fun q hq => List.all_eq_true.mp hS q hq
  have hn : ∀ q, scr q = false → q ∉ S := fun q hq hm => by have := key q hm; rw [hq] at this; cases this
  refine ⟨fun p hp => h p (hn p ?_), fun j _ _ _ _ => by rw [h 43 (hn 43 (by decide))]⟩
  unfold scr
  rcases hp with g | g | g | g | g | g
  · rw [decide_eq_false (show ¬ 46 ≤ p by omega)]; rfl
  · rw [decide_eq_false (show ¬ p < 65 by omega), decide_eq_false (show ¬ p = 67 by omega), decide_eq_false (show ¬ p = 68 by omega)]; simp
  · subst g; decide
  · subst g; decide
  · subst g; decide
  · subst g; decide
/-- fields that may change -/
def F43 (I I' : MI) : Prop := ∀ j, j ≠ 20 → j ≠ 24 → I' 43 j = I 43 j
section RD
variable {n m N : Nat} {mv : Nat → Nat → Nat} {st : Nat → Nat} {e : Nat → Nat → Nat}
theorem BD.rdy {I : MI} (h : BD I n m mv st) : RDY I n m mv st := ⟨h.1, h.2.1, Or.inr ⟨h.2.2.2, h.2.2.1⟩⟩
theorem BD.of {I I' : MI} (h : BD I n m mv st) (h43 : I' 43 2 = I 43 2) (h20 : I' 43 20 = I 43 20) (h44 : I' 44 = I 44) (h52 : I' 52 = I 52) (h53 : I' 53 = I 53) : BD I' n m mv st :=
  ⟨by rw [h43]; exact h.1, h.2.1.fr h44, h.2.2.1.fr h52 h53, by rw [h20]; exact h.2.2.2⟩
theorem BD.fr {S : List Nat} {I I' : MI} (h : BD I n m mv st) (hf : Fr S I I') (hS : 43 ∉ S ∧ 44 ∉ S ∧ 52 ∉ S ∧ 53 ∉ S) : BD I' n m mv st :=
  h.of (by rw [hf 43 hS.1]) (by rw [hf 43 hS.1]) (hf 44 hS.2.1) (hf 52 hS.2.2.1) (hf 53 hS.2.2.2)
theorem AD.fr {S : List Nat} {I I' : MI} (h : AD I n m mv st N e) (hf : Fr S I I') (hS : 43 ∉ S ∧ 44 ∉ S ∧ 52 ∉ S ∧ 53 ∉ S ∧ 60 ∉ S) : AD I' n m mv st N e :=
  ⟨h.1.fr hf ⟨hS.1, hS.2.1, hS.2.2.1, hS.2.2.2.1⟩, by rw [hf 43 hS.1]; exact h.2.1, fun k hk => Row_of (hf 60 hS.2.2.2.2) (h.2.2 k hk)⟩
theorem RDY.of {I I' : MI} (h : RDY I n m mv st) (h43 : I' 43 2 = I 43 2) (h20 : I' 43 20 = I 43 20) (h44 : I' 44 = I 44) (h52 : I' 52 = I 52) (h53 : I' 53 = I 53) : RDY I' n m mv st :=
  ⟨by rw [h43]; exact h.1, h.2.1.fr h44, h.2.2.imp (fun g => by rw [h20]; exact g) (fun g => ⟨by rw [h20]; exact g.1, g.2.fr h52 h53⟩)⟩
theorem RDY.fr {S : List Nat} {I I' : MI} (h : RDY I n m mv st) (hf : Fr S I I') (hS : 43 ∉ S ∧ 44 ∉ S ∧ 52 ∉ S ∧ 53 ∉ S) : RDY I' n m mv st :=
  h.of (by rw [hf 43 hS.1]) (by rw [hf 43 hS.1]) (hf 44 hS.2.1) (hf 52 hS.2.2.1) (hf 53 hS.2.2.2)
theorem builds__eq {I : MI} {L : ML} (hO : OKm n m mv st) (h : RDY I n m mv st) : ∃ I', f_X8_builds_ I L = some (I', L) ∧ BD I' n m mv st ∧ Fr (43 :: 48 :: SC) I I' ∧ (∀ j, j ≠ 20 → I' 43 j = I 43 j) ∧ FrS 0 I I' := by
  unfold f_X8_builds_
  have h2m : 2 ^ m ≤ 2 ^ 6 := Nat.pow_le_pow_right (by decide) hO.2.1
  have h2p := Nat.two_pow_pos m
  obtain ⟨h1, h2, h3⟩ := h
  by_cases hz : I 43 20 = 0
  · obtain ⟨I1, i1, i2, i3, i4⟩ := builds_eq (I := I) (L := L) (s := 0) (set := 2 ^ m - 1) (m := m) (mv := mv) (st := st) (by decide) (by omega) (fun i hi => IsP_mono (hO.2.2.1 i hi) hO.1) h2
    rw [nI_0] at i1
    have hm6 := hO.2.1
    rw [if_pos hz, ob (moves_eq h2), q_shl1 (by omega), show (1 : Int32) = nI 1 from rfl, pk_sub h2p, ob i1, bnd_eq]
    have h43 := i3 43 (by decide)
    dsimp only
    refine ⟨_, rfl, ⟨by rw [up2_n (by decide), h43]; exact h1, (h2.fr (i3 44 (by decide))).fr (up2_ne (by decide)), ?_, up2_s⟩, ?_, fun j hj => by rw [up2_n hj, h43], i4.trans (FrS.of (up2_ne (by decide)) (up2_ne (by decide)))⟩
    · rw [Gen_10 hO.1 (MS_P hO.2.2.1 _)] at i2
      exact SlotG.fr i2 (up2_ne (by decide)) (up2_ne (by decide))
    · exact (i3.mono (fun q hq => List.mem_cons_of_mem _ hq)).trans (fun q hq => up2_ne (fun g => hq (by rw [g]; decide)))
  · obtain ⟨g1, g2⟩ := h3.resolve_left hz
    rw [if_neg hz, bnd_eq]
    exact ⟨_, rfl, ⟨by rw [up2_n (by decide)]; exact h1, h2.fr (up2_ne (by decide)), g2.fr (up2_ne (by decide)) (up2_ne (by decide)), up2_s⟩, fun q hq => up2_ne (fun g => hq (by rw [g]; decide)), fun j hj => up2_n hj, FrS.of (up2_ne (by decide)) (up2_ne (by decide))⟩
theorem orderOf0 {I : MI} {L : ML} (hO : OKm n m mv st) (h : BD I n m mv st) (he : EL n (Gp n m mv) N e) : f_X8_orderOf 0 I L = some (nI N) := by
  have hG := Gp_Sub hO.1 hO.2.2.1
  obtain ⟨T, hS, hT, _⟩ := h.2.2.1
  unfold f_X8_orderOf
  have := orderFrom0 (L := L) hO.1 hG hT (Nat.zero_le n)
  rw [nI_0, Nat.sub_zero, ← (EL_tab hO.1 hG (TabG_n hO.1 hG hT) he).1] at this
  rw [ob this]
theorem orderNow_eq {I : MI} {L : ML} (hO : OKm n m mv st) (h : RDY I n m mv st) (he : EL n (Gp n m mv) N e) : ∃ I', f_X8_orderNow I L = some (nI N, I', L) ∧ BD I' n m mv st ∧ Fr (43 :: 48 :: SC) I I' ∧ (∀ j, j ≠ 20 → I' 43 j = I 43 j) ∧ FrS 0 I I' := by
  obtain ⟨I', a1, a2, a3, a4, a5⟩ := builds__eq (L := L) hO h
  unfold f_X8_orderNow
  rw [ob a1, ob (orderOf0 hO a2 he)]
  exact ⟨I', rfl, a2, a3, a4, a5⟩
theorem EL_N (hO : OKm n m mv st) (he : EL n (Gp n m mv) N e) : N ≤ 3628800 := by
  have hG := Gp_Sub hO.1 hO.2.2.1
  obtain ⟨R, T, h⟩ := Tab_ex hO.1 hG
  rw [(EL_tab hO.1 hG h he).1]
  exact sz_lt hO.1 h.1 (Nat.le_refl n)
/-- what forbids to ask of all -/
def hz (n N : Nat) : Nat := if n = 0 then 5 else if N ≤ 5040 then 0 else 3
theorem whySmall0 {I : MI} {L : ML} (hO : OKm n m mv st) (h : RDY I n m mv st) (he : EL n (Gp n m mv) N e) : ∃ I', f_X8_whySmall 0 I L = some (nI (hz n N), I', L) ∧ RDY I' n m mv st ∧ (hz n N = 0 → BD I' n m mv st ∧ N ≤ 5040 ∧ 0 < n) ∧ Fr (43 :: 48 :: SC) I I' ∧ (∀ j, j ≠ 20 → I' 43 j = I 43 j) := by
  have hN := EL_N hO he
  have hn := hO.1
  unfold f_X8_whySmall hz
  rw [if_pos rfl, h.1]
  by_cases hn0 : n = 0
  · rw [if_pos (show nI n = 0 by rw [hn0]; rfl), if_pos hn0]
    exact ⟨I, rfl, h, (fun g => by cases g), Fr.refl, fun _ _ => rfl⟩
  · obtain ⟨I', a1, a2, a3, a4, a5⟩ := orderNow_eq (L := L) hO h he
    have e1 : f_X8_isSmall I L = some (decide (N ≤ 5040), I', L) := by
      unfold f_X8_isSmall
      rw [ob a1, show (5040 : Int32) = nI 5040 from rfl, ifc (q_lt (by decide) (by omega))]
      by_cases g : N ≤ 5040
      · rw [if_neg (by omega), decide_eq_true g]
      · rw [if_pos (by omega), decide_eq_false g]
    rw [if_neg (nI_ne0 (by omega) (by omega)), if_neg hn0, ob e1]
    by_cases g : N ≤ 5040
    · rw [decide_eq_true g, if_neg (show ¬ b2i true = 0 by decide), if_pos g]
      exact ⟨I', rfl, a2.rdy, fun _ => ⟨a2, g, by omega⟩, a3, a4⟩
    · rw [decide_eq_false g, if_pos (show b2i false = 0 from rfl), if_neg g]
      exact ⟨I', rfl, a2.rdy, (fun h => by cases h), a3, a4⟩
theorem laysStep_eq {I : MI} {L : ML} {s a : Nat} (hO : OKm n m mv st) (h : Nw I m mv st) (hs : s < 2 * m) (ha : a ≠ 44) (ha2 : a ≠ 51) : ∃ I', f_X8_laysStep (nI s) a I L = some (I', L) ∧ Row I' a 0 (stp mv s) ∧ Fr [a, 51] I I' := by
  unfold f_X8_laysStep
  have hm := hO.2.1
  rw [chk_pos (by decide), show nI s / 2 = nI (s / 2) from pk_div (d := 2) (by omega) (by decide) (by decide), ob (laysMove_eq h (show s / 2 < m by omega) ha), chk_pos (by decide), show irem (nI s) 2 = nI (s % 2) from pk_rem (d := 2) (by omega) (by decide) (by decide)]
  unfold stp
  by_cases g : s % 2 = 0
  · rw [g, if_pos (show nI 0 = 0 from rfl), if_pos rfl]
    exact ⟨_, rfl, Row_wp, Fr_wp (by simp)⟩
  · rw [if_neg (nI_ne0 (by omega) (by omega)), if_neg g, ob (copies10 Row_wp ha2), ob (inverts_eq Row_wp (IsP_mono (hO.2.2.1 _ (show s / 2 < m by omega)) hO.1) (fun g => ha2 g.symm))]
    exact ⟨_, rfl, Row_wp, ((Fr_wp (by simp)).trans (Fr_wp (by simp))).trans (Fr_wp (by simp))⟩
theorem laysOne_eq {I : MI} {L : ML} {k a : Nat} (hN : N ≤ 5040) (h : ∀ k, k < N → Row I 60 (10 * k) (e k)) (hk : k < N) (ha : a ≠ 60) : f_X8_laysOne (nI k) a I L = some (wp I a 0 (e k), L) := by
  unfold f_X8_laysOne
  rw [show (10 : Int32) * nI k = nI (10 * k) by rw [show (10 : Int32) = nI 10 from rfl, pk_mul], ob (copiesx0 (h k hk) (fun g => ha g.symm) (by omega) (by decide) (by decide) (by decide))]
theorem laysAll_eq {I : MI} {L : ML} (hO : OKm n m mv st) (h : RDY I n m mv st) (he : EL n (Gp n m mv) N e) (hN : N ≤ 5040) : ∃ I', f_X8_laysAll I L = some (I', L) ∧ AD I' n m mv st N e ∧ Fr (43 :: 48 :: 60 :: SC) I I' ∧ F43 I I' := by
  have hG := Gp_Sub hO.1 hO.2.2.1
  obtain ⟨I1, a1, a2, a3, a4, a5⟩ := orderNow_eq (L := L) hO h he
  unfold f_X8_laysAll
  rw [ob a1, bnd_eq]
  have f1 : Fr (43 :: 48 :: 60 :: SC) I (up2 I1 43 24 (nI N)) := (a3.mono (by decide)).trans (fun q hq => up2_ne (fun g => hq (by rw [g]; decide)))
  have b1 : BD (up2 I1 43 24 (nI N)) n m mv st := a2.of (up2_n (by decide)) (up2_n (by decide)) (up2_ne (by decide)) (up2_ne (by decide)) (up2_ne (by decide))
  have g1 : F43 I (up2 I1 43 24 (nI N)) := fun j h1 h2 => by rw [up2_n h2]; exact a4 j h1
  have := loop0 (fun fu z => f_X8_laysAll_10 fu z.1 z.2.1 z.2.2)
    (fun k z => k ≤ N ∧ z.1 = nI k ∧ z.2.2 = L ∧ BD z.2.1 n m mv st ∧ z.2.1 43 24 = nI N ∧ (∀ i, i < k → Row z.2.1 60 (10 * i) (e i)) ∧ Fr (43 :: 48 :: 60 :: SC) I z.2.1 ∧ F43 I z.2.1)
    (fun o => ∃ I', o = some (I', L) ∧ AD I' n m mv st N e ∧ Fr (43 :: 48 :: 60 :: SC) I I' ∧ F43 I I') N (by omega) (nI 0, up2 I1 43 24 (nI N), L) ⟨Nat.zero_le _, rfl, rfl, b1, (up2_s : up2 I1 43 24 (nI N) 43 24 = nI N), fun i hi => by omega, f1, g1⟩
    (fun fu k z hk hP => by
      obtain ⟨z1, J, K⟩ := z
      obtain ⟨_, p1, p2, p3, p4, p5, p6, p7⟩ := hP
      dsimp only at p1 p2 p3 p4 p5 p6 p7 ⊢
      subst p1 p2
      rw [f_X8_laysAll_10, p4, ifc (q_le (by omega) (by omega))]
      by_cases c1 : N ≤ k
      · left
        rw [if_pos c1]
        exact ⟨J, rfl, ⟨p3, p4, fun i hi => p5 i (by omega)⟩, p6, p7⟩
      · right
        refine ⟨by omega, ?_⟩
        obtain ⟨J1, j1, j2, j3⟩ := laysNth_eq (I := J) (L := K) (a := 48) (x := k) hO.1 hG (by decide) p3.1 p3.2.2.1 he (by omega)
        rw [if_neg c1, ob j1, show (10 : Int32) * nI k = nI (10 * k) by rw [show (10 : Int32) = nI 10 from rfl, pk_mul], ob (copies0y j3 (by decide) (by decide) (by omega) (by decide) (by decide)), bnd_eq, nI_1]
        have f2 : Fr [48, 57, 58, 59, 60] J (wp J1 60 (10 * k) (e k)) := (j2.mono (by decide)).trans (Fr_wp (by decide))
        refine ⟨(nI (k + 1), wp J1 60 (10 * k) (e k), K), rfl, by omega, rfl, rfl, p3.fr f2 (by decide), (congrFun (f2 43 (by decide)) 24).trans p4, fun i hi => ?_, p6.trans (f2.mono (by decide)), fun j h1 h2 => (congrFun (f2 43 (by decide)) j).trans (p7 j h1 h2)⟩
        by_cases e1 : i = k
        · rw [e1]; exact Row_wp
        · intro t ht
          show wp J1 60 (10 * k) (e k) 60 (10 * i + t) = _
          unfold wp
          rw [wr_out (by omega), j2 60 (by decide)]
          exact p5 i (by omega) t ht)
  rw [nI_0] at this
  exact this
theorem laysDepths_eq {I : MI} {L : ML} {dp kk : Nat → Nat} (hO : OKm n m mv st) (h : RDY I n m mv st) (he : EL n (Gp n m mv) N e) (hN : N ≤ 5040) (hD : DK m mv N e dp kk) : ∃ I', f_X8_laysDepths I L = some (I', L) ∧ AD I' n m mv st N e ∧ (∀ x, x < N → I' 61 x = nI (dp x)) ∧ Fr (43 :: 48 :: 49 :: 50 :: 51 :: 60 :: 61 :: 62 :: SC) I I' ∧ F43 I I' := by
  have hG := Gp_Sub hO.1 hO.2.2.1
  have hn := hO.1
  have hm := hO.2.1
  have hmv := hO.2.2.1
  have hNp := EL_pos hG he
  obtain ⟨nx, hX⟩ := NX_ex hn hmv he
  obtain ⟨z0, _⟩ := DK_0 hn hm hmv he hD
  obtain ⟨I1, a1, a2, a3, a4⟩ := laysAll_eq (L := L) hO h he hN
  unfold f_X8_laysDepths
  rw [ob a1]
  dsimp only
  have b0 : f_X8_laysDepths_6 L (fun (I_6 : MI) =>
    chk (inb 0 5040) (bnd (up2 I_6 61 (ix 0) 0) (fun I_7 =>
    chk (inb 0 5040) (bnd (up2 I_7 62 (ix 0) 0) (fun I_8 =>
    f_X8_laysDepths_45 FU 1 0 I_8 L))))) FU 0 I1 = (fun (I_6 : MI) =>
    chk (inb 0 5040) (bnd (up2 I_6 61 (ix 0) 0) (fun I_7 =>
    chk (inb 0 5040) (bnd (up2 I_7 62 (ix 0) 0) (fun I_8 =>
    f_X8_laysDepths_45 FU 1 0 I_8 L))))) (wr I1 61 0 N (fun _ => -1)) := by
    have := for0 (fun fu s => f_X8_laysDepths_6 L (fun (I_6 : MI) =>
      chk (inb 0 5040) (bnd (up2 I_6 61 (ix 0) 0) (fun I_7 =>
      chk (inb 0 5040) (bnd (up2 I_7 62 (ix 0) 0) (fun I_8 =>
      f_X8_laysDepths_45 FU 1 0 I_8 L))))) fu s.1 s.2) (fun x => (nI x, wr I1 61 0 x (fun _ => -1))) N _ (by omega)
      (fun fu => by
        dsimp only
        rw [f_X8_laysDepths_6, wr_ne (by decide), a2.2.1, if_pos (by rw [q_le (by omega) (by omega)]; omega)])
      (fun fu x hx => by
        dsimp only
        rw [f_X8_laysDepths_6, wr_ne (by decide), a2.2.1, if_neg (by rw [q_le (by omega) (by omega)]; omega), q_chk (by omega) (by decide), bnd_eq, q_ix (by omega), wr_s0 (f := fun _ => (-1 : Int32)) rfl, bnd_eq, nI_1])
    rw [wr_0, nI_0] at this
    exact this
  rw [b0]
  dsimp only
  rw [chk_pos (by decide), bnd_eq, chk_pos (by decide), bnd_eq, show ix 0 = 0 from rfl]
  generalize hI2 : up2 (up2 (wr I1 61 0 N (fun _ => -1)) 61 0 0) 62 0 0 = I2
  have f2 : Fr [61, 62] I1 I2 := fun q hq => by
    rw [← hI2, up2_ne (fun g => hq (by rw [g]; decide)), up2_ne (fun g => hq (by rw [g]; decide)), wr_ne (fun g => hq (by rw [g]; decide))]
  have A2 : AD I2 n m mv st N e := a2.fr f2 (by decide)
  have hM0 : MB I2 61 62 N dp kk 0 0 1 (fun _ => 0) := by
    refine ⟨BI_0 hNp, fun j hj => by rw [show j = 0 by omega, ← hI2, up2_s]; rfl, fun x hx ⟨j, _, g⟩ => by rw [← g, z0, ← hI2, up2_ne (by decide), up2_s]; rfl, fun x hx g => ?_⟩
    have h0 : x ≠ 0 := fun h0 => g ⟨0, by omega, h0.symm⟩
    rw [← hI2, up2_ne (by decide), up2_n h0, wr_in (Nat.zero_le _) (by omega)]
  have fb : Fr (43 :: 48 :: 49 :: 50 :: 51 :: 60 :: 61 :: 62 :: SC) I I2 := (a3.mono (by decide)).trans (f2.mono (by decide))
  have fc : F43 I I2 := fun j h1 h2 => by rw [f2 43 (by decide)]; exact a4 j h1 h2
  have key := loop0 (fun fu z => f_X8_laysDepths_45 fu z.1 z.2.1 z.2.2.1 z.2.2.2)
    (fun i z => i ≤ N ∧ z.2.1 = nI i ∧ z.2.2.2 = L ∧ AD z.2.2.1 n m mv st N e ∧ (∃ fin q, z.1 = nI fin ∧ MB z.2.2.1 61 62 N dp kk i 0 fin q) ∧ Fr (43 :: 48 :: 49 :: 50 :: 51 :: 60 :: 61 :: 62 :: SC) I z.2.2.1 ∧ F43 I z.2.2.1)
    (fun o => ∃ I', o = some (I', L) ∧ AD I' n m mv st N e ∧ (∀ x, x < N → I' 61 x = nI (dp x)) ∧ Fr (43 :: 48 :: 49 :: 50 :: 51 :: 60 :: 61 :: 62 :: SC) I I' ∧ F43 I I') N (by omega) (nI 1, nI 0, I2, L) ⟨Nat.zero_le _, rfl, rfl, A2, ⟨1, fun _ => 0, rfl, hM0⟩, fb, fc⟩
    (fun fu i z hi hP => by
      obtain ⟨z1, z2, J, K⟩ := z
      obtain ⟨_, p1, p2, p3, ⟨fin, q, p4, p5⟩, p6, p7⟩ := hP
      dsimp only at p1 p2 p3 p4 p5 p6 p7 ⊢
      subst p1 p2 p4
      have hfN := p5.1.1
      have hif := p5.1.2.2.2.1
      rw [f_X8_laysDepths_45, ifc (q_le (by omega) (by omega))]
      by_cases c1 : fin ≤ i
      · left
        rw [if_pos c1]
        obtain ⟨e1, e2⟩ := BI_end hn hm hmv he hD p5.1 (by omega)
        exact ⟨J, rfl, p3, fun x hx => p5.2.2.1 x hx (e2 x hx), p6, p7⟩
      · right
        have hiN : i < N := by omega
        refine ⟨hiN, ?_⟩
        rw [if_neg c1]
        generalize hk0 : (fun (v1_29 : Int32) (I_30 : MI) (L_31 : ML) => bnd (nI i + 1 : Int32) (fun v2_32 => f_X8_laysDepths_45 fu v1_29 v2_32 I_30 L_31)) = k0
        have inner := loop0 (fun fu2 z => f_X8_laysDepths_52 (nI i) k0 fu2 z.1 z.2.1 z.2.2.1 z.2.2.2)
          (fun s z => s ≤ 2 * m ∧ z.2.1 = nI s ∧ z.2.2.2 = K ∧ AD z.2.2.1 n m mv st N e ∧ (∃ fin q, z.1 = nI fin ∧ i < fin ∧ MB z.2.2.1 61 62 N dp kk i s fin q) ∧ Fr (43 :: 48 :: 49 :: 50 :: 51 :: 60 :: 61 :: 62 :: SC) I z.2.2.1 ∧ F43 I z.2.2.1)
          (fun o => ∃ fin q I', o = k0 (nI fin) I' K ∧ AD I' n m mv st N e ∧ i < fin ∧ MB I' 61 62 N dp kk i (2 * m) fin q ∧ Fr (43 :: 48 :: 49 :: 50 :: 51 :: 60 :: 61 :: 62 :: SC) I I' ∧ F43 I I') (2 * m) (by omega) (nI fin, nI 0, J, K) ⟨Nat.zero_le _, rfl, rfl, p3, ⟨fin, q, rfl, by omega, p5⟩, p6, p7⟩
          (fun fu2 s z hs hP => by
            obtain ⟨z1, z2, J, K2⟩ := z
            obtain ⟨_, p1, p2, p3, ⟨fin, q, p4, c1, p5⟩, p6, p7⟩ := hP
            dsimp only at p1 p2 p3 p4 p5 p6 p7 ⊢
            subst p1 p2 p4
            have hfN := p5.1.1
            obtain ⟨b1, b2, b3, b4⟩ := id p5
            rw [f_X8_laysDepths_52, ob (moves_eq p3.1.2.1), show (2 : Int32) = nI 2 from rfl, pk_mul, ifc (q_le (by omega) (by omega))]
            by_cases c2 : 2 * m ≤ s
            · left
              rw [if_pos c2]
              have e1 : s = 2 * m := by omega
              subst e1
              exact ⟨fin, q, J, rfl, p3, c1, p5, p6, p7⟩
            · right
              refine ⟨by omega, ?_⟩
              have hqi := b1.2.1 i c1
              obtain ⟨y1, y2⟩ := hX s (q i) (by omega) hqi
              rw [if_neg c2, q_chk (by omega) (by decide), q_ix (by omega), b2 i c1, ob (laysOne_eq hN p3.2.2 hqi (by decide))]
              have g1 : Fr [49] J (wp J 49 0 (e (q i))) := Fr_wp (by decide)
              obtain ⟨J2, j1, j2, j3⟩ := laysStep_eq (L := K2) (s := s) (a := 50) hO (p3.fr g1 (by decide)).1.2.1 (by omega) (by decide) (by decide)
              rw [ob j1]
              have r49 : Row J2 49 0 (e (q i)) := Row_of (j3 49 (by decide)) Row_wp
              rw [ob (makes_eq r49 j2 (IsP_mono (EL_P hG he hqi) hn) (by decide) (by decide))]
              have g2 : Fr [48, 49, 50, 51] J (wp J2 48 0 (cp (e (q i)) (stp mv s))) := ((g1.mono (by decide)).trans (j3.mono (by decide))).trans (Fr_wp (by decide))
              have A3 := p3.fr g2 (by decide)
              obtain ⟨r, J3, k1, k2, k3⟩ := placeOf8_eq (L := K2) (a := 48) hn hG (by decide) (IsP_cp (EL_P hG he hqi) (IsP_stp hn hmv (show s < 2 * m by omega))) A3.1.1 A3.1.2.2.1 Row_wp he
              have hr : r = nI (nx s (q i)) := by
                rcases k3 with ⟨y, w1, w2, w3⟩ | ⟨w, _⟩
                · rw [w3, EL_inj he w1 y1 (w2.trans y2.symm)]
                · exact absurd (y2 ▸ he.1 _ y1) w
              subst hr
              rw [ob k1, bnd_eq, q_chk (by omega) (by decide), q_ix (by omega)]
              have g3 : Fr [48, 49, 50, 51, 57, 58, 59] J J3 := (g2.mono (by decide)).trans (k2.mono (by decide))
              have A4 := p3.fr g3 (by decide)
              have fx : Fr (43 :: 48 :: 49 :: 50 :: 51 :: 60 :: 61 :: 62 :: SC) I J3 := p6.trans (g3.mono (by decide))
              have fy : F43 I J3 := fun j h1 h2 => by rw [g3 43 (by decide)]; exact p7 j h1 h2
              have hdl := DK_lt hn hm hmv he hD y1
              dsimp only
              have e62 : J3 62 i = nI (q i) := by rw [g3 62 (by decide)]; exact b2 i c1
              have g61 := g3 61 (by decide)
              have g62 := g3 62 (by decide)
              by_cases hd : ∃ j, j < fin ∧ q j = nx s (q i)
              · rw [if_neg (show ¬ J3 61 (nx s (q i)) = -1 by rw [g61, b3 _ y1 hd]; exact nI_nm1 (by omega)), bnd_eq, nI_1]
                exact ⟨(nI fin, nI (s + 1), J3, K2), rfl, by omega, rfl, rfl, A4, ⟨fin, q, rfl, c1, BI_old hn hm hmv he hD b1 c1 y1 y2 hd, fun j hj => (congrFun g62 j).trans (b2 j hj), fun x hx g => (congrFun g61 x).trans (b3 x hx g), fun x hx g => (congrFun g61 x).trans (b4 x hx g)⟩, fx, fy⟩
              · obtain ⟨n1, n2, n3, n4⟩ := BI_new hn hm hmv he hD b1 c1 (show s < 2 * m by omega) y1 y2 hd
                rw [if_pos (show J3 61 (nx s (q i)) = -1 by rw [g61]; exact b4 _ y1 hd), q_chk (by omega) (by decide), e62, q_chk (by omega) (by decide), q_chk (by omega) (by decide), bnd_eq, q_chk (by omega) (by decide), bnd_eq, q_ix (by omega), q_ix (by omega), bnd_eq, nI_1, bnd_eq, nI_1, show J3 61 (q i) = nI (dp (q i)) by rw [g61]; exact b3 _ hqi ⟨i, c1, rfl⟩, nI_1]
                have hin : ∀ x, (∃ j, j < fin + 1 ∧ us q fin (nx s (q i)) j = x) → x ≠ nx s (q i) → ∃ j, j < fin ∧ q j = x := fun x ⟨j, hj, ej⟩ hx => by
                  by_cases g : j < fin
                  · rw [us_n (by omega)] at ej; exact ⟨j, g, ej⟩
                  · rw [show j = fin by omega, us_s] at ej; exact absurd ej.symm hx
                have g4 : Fr [61, 62] J3 (up2 (up2 J3 61 (nx s (q i)) (nI (dp (q i) + 1))) 62 fin (nI (nx s (q i)))) := fun q hq => by
                  rw [up2_ne (fun g => hq (by rw [g]; decide)), up2_ne (fun g => hq (by rw [g]; decide))]
                refine ⟨(nI (fin + 1), nI (s + 1), up2 (up2 J3 61 (nx s (q i)) (nI (dp (q i) + 1))) 62 fin (nI (nx s (q i))), K2), rfl, by omega, rfl, rfl, A4.fr g4 (by decide), ⟨fin + 1, us q fin (nx s (q i)), rfl, by omega, n4, fun j hj => ?_, fun x hx g => ?_, fun x hx g => ?_⟩, fx.trans (g4.mono (by decide)), fun j h1 h2 => (congrFun (g4 43 (by decide)) j).trans (fy j h1 h2)⟩
                · dsimp only
                  by_cases g : j = fin
                  · rw [g, up2_s, us_s]
                  · rw [up2_n g, up2_ne (by decide), us_n g, g3 62 (by decide)]; exact b2 j (by omega)
                · dsimp only
                  rw [up2_ne (by decide)]
                  by_cases e1 : x = nx s (q i)
                  · rw [e1, up2_s, n3]
                  · rw [up2_n e1, g3 61 (by decide)]; exact b3 x hx (hin x g e1)
                · dsimp only
                  rw [up2_ne (by decide)]
                  have e1 : x ≠ nx s (q i) := fun e1 => g ⟨fin, by omega, by rw [us_s, e1]⟩
                  rw [up2_n e1, g3 61 (by decide)]
                  exact b4 x hx (fun ⟨j, hj, ej⟩ => g ⟨j, by omega, by rw [us_n (by omega)]; exact ej⟩))
        rw [nI_0] at inner
        obtain ⟨fin', q', I', w1, w2, w3, w4, w5, w6⟩ := inner
        rw [w1, ← hk0]
        dsimp only
        rw [bnd_eq, nI_1]
        exact ⟨(nI fin', nI (i + 1), I', K), rfl, by omega, rfl, rfl, w2, ⟨fin', q', rfl, BI_next hn hm hmv he hD w4.1 w3, w4.2⟩, w5, w6⟩)
  rw [nI_0] at key
  exact key
end RD
