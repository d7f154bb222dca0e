/-! Base points, levels, the printed bytes, the tape -/
section O5
variable {n m N rm : Nat} {mv : Nat → Nat → Nat} {st : Nat → Nat} {I : MI} {L : ML} {e : Nat → Nat → Nat} {p q : Nat → Nat}
theorem w0_eq {k : Nat} (hO : OKm n m mv st) (h : BD I n m mv st) (hk : k < n) : f_X8_widthAt 0 (nI k) I L = some (nI (cT (RT I 0 k) n)) ∧ 1 ≤ cT (RT I 0 k) n ∧ cT (RT I 0 k) n ≤ n := by
  have hn := hO.1
  have hG := Gp_Sub hn hO.2.2.1
  obtain ⟨T, hS, hT, _⟩ := id h.2.2.1
  have := widthAt_eq (I := I) (L := L) (s := 0) (k := k) (by decide) (by omega)
  rw [nI_0, w_n hn hG hT hk] at this
  refine ⟨this, ?_, cT_le _ _⟩
  have := cT_lt (RT I 0 k) hk ((hT.1 k (by omega)).1.1)
  omega
theorem baseAt8_eq {k : Nat} {W : Nat → Bool} (hO : OKm n m mv st) (h : BD I n m mv st) (hW : ∀ k, k < n → W k = wB (RT I 0) n k) (hk : k < 2 ^ 31) : ∃ r, f_X8_baseAt_8 (nI k) I L FU 0 0 = some (r, I, L) ∧ ((∃ i, i < n ∧ W i = true ∧ cT W i = k ∧ r = nI i) ∨ (cT W n ≤ k ∧ r = -1)) := by
  have hn := hO.1
  have := loop0 (fun fu z => f_X8_baseAt_8 (nI k) I L fu z.1 z.2) (fun i z => i ≤ n ∧ z.2 = nI i ∧ z.1 = nI (cT W i) ∧ cT W i ≤ k) (fun o => ∃ r, o = some (r, I, L) ∧ ((∃ i, i < n ∧ W i = true ∧ cT W i = k ∧ r = nI i) ∨ (cT W n ≤ k ∧ r = -1))) n (by omega) (nI 0, nI 0) ⟨Nat.zero_le _, rfl, rfl, Nat.zero_le _⟩
    (fun fu i z hi hP => by
      obtain ⟨z1, z2⟩ := z
      obtain ⟨_, p1, p2, p3⟩ := hP
      dsimp only at p1 p2 ⊢
      subst p1 p2
      have hci := cT_le W i
      rw [f_X8_baseAt_8, h.1, ifc (q_le (by omega) (by omega))]
      by_cases c1 : n ≤ i
      · left
        rw [if_pos c1]
        exact ⟨-1, rfl, Or.inr ⟨by rw [show n = i by omega]; exact p3, rfl⟩⟩
      · obtain ⟨w1, w2, w3⟩ := w0_eq (L := L) hO h (show i < n by omega)
        have hWi := hW i (by omega)
        rw [if_neg c1, ob w1, show (1 : Int32) = nI 1 from rfl, ifc (q_eq (by omega) (by decide))]
        by_cases c2 : cT (RT I 0 i) n = 1
        · right
          refine ⟨by omega, (nI (cT W i), nI (i + 1)), ?_, by omega, rfl, ?_, ?_⟩
          · rw [if_pos c2, bnd_eq, nI_add]
          · rw [cT_f]; rw [hWi]; exact decide_eq_false (by omega)
          · rw [cT_f]; exact p3; rw [hWi]; exact decide_eq_false (by omega)
        · have hWt : W i = true := by rw [hWi]; exact decide_eq_true (by omega)
          rw [if_neg c2, ifc (q_eq (by omega) hk)]
          by_cases c3 : cT W i = k
          · left
            rw [if_pos c3]
            exact ⟨_, rfl, Or.inl ⟨i, by omega, hWt, c3, rfl⟩⟩
          · right
            refine ⟨by omega, (nI (cT W (i + 1)), nI (i + 1)), ?_, by omega, rfl, rfl, ?_⟩
            · rw [if_neg c3, bnd_eq, bnd_eq, nI_add, nI_add, cT_t hWt]
            · rw [cT_t hWt]; omega)
  rw [nI_0] at this
  exact this
theorem baseAt_eq {k : Nat} {W : Nat → Bool} (hO : OKm n m mv st) (h : RDY I n m mv st) (hW : ∀ J : MI, BD J n m mv st → ∀ k, k < n → W k = wB (RT J 0) n k) (hk : k < 2 ^ 31) : ∃ r I', f_X8_baseAt (nI k) I L = some (r, I', L) ∧ BD I' n m mv st ∧ Fr (43 :: 48 :: SC) I I' ∧ (∀ j, j ≠ 20 → I' 43 j = I 43 j) ∧ ((∃ i, i < n ∧ W i = true ∧ cT W i = k ∧ r = nI i) ∨ (cT W n ≤ k ∧ r = -1)) := by
  obtain ⟨I1, b1, b2, b3, b4, b5⟩ := builds__eq (L := L) hO h
  obtain ⟨r, r1, r2⟩ := baseAt8_eq (L := L) hO b2 (hW I1 b2) hk
  refine ⟨r, I1, ?_, b2, b3, b4, r2⟩
  unfold f_X8_baseAt
  rw [ob b1]; exact r1
theorem baseMany_eq {W : Nat → Bool} (hO : OKm n m mv st) (h : RDY I n m mv st) (hW : ∀ J : MI, BD J n m mv st → ∀ k, k < n → W k = wB (RT J 0) n k) : ∃ I', f_X8_baseMany I L = some (nI (cT W n), I', L) ∧ RDY I' n m mv st ∧ Fr (43 :: 48 :: SC) I I' ∧ (∀ j, j ≠ 20 → I' 43 j = I 43 j) := by
  have hn := hO.1
  have hcn := cT_le W n
  unfold f_X8_baseMany
  have := loop0 (fun fu (z : Int32 × MI × ML) => f_X8_baseMany_2 fu z.1 z.2.1 z.2.2) (fun i z => i ≤ cT W n ∧ z.1 = nI i ∧ z.2.2 = L ∧ RDY z.2.1 n m mv st ∧ Fr (43 :: 48 :: SC) I z.2.1 ∧ (∀ j, j ≠ 20 → z.2.1 43 j = I 43 j)) (fun o => ∃ I', o = some (nI (cT W n), I', L) ∧ RDY I' n m mv st ∧ Fr (43 :: 48 :: SC) I I' ∧ (∀ j, j ≠ 20 → I' 43 j = I 43 j)) (cT W n) (by omega) (nI 0, I, L) ⟨Nat.zero_le _, rfl, rfl, h, Fr.refl, fun _ _ => rfl⟩
    (fun fu i z hi hP => by
      obtain ⟨z1, J, z3⟩ := z
      obtain ⟨_, p1, p2, p3, p4, p5⟩ := hP
      dsimp only at p1 p2 p3 p4 p5 ⊢
      subst p1 p2
      obtain ⟨r, I1, b1, b2, b3, b4, b5⟩ := baseAt_eq (L := z3) hO p3 hW (show i < 2 ^ 31 by omega)
      rw [f_X8_baseMany_2, ob b1]
      dsimp only
      rcases b5 with ⟨x, x1, x2, x3, x4⟩ | ⟨x1, x2⟩
      · subst x4
        right
        have := cT_lt W x1 x2
        refine ⟨by omega, (nI (i + 1), I1, z3), ?_, by omega, rfl, rfl, b2.rdy, p4.trans b3, fun j hj => (b4 j hj).trans (p5 j hj)⟩
        rw [if_neg (nI_nm1 (by omega)), bnd_eq, nI_1]
      · left
        rw [if_pos x2, show i = cT W n by omega]
        exact ⟨I1, rfl, b2.rdy, p4.trans b3, fun j hj => (b4 j hj).trans (p5 j hj)⟩)
  rw [nI_0] at this
  exact this
theorem hW_ex {rb : Nat → Nat} {th : Nat → Nat → Nat → Nat} (hO : OKm n m mv st) (h : TabG n (Gp n m mv) (RB (tbR rb)) th) : ∀ J : MI, BD J n m mv st → ∀ k, k < n → wB (tbR rb) n k = wB (RT J 0) n k := by
  intro J hJ k hk
  obtain ⟨T, hS, hT, _⟩ := id hJ.2.2.1
  unfold wB
  rw [w_tab h (TabG_n hO.1 (Gp_Sub hO.1 hO.2.2.1) hT) hk]
theorem neg1_cases (a : Int32) : a < -1 ∨ a = -1 ∨ ∃ k, k < 2 ^ 31 ∧ a = nI k := by
  by_cases h1 : a < -1
  · exact Or.inl h1
  · by_cases h2 : a = -1
    · exact Or.inr (Or.inl h2)
    · refine Or.inr (Or.inr ?_)
      have hn : ¬ a < 0 := fun g => h2 (Int32.toInt_inj.mp (by
        have g1 := lt0 g
        have g2 : ¬ a.toInt < (-1 : Int32).toInt := fun g => h1 (Int32.lt_iff_toInt_lt.mpr g)
        have e : (-1 : Int32).toInt = -1 := (by decide)
        omega))
      obtain ⟨j, hj, rfl⟩ := nI_of hn
      exact ⟨j, hj, rfl⟩
theorem PR_14h : PR_14 Inv := by
  intro I L rm a ⟨n, m, mv, st, h⟩
  obtain ⟨hO, hC, hR, hP, hT, hU, hF, hS⟩ := id h
  have hn := hO.1
  obtain ⟨rb, th, t1, t2⟩ := CI_tab hO hC
  have hW := hW_ex hO t2
  rcases neg1_cases a with h1 | h1 | ⟨k, hk, rfl⟩
  · have c1 : ¬ -1 ≤ a := Int32.not_le.mpr h1
    refine ⟨-1, up2 I 0 6 1, L, ?_, is8 (up2 I 0 6 1) 1, L, ?_, IV_q h (Q8_is (a := 1)) (RDY_is (RDY_s hR)) is8_0⟩
    · simp (config := { decide := true }) only [f_X7_base, c1, obs, bnd_eq, is_0, is_1, is_2, is_3, is_4, is_5, is_6, is_9, tell_eq, refuse_eq, refuse8_eq, b2i_1, b2i_0, if_true, if_false, ↓reduceIte]
    · simp (config := { decide := true }) only [f_X8_base, h1, whyHere_1, obs, bnd_eq, is_0, is_1, is_2, is_3, is_4, is_5, is_6, is_9, tell_eq, refuse_eq, refuse8_eq, b2i_1, b2i_0, if_true, if_false, ↓reduceIte]
  · subst h1
    by_cases h0 : n = 0
    · have e0 : nI n = 0 := by rw [h0]; rfl
      refine ⟨-1, up2 I 0 6 5, L, ?_, is8 (up2 I 0 6 5) 5, L, ?_, IV_q h (Q8_is (a := 5)) (RDY_is (RDY_s hR)) is8_0⟩
      · simp (config := { decide := true }) only [f_X7_base, hC.1, e0, obs, bnd_eq, is_0, is_1, is_2, is_3, is_4, is_5, is_6, is_9, tell_eq, refuse_eq, refuse8_eq, b2i_1, b2i_0, if_true, if_false, ↓reduceIte]
      · simp (config := { decide := true }) only [f_X8_base, whyHere_n (w := 0) (RDY_s (s := 5) hR).1 h0, obs, bnd_eq, is_0, is_1, is_2, is_3, is_4, is_5, is_6, is_9, tell_eq, refuse_eq, refuse8_eq, b2i_1, b2i_0, if_true, if_false, ↓reduceIte]
    · have e0 : ¬ nI n = 0 := nI_ne0 (by omega) (by omega)
      obtain ⟨I', a1, a2, a3, a4⟩ := baseMany_eq (L := L) hO (RDY_is (a := 0) (RDY_s (s := 0) hR)) hW
      refine ⟨nI (cT (wB (tbR rb) n) n), up2 I 0 6 0, L, ?_, I', L, ?_, IV_q h (Q8_is.trans (Q8_b a3 a4)) a2 (by rw [a4 0 (by decide)]; exact is8_0)⟩
      · simp (config := { decide := true }) only [f_X7_base, hC.1, e0, countHeld_eq hn t1 t2.1, obs, bnd_eq, is_0, is_1, is_2, is_3, is_4, is_5, is_6, is_9, tell_eq, refuse_eq, refuse8_eq, b2i_1, b2i_0, if_true, if_false, ↓reduceIte]
      · simp (config := { decide := true }) only [f_X8_base, whyHere_p (RDY_s (s := 0) hR).1 hn h0, a1, obs, bnd_eq, is_0, is_1, is_2, is_3, is_4, is_5, is_6, is_9, tell_eq, refuse_eq, refuse8_eq, b2i_1, b2i_0, if_true, if_false, ↓reduceIte]
  · have c1 : -1 ≤ nI k := Int32.le_iff_toInt_le.mpr (by rw [nI_toInt hk]; have e : (-1 : Int32).toInt = -1 := (by decide); omega)
    have c2 : ¬ nI k < -1 := Int32.not_lt.mpr c1
    have c3 : ¬ nI k = -1 := nI_nm1 hk
    by_cases h0 : n = 0
    · have e0 : nI n = 0 := by rw [h0]; rfl
      refine ⟨-1, up2 I 0 6 5, L, ?_, is8 (up2 I 0 6 5) 5, L, ?_, IV_q h (Q8_is (a := 5)) (RDY_is (RDY_s hR)) is8_0⟩
      · simp (config := { decide := true }) only [f_X7_base, hC.1, e0, c1, obs, bnd_eq, is_0, is_1, is_2, is_3, is_4, is_5, is_6, is_9, tell_eq, refuse_eq, refuse8_eq, b2i_1, b2i_0, if_true, if_false, ↓reduceIte]
      · simp (config := { decide := true }) only [f_X8_base, whyHere_n (w := 0) (RDY_s (s := 5) hR).1 h0, c2, obs, bnd_eq, is_0, is_1, is_2, is_3, is_4, is_5, is_6, is_9, tell_eq, refuse_eq, refuse8_eq, b2i_1, b2i_0, if_true, if_false, ↓reduceIte]
    · have e0 : ¬ nI n = 0 := nI_ne0 (by omega) (by omega)
      obtain ⟨r, r1, r2⟩ := heldPoint_eq hn t1 t2.1 hk
      have ref : ∀ s : Int32, ∃ r' I', f_X8_baseAt (nI k) (is8 (up2 I 0 6 s) 0) L = some (r', I', L) ∧ RDY I' n m mv st ∧ Q8 (up2 I 0 6 s) I' ∧ I' 43 0 = 0 ∧ r' = r := fun s => by
        obtain ⟨r', I', b1, b2, b3, b4, b5⟩ := baseAt_eq (L := L) hO (RDY_is (a := 0) (RDY_s (s := s) hR)) hW hk
        refine ⟨r', I', b1, b2.rdy, Q8_is.trans (Q8_b b3 b4), by rw [b4 0 (by decide)]; exact is8_0, ?_⟩
        rcases r2 with ⟨i, i1, i2, i3, i4⟩ | ⟨i1, i2⟩
        · rcases b5 with ⟨j, j1, j2, j3, j4⟩ | ⟨j1, j2⟩
          · rw [i4, j4, cT_inj _ i2 j2 (i3.trans j3.symm)]
          · have := cT_lt _ i1 i2; omega
        · rcases b5 with ⟨j, j1, j2, j3, j4⟩ | ⟨j1, j2⟩
          · have := cT_lt _ j1 j2; omega
          · rw [i2, j2]
      have hr : (∃ i, i < n ∧ r = nI i) ∨ r = -1 := by
        rcases r2 with ⟨i, i1, _, _, i4⟩ | ⟨_, i2⟩
        · exact Or.inl ⟨i, i1, i4⟩
        · exact Or.inr i2
      rcases hr with ⟨i, i1, rfl⟩ | rfl
      · obtain ⟨r', I', b1, b2, b3, b4, rfl⟩ := ref 0
        refine ⟨nI i, up2 I 0 6 0, L, ?_, I', L, ?_, IV_q h b3 b2 b4⟩
        · simp (config := { decide := true }) only [f_X7_base, hC.1, e0, c1, c3, r1, nI_pos' (show i < 2 ^ 31 by omega), obs, bnd_eq, is_0, is_1, is_2, is_3, is_4, is_5, is_6, is_9, tell_eq, refuse_eq, refuse8_eq, b2i_1, b2i_0, if_true, if_false, ↓reduceIte]
        · simp (config := { decide := true }) only [f_X8_base, whyHere_p (RDY_s (s := 0) hR).1 hn h0, c2, c3, b1, f_X8_there, nI_nm1 (show i < 2 ^ 31 by omega), obs, bnd_eq, is_0, is_1, is_2, is_3, is_4, is_5, is_6, is_9, tell_eq, refuse_eq, refuse8_eq, b2i_1, b2i_0, if_true, if_false, ↓reduceIte]
      · obtain ⟨r', I', b1, b2, b3, b4, rfl⟩ := ref 5
        refine ⟨-1, up2 I 0 6 5, L, ?_, up2 I' 43 0 5, L, ?_, IV_q h (b3.trans Q8_r) (RDY_r b2) up2_s⟩
        · simp (config := { decide := true }) only [f_X7_base, hC.1, e0, c1, c3, r1, obs, bnd_eq, is_0, is_1, is_2, is_3, is_4, is_5, is_6, is_9, tell_eq, refuse_eq, refuse8_eq, b2i_1, b2i_0, if_true, if_false, ↓reduceIte]
        · simp (config := { decide := true }) only [f_X8_base, whyHere_p (RDY_s (s := 5) hR).1 hn h0, c2, c3, b1, f_X8_there, obs, bnd_eq, is_0, is_1, is_2, is_3, is_4, is_5, is_6, is_9, tell_eq, refuse_eq, refuse8_eq, b2i_1, b2i_0, if_true, if_false, ↓reduceIte]
theorem level44_eq {l : Nat} (hn : n ≤ 10) (h43 : I 43 2 = nI n) (hl : l < 10) : f_X8_level_44 (nI l) I L FU 0 0 = some (nI (oS (RT I 0 l) n), I, L) := by
  have := for0 (fun fu z => f_X8_level_44 (nI l) I L fu z.1 z.2) (fun i => (nI (oS (RT I 0 l) i), nI i)) n (some (nI (oS (RT I 0 l) n), I, L)) (by omega)
    (fun fu => by
      dsimp only
      rw [f_X8_level_44, h43, if_pos (by rw [q_le (by omega) (by omega)]; omega)])
    (fun fu i hi => by
      dsimp only
      rw [f_X8_level_44, h43, if_neg (by rw [q_le (by omega) (by omega)]; omega), ad_10, q_chk (by omega) (by decide), q_ix (by omega)]
      cases hb : RT I 0 l i
      · have := hb
        rw [RT_0 (by omega)] at this
        have := of_decide_eq_false this
        rw [if_pos (Decidable.not_not.mp this), bnd_eq, bnd_eq, oS_f hb, nI_1, show (0 : Int32) = nI 0 from rfl, q_or, Nat.or_zero]
      · have := hb
        rw [RT_0 (by omega)] at this
        have := of_decide_eq_true this
        rw [if_neg this, bnd_eq, bnd_eq, oS_t hb, nI_1, q_shl1 (by omega), q_or])
  rw [nI_0] at this
  exact this
theorem PR_15h : PR_15 Inv := by
  intro I L rm a ⟨n, m, mv, st, h⟩
  obtain ⟨hO, hC, hR, hP, hT, hU, hF, hS⟩ := id h
  have hn := hO.1
  have hG := Gp_Sub hn hO.2.2.1
  obtain ⟨rb, th, t1, t2⟩ := CI_tab hO hC
  have hW := hW_ex hO t2
  by_cases h1 : a < 0
  · have c1 : ¬ 0 ≤ a := Int32.not_le.mpr h1
    refine ⟨-1, up2 I 0 6 1, L, ?_, is8 (up2 I 0 6 1) 1, L, ?_, IV_q h (Q8_is (a := 1)) (RDY_is (RDY_s hR)) is8_0⟩
    · simp (config := { decide := true }) only [f_X7_level, c1, obs, bnd_eq, is_0, is_1, is_2, is_3, is_4, is_5, is_6, is_9, tell_eq, refuse_eq, refuse8_eq, b2i_1, b2i_0, if_true, if_false, ↓reduceIte]
    · simp (config := { decide := true }) only [f_X8_level, h1, whyHere_1, obs, bnd_eq, is_0, is_1, is_2, is_3, is_4, is_5, is_6, is_9, tell_eq, refuse_eq, refuse8_eq, b2i_1, b2i_0, if_true, if_false, ↓reduceIte]
  · obtain ⟨k, hk, rfl⟩ := nI_of h1
    have c1 : 0 ≤ nI k := nI_pos' hk
    by_cases h0 : n = 0
    · have e0 : nI n = 0 := by rw [h0]; rfl
      refine ⟨-1, up2 I 0 6 5, L, ?_, is8 (up2 I 0 6 5) 5, L, ?_, IV_q h (Q8_is (a := 5)) (RDY_is (RDY_s hR)) is8_0⟩
      · simp (config := { decide := true }) only [f_X7_level, hC.1, e0, c1, obs, bnd_eq, is_0, is_1, is_2, is_3, is_4, is_5, is_6, is_9, tell_eq, refuse_eq, refuse8_eq, b2i_1, b2i_0, if_true, if_false, ↓reduceIte]
      · simp (config := { decide := true }) only [f_X8_level, whyHere_n (w := 0) (RDY_s (s := 5) hR).1 h0, h1, obs, bnd_eq, is_0, is_1, is_2, is_3, is_4, is_5, is_6, is_9, tell_eq, refuse_eq, refuse8_eq, b2i_1, b2i_0, if_true, if_false, ↓reduceIte]
    · have e0 : ¬ nI n = 0 := nI_ne0 (by omega) (by omega)
      obtain ⟨r, r1, r2⟩ := heldPoint_eq hn t1 t2.1 hk
      have ref : ∀ s : Int32, ∃ r' I', f_X8_baseAt (nI k) (is8 (up2 I 0 6 s) 0) L = some (r', I', L) ∧ BD I' n m mv st ∧ Q8 (up2 I 0 6 s) I' ∧ I' 43 0 = 0 ∧ r' = r := fun s => by
        obtain ⟨r', I', b1, b2, b3, b4, b5⟩ := baseAt_eq (L := L) hO (RDY_is (a := 0) (RDY_s (s := s) hR)) hW hk
        refine ⟨r', I', b1, b2, Q8_is.trans (Q8_b b3 b4), by rw [b4 0 (by decide)]; exact is8_0, ?_⟩
        rcases r2 with ⟨i, i1, i2, i3, i4⟩ | ⟨i1, i2⟩
        · rcases b5 with ⟨j, j1, j2, j3, j4⟩ | ⟨j1, j2⟩
          · rw [i4, j4, cT_inj _ i2 j2 (i3.trans j3.symm)]
          · have := cT_lt _ i1 i2; omega
        · rcases b5 with ⟨j, j1, j2, j3, j4⟩ | ⟨j1, j2⟩
          · have := cT_lt _ j1 j2; omega
          · rw [i2, j2]
      have hr : (∃ i, i < n ∧ r = nI i) ∨ r = -1 := by
        rcases r2 with ⟨i, i1, _, _, i4⟩ | ⟨_, i2⟩
        · exact Or.inl ⟨i, i1, i4⟩
        · exact Or.inr i2
      rcases hr with ⟨i, i1, rfl⟩ | rfl
      · obtain ⟨r', I', b1, b2, b3, b4, rfl⟩ := ref 0
        obtain ⟨T, hS, hTT, _⟩ := id b2.2.2.1
        have hTn := TabG_n hn hG hTT
        have e1 : oS (RT I' 0 i) n = rb i := oS_eq (fun j => by
          by_cases hj : j < n
          · rw [decide_eq_true hj, Bool.true_and, Bool.eq_iff_iff]
            exact (t2.2.1 i j i1).trans (hTn.2.1 i j i1).symm
          · rw [decide_eq_false hj, Bool.false_and]
            cases hb : (rb i).testBit j
            · rfl
            · exact absurd ((t2.1 i i1).2 j hb).1 hj)
        have lv := level44_eq (L := L) hn b2.1 (show i < 10 by omega)
        rw [e1] at lv
        refine ⟨nI (rb i), up2 I 0 6 0, L, ?_, I', L, ?_, IV_q h b3 b2.rdy b4⟩
        · simp (config := { decide := true }) only [f_X7_level, hC.1, e0, c1, r1, nI_pos' (show i < 2 ^ 31 by omega), reachedAt_eq hn t1 i1, obs, bnd_eq, is_0, is_1, is_2, is_3, is_4, is_5, is_6, is_9, tell_eq, refuse_eq, refuse8_eq, b2i_1, b2i_0, if_true, if_false, ↓reduceIte]
        · simp (config := { decide := true }) only [f_X8_level, whyHere_p (RDY_s (s := 0) hR).1 hn h0, h1, b1, nI_nm1 (show i < 2 ^ 31 by omega), lv, obs, bnd_eq, is_0, is_1, is_2, is_3, is_4, is_5, is_6, is_9, tell_eq, refuse_eq, refuse8_eq, b2i_1, b2i_0, if_true, if_false, ↓reduceIte]
      · obtain ⟨r', I', b1, b2, b3, b4, rfl⟩ := ref 5
        refine ⟨-1, up2 I 0 6 5, L, ?_, up2 I' 43 0 5, L, ?_, IV_q h (b3.trans Q8_r) (RDY_r b2.rdy) up2_s⟩
        · simp (config := { decide := true }) only [f_X7_level, hC.1, e0, c1, r1, obs, bnd_eq, is_0, is_1, is_2, is_3, is_4, is_5, is_6, is_9, tell_eq, refuse_eq, refuse8_eq, b2i_1, b2i_0, if_true, if_false, ↓reduceIte]
        · simp (config := { decide := true }) only [f_X8_level, whyHere_p (RDY_s (s := 5) hR).1 hn h0, h1, b1, obs, bnd_eq, is_0, is_1, is_2, is_3, is_4, is_5, is_6, is_9, tell_eq, refuse_eq, refuse8_eq, b2i_1, b2i_0, if_true, if_false, ↓reduceIte]
theorem anywhere20_eq (hO : OKm n m mv st) (h : BD I n m mv st) : ∃ t, f_X8_anywhere_20 I L FU 0 = some (nI t, I, L) ∧ t ≤ n ∧ (∀ k, k < t → cT (RT I 0 k) n = n - k) ∧ (t < n → cT (RT I 0 t) n ≠ n - t) := by
  have hn := hO.1
  have := loop0 (fun fu z => f_X8_anywhere_20 I L fu z) (fun i z => i ≤ n ∧ z = nI i ∧ (∀ k, k < i → cT (RT I 0 k) n = n - k)) (fun o => ∃ t, o = some (nI t, I, L) ∧ t ≤ n ∧ (∀ k, k < t → cT (RT I 0 k) n = n - k) ∧ (t < n → cT (RT I 0 t) n ≠ n - t)) n (by omega) (nI 0) ⟨Nat.zero_le _, rfl, fun k hk => by omega⟩
    (fun fu i z hi hP => by
      obtain ⟨_, p1, p2⟩ := hP
      subst p1
      rw [f_X8_anywhere_20, h.1, ifc (q_le (by omega) (by omega))]
      by_cases c1 : n ≤ i
      · left
        rw [if_pos c1]
        exact ⟨i, rfl, hi, p2, fun g => by omega⟩
      · obtain ⟨w1, w2, w3⟩ := w0_eq (L := L) hO h (show i < n by omega)
        rw [if_neg c1, ob w1, pk_sub (by omega), ifc (q_eq (by omega) (by omega))]
        by_cases c2 : cT (RT I 0 i) n = n - i
        · right
          refine ⟨by omega, nI (i + 1), ?_, by omega, rfl, fun k hk => ?_⟩
          · rw [if_pos c2, bnd_eq, nI_1]
          · by_cases e1 : k = i
            · rw [e1]; exact c2
            · exact p2 k (by omega)
        · left
          rw [if_neg c2]
          exact ⟨i, rfl, hi, p2, fun _ => c2⟩)
  rw [nI_0] at this
  exact this
theorem PR_45h : PR_45 Inv := by
  intro I L rm ⟨n, m, mv, st, h⟩
  obtain ⟨hO, hC, hR, hP, hT, hU, hF, hS⟩ := id h
  have hn := hO.1
  have hG := Gp_Sub hn hO.2.2.1
  obtain ⟨rb, th, t1, t2⟩ := CI_tab hO hC
  by_cases h0 : n = 0
  · have e0 : nI n = 0 := by rw [h0]; rfl
    refine ⟨-1, up2 I 0 6 5, L, ?_, is8 (up2 I 0 6 5) 5, L, ?_, IV_q h (Q8_is (a := 5)) (RDY_is (RDY_s hR)) is8_0⟩
    · simp (config := { decide := true }) only [f_X7_anywhere, hC.1, e0, obs, bnd_eq, is_0, is_1, is_2, is_3, is_4, is_5, is_6, is_9, tell_eq, refuse_eq, refuse8_eq, b2i_1, b2i_0, if_true, if_false, ↓reduceIte]
    · simp (config := { decide := true }) only [f_X8_anywhere, whyHere_n (w := 0) (RDY_s (s := 5) hR).1 h0, obs, bnd_eq, is_0, is_1, is_2, is_3, is_4, is_5, is_6, is_9, tell_eq, refuse_eq, refuse8_eq, b2i_1, b2i_0, if_true, if_false, ↓reduceIte]
  · have e0 : ¬ nI n = 0 := nI_ne0 (by omega) (by omega)
    obtain ⟨I', a1, a2, a3, a4, a5⟩ := builds__eq (L := L) hO (RDY_is (a := 0) (RDY_s (s := 0) hR))
    obtain ⟨t, b1, b2, b3, b4⟩ := anywhere20_eq (L := L) hO a2
    obtain ⟨T, hS, hTT, _⟩ := id a2.2.2.1
    have hTn := TabG_n hn hG hTT
    have cf := countFree_eq hn t1 t2.1 b2 (fun k hk => by rw [w_tab t2 hTn (show k < n by omega)]; exact b3 k hk) (fun g => by rw [w_tab t2 hTn g]; exact b4 g)
    refine ⟨nI t, up2 I 0 6 0, L, ?_, I', L, ?_, IV_q h (Q8_is.trans (Q8_b a3 a4)) a2.rdy (by rw [a4 0 (by decide)]; exact is8_0)⟩
    · simp (config := { decide := true }) only [f_X7_anywhere, hC.1, e0, cf, obs, bnd_eq, is_0, is_1, is_2, is_3, is_4, is_5, is_6, is_9, tell_eq, refuse_eq, refuse8_eq, b2i_1, b2i_0, if_true, if_false, ↓reduceIte]
    · unfold f_X8_anywhere
      rw [ob (whyHere_p (RDY_s (s := 0) hR).1 hn h0), ob is_0, if_neg b2i_t, ob a1]
      exact b1
theorem PR_59h : PR_59 Inv := by
  intro I L rm a ⟨n, m, mv, st, h⟩
  obtain ⟨hO, hC, hR, hP, hT, hU, hF, hS⟩ := id h
  obtain ⟨ol, o1, o2, o3, o4⟩ := hU
  by_cases h1 : a < 0
  · have c1 : ¬ 0 ≤ a := Int32.not_le.mpr h1
    refine ⟨-1, up2 I 0 6 1, L, ?_, is8 (up2 I 0 6 1) 1, L, ?_, IV_q h (Q8_is (a := 1)) (RDY_is (RDY_s hR)) is8_0⟩
    · simp (config := { decide := true }) only [f_X7_out, c1, obs, bnd_eq, is_0, is_1, is_2, is_3, is_4, is_5, is_6, is_9, tell_eq, refuse_eq, refuse8_eq, b2i_1, b2i_0, if_true, if_false, ↓reduceIte]
    · simp (config := { decide := true }) only [f_X8_out, c1, obs, bnd_eq, is_0, is_1, is_2, is_3, is_4, is_5, is_6, is_9, tell_eq, refuse_eq, refuse8_eq, b2i_1, b2i_0, if_true, if_false, ↓reduceIte]
  · obtain ⟨k, hk, rfl⟩ := nI_of h1
    have c1 : 0 ≤ nI k := nI_pos' hk
    have e28 : ∀ s : Int32, up2 I 0 6 s 43 28 = nI ol := fun s => by rw [up2_ne (by decide)]; exact o3
    by_cases hko : k < ol
    · have c2 : ¬ nI ol ≤ nI k := by rw [q_le (by omega) hk]; omega
      have c3 : nI k < nI ol := by rw [q_lt hk (by omega)]; omega
      have c4 : nI k < 32 := by rw [show (32 : Int32) = nI 32 from rfl, q_lt hk (by omega)]; omega
      have e42 : is8 (up2 I 0 6 0) 0 65 k = I 42 k := by rw [is8_ne (by decide), up2_ne (by decide)]; exact (o4 k hko).symm
      refine ⟨I 42 k, up2 I 0 6 0, L, ?_, is8 (up2 I 0 6 0) 0, L, ?_, IV_q h (Q8_is (a := 0)) (RDY_is (RDY_s hR)) is8_0⟩
      · simp (config := { decide := true }) only [f_X7_out, c1, o2, c2, c4, q_chk (show k < 32 by omega) (show 32 < 2 ^ 31 by decide), q_ix hk, obs, bnd_eq, is_0, is_1, is_2, is_3, is_4, is_5, is_6, is_9, tell_eq, refuse_eq, refuse8_eq, b2i_1, b2i_0, if_true, if_false, ↓reduceIte]
      · simp (config := { decide := true }) only [f_X8_out, c1, e28, c3, q_chk (show k < 40 by omega) (show 40 < 2 ^ 31 by decide), q_ix hk, e42, obs, bnd_eq, is_0, is_1, is_2, is_3, is_4, is_5, is_6, is_9, tell_eq, refuse_eq, refuse8_eq, b2i_1, b2i_0, if_true, if_false, ↓reduceIte]
    · have c2 : nI ol ≤ nI k := by rw [q_le (by omega) hk]; omega
      have c3 : ¬ nI k < nI ol := by rw [q_lt hk (by omega)]; omega
      refine ⟨-1, up2 I 0 6 5, L, ?_, is8 (up2 I 0 6 5) 5, L, ?_, IV_q h (Q8_is (a := 5)) (RDY_is (RDY_s hR)) is8_0⟩
      · simp (config := { decide := true }) only [f_X7_out, c1, o2, c2, obs, bnd_eq, is_0, is_1, is_2, is_3, is_4, is_5, is_6, is_9, tell_eq, refuse_eq, refuse8_eq, b2i_1, b2i_0, if_true, if_false, ↓reduceIte]
      · simp (config := { decide := true }) only [f_X8_out, c1, e28, c3, obs, bnd_eq, is_0, is_1, is_2, is_3, is_4, is_5, is_6, is_9, tell_eq, refuse_eq, refuse8_eq, b2i_1, b2i_0, if_true, if_false, ↓reduceIte]
end O5
