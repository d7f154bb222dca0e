/-! Calls, one by one -/
theorem isIn_pos {j lo hi : Nat} (hj : j < 2 ^ 31) (hl : lo < 2 ^ 31) (hh : hi < 2 ^ 31) : f_X8_isIn (nI j).toInt64 (lN lo) (lN hi) = some (decide (lo ≤ j ∧ j ≤ hi)) := by
  rw [← nI_l hl, ← nI_l hh, isIn_eq, nI_toInt hj, nI_toInt hl, nI_toInt hh]
  by_cases h : lo ≤ j ∧ j ≤ hi
  · rw [decide_eq_true h, decide_eq_true (by omega)]
  · rw [decide_eq_false h, decide_eq_false (by omega)]
theorem lt0 {a : Int32} (h : a < 0) : a.toInt < 0 := by
  have := Int32.lt_iff_toInt_lt.mp h
  exact this
theorem isIn_neg {a : Int32} {lo hi : Nat} (h : a < 0) (hl : lo < 2 ^ 31) (hh : hi < 2 ^ 31) : f_X8_isIn a.toInt64 (lN lo) (lN hi) = some false := by
  have := lt0 h
  rw [← nI_l hl, ← nI_l hh, isIn_eq, nI_toInt hl, decide_eq_false (by omega)]
theorem isInU {a : Int32} {k : Nat} (hk : k < 2 ^ 30) : f_X8_isIn a.toInt64 0 (nI k - 1).toInt64 = some (decide (0 ≤ a.toInt ∧ a.toInt < k)) := by
  rw [show (0 : Int64) = (0 : Int32).toInt64 by decide, isIn_eq, show (1 : Int32) = nI 1 from rfl, pk_sub_toInt hk (by decide), show (0 : Int32).toInt = 0 by decide]
  by_cases h : 0 ≤ a.toInt ∧ a.toInt < k
  · rw [decide_eq_true h, decide_eq_true (by omega)]
  · rw [decide_eq_false h, decide_eq_false (by omega)]
/-- an int in a range of numbers, as the class asks -/
theorem rng_C {a : Int32} {k : Nat} (hk : k < 2 ^ 30) : (if a < 0 then some false else if nI k ≤ a then some false else some true) = some (decide (0 ≤ a.toInt ∧ a.toInt < k)) := by
  by_cases h : a < 0
  · have := lt0 h
    rw [if_pos h, decide_eq_false (by omega)]
  · obtain ⟨j, hj, rfl⟩ := nI_of h
    rw [if_neg h, nI_toInt hj, ifc (q_le (by omega) hj)]
    by_cases g : k ≤ j
    · rw [if_pos g, decide_eq_false (by omega)]
    · rw [if_neg g, decide_eq_true (by omega)]
theorem obs {α β : Type} {v : α} {f : α → Option β} : Option.bind (some v) f = f v := rfl
theorem b2i_1 : b2i true = 1 := rfl
theorem b2i_0 : b2i false = 0 := rfl
theorem is_0 {I : MI} {L : ML} : f_X8_is 0 I L = some (true, is8 I 0, L) := is_eq
theorem is_1 {I : MI} {L : ML} : f_X8_is 1 I L = some (false, is8 I 1, L) := is_eq
theorem is_2 {I : MI} {L : ML} : f_X8_is 2 I L = some (false, is8 I 2, L) := is_eq
theorem is_3 {I : MI} {L : ML} : f_X8_is 3 I L = some (false, is8 I 3, L) := is_eq
theorem is_4 {I : MI} {L : ML} : f_X8_is 4 I L = some (false, is8 I 4, L) := is_eq
theorem is_5 {I : MI} {L : ML} : f_X8_is 5 I L = some (false, is8 I 5, L) := is_eq
theorem is_6 {I : MI} {L : ML} : f_X8_is 6 I L = some (false, is8 I 6, L) := is_eq
theorem is_9 {I : MI} {L : ML} : f_X8_is 9 I L = some (false, is8 I 9, L) := is_eq
theorem em_B (P : Prop) : ∃ c : Bool, c = true ↔ P := ⟨@decide P (Classical.propDecidable _), @decide_eq_true_iff P (Classical.propDecidable _)⟩
section OP
variable {n m rm : Nat} {mv : Nat → Nat → Nat} {st : Nat → Nat} {I : MI} {L : ML}
def rB (a : Int32) (k : Nat) : Bool := decide (0 ≤ a.toInt ∧ a.toInt < k)
theorem rB_t {a : Int32} {k : Nat} (h : rB a k = true) : ∃ j, j < k ∧ a = nI j := by
  have h := of_decide_eq_true h
  have hn : ¬ a < 0 := fun g => by have := lt0 g; omega
  obtain ⟨j, hj, rfl⟩ := nI_of hn
  rw [nI_toInt hj] at h
  exact ⟨j, by omega, rfl⟩
theorem hasStep_eq (h : CI I L rm n m mv st) (hm : m ≤ 6) (a : Int32) : f_X2_hasStep a I L = some (rB a (2 * m)) := by
  unfold f_X2_hasStep
  rw [h.2.1, show (2 : Int32) * nI m = nI (2 * m) by rw [show (2 : Int32) = nI 2 from rfl, pk_mul]]
  exact rng_C (by omega)
theorem isStep_eq (h : Nw I m mv st) (a : Int32) : f_X8_isStep a I L = some (rB a (2 * m)) := by
  have hm := h.2.1
  unfold f_X8_isStep
  rw [ob (moves_eq h), show (2 : Int32) * nI m = nI (2 * m) by rw [show (2 : Int32) = nI 2 from rfl, pk_mul], ob (isInU (by omega))]
  rfl
theorem isMove_eq (h : Nw I m mv st) (a : Int32) : f_X8_isMove a I L = some (rB a m) := by
  have hm := h.2.1
  unfold f_X8_isMove
  rw [ob (moves_eq h), ob (isInU (by omega))]
  rfl
theorem hasPoint_eq (h6 : I 6 0 = nI n) (hn : n ≤ 10) (a : Int32) : f_X2_hasPoint a I L = some (rB a n) := by
  unfold f_X2_hasPoint
  rw [h6]; exact rng_C (by omega)
theorem isPoint_eq (h : I 43 2 = nI n) (hn : n ≤ 10) (a : Int32) : f_X8_isPoint a I L = some (rB a n) := by
  unfold f_X8_isPoint
  rw [h, ob (isInU (by omega))]
  rfl
theorem turnOf_eq (h : CI I L rm n m mv st) (hO : OKm n m mv st) {s : Nat} (hs : s < 2 * m) : f_X2_turnOf (nI s) I L = some (tn n (stp mv s)) := by
  have hm := hO.2.1
  unfold f_X2_turnOf stp
  rw [show shr (nI s) 1 = nI (s / 2) from q_shr (k := 1) (by omega) (by decide), q_chk (by omega) (by decide), bnd_eq, q_ix (by omega), h.2.2.1 _ (by omega), q_and1 (by omega)]
  by_cases g : s % 2 = 0
  · rw [g, if_pos (show nI 0 = 0 from rfl), if_pos rfl]
  · rw [if_neg (nI_ne0 (by omega) (by omega)), if_neg g, h.1, ob (invert_eq hO.1 (hO.2.2.1 _ (by omega)))]
theorem PR_0h : PR_0 Inv := by
  intro I L rm ⟨n, m, mv, st, h⟩
  refine ⟨_, rfl, _, _, ?_, IV_fin h (I1 := I) (L1 := L) (I2 := up2 I 43 1 0) h.2.1 CO.refl ⟨fun p hp => up2_ne (by omega), fun j _ h1 _ _ => up2_n h1⟩ (h.2.2.1.of (up2_n (by decide)) (up2_n (by decide)) (up2_ne (by decide)) (up2_ne (by decide)) (up2_ne (by decide))) (by rw [up2_n (by decide)]; exact h.2.2.2.2.2.2.2)⟩
  unfold f_X8_status
  rw [bnd_eq, up2_n (by decide), h.2.2.2.2.2.2.2]
theorem PR_3h : PR_3 Inv := by
  intro I L rm a ⟨n, m, mv, st, h⟩
  have hI : Inv (up2 I 43 1 0) L rm := IV_fin h (I1 := I) (L1 := L) (I2 := up2 I 43 1 0) h.2.1 CO.refl ⟨fun p hp => up2_ne (by omega), fun j _ h1 _ _ => up2_n h1⟩ (h.2.2.1.of (up2_n (by decide)) (up2_n (by decide)) (up2_ne (by decide)) (up2_ne (by decide)) (up2_ne (by decide))) (by rw [up2_n (by decide)]; exact h.2.2.2.2.2.2.2)
  obtain ⟨f1, f2⟩ := h.2.2.2.2.2.2.1
  unfold f_X7_fault f_X8_fault
  simp only [bnd_eq]
  by_cases h0 : a = 0
  · rw [if_pos h0, if_pos h0]
    exact ⟨_, rfl, _, _, by rw [up2_n (by decide), f1], hI⟩
  · rw [if_neg h0, if_neg h0]
    by_cases h1 : a = 1
    · rw [if_pos h1, if_pos h1]
      exact ⟨_, rfl, _, _, by rw [up2_n (by decide), f2], hI⟩
    · rw [if_neg h1, if_neg h1]
      exact ⟨_, rfl, _, _, rfl, hI⟩
theorem stand_home (hO : OKm n m mv st) (h : CI I L rm n m mv st) {c : Bool} (hc : c = true ↔ st = idp) : f_X7_isHome (L 0 5) I L = some c := by
  unfold f_X7_isHome
  rw [h.1, ob (identity_eq hO.1), h.2.2.2.1, ifc (q_cmp0 _ _)]
  by_cases g : st = idp
  · rw [hc.mpr g]; exact if_pos ((tn_inj hO.1 hO.2.2.2 (IsP_id n)).mpr g)
  · rw [show c = false by cases c; rfl; exact absurd (hc.mp rfl) g]; exact if_neg (fun e => g ((tn_inj hO.1 hO.2.2.2 (IsP_id n)).mp e))
theorem PR_4h : PR_4 Inv := by
  intro I L rm a ⟨n, m, mv, st, h⟩
  obtain ⟨hO, hC, hR, hP, hT, hU, hF, hS⟩ := id h
  have rf : ∀ (bad : f_X8_isIn a.toInt64 0 3 = some false) (c0 : ¬ a = 0) (c1 : ¬ a = 1) (c2 : ¬ a = 2) (c3 : ¬ a = 3), ∃ (r : Int32) (I1 : MI) (L1 : ML), f_X7_many a I L = some (r, I1, L1) ∧ ∃ (I2 : MI) (L2 : ML), f_X8_many a I1 L1 = some (r, I2, L2) ∧ Inv I2 L2 rm := fun bad c0 c1 c2 c3 => by
    refine ⟨-1, up2 I 0 6 1, L, ?_, is8 (up2 I 0 6 1) 1, L, ?_, IV_q h (Q8_is (a := 1)) (RDY_is (RDY_s hR)) is8_0⟩
    · simp (config := { decide := true }) only [f_X7_many, if_neg c0, if_neg c1, if_neg c2, if_neg c3, obs, bnd_eq, is_0, is_1, is_2, is_3, is_4, is_5, is_6, is_9, tell_eq, refuse_eq, refuse8_eq, b2i_1, b2i_0, if_true, if_false, ↓reduceIte]
    · simp (config := { decide := true }) only [f_X8_many, bad, obs, bnd_eq, is_0, is_1, is_2, is_3, is_4, is_5, is_6, is_9, tell_eq, refuse_eq, refuse8_eq, b2i_1, b2i_0, if_true, if_false, ↓reduceIte]
  by_cases hn : a < 0
  · exact rf (isIn_neg (lo := 0) (hi := 3) hn (by decide) (by decide)) (fun e => by subst e; exact absurd hn (by decide)) (fun e => by subst e; exact absurd hn (by decide)) (fun e => by subst e; exact absurd hn (by decide)) (fun e => by subst e; exact absurd hn (by decide))
  · obtain ⟨j, hj, rfl⟩ := nI_of hn
    by_cases h3 : j ≤ 3
    · have hin : f_X8_isIn (nI j).toInt64 0 3 = some true := (isIn_pos (lo := 0) (hi := 3) hj (by decide) (by decide)).trans (by rw [decide_eq_true ⟨Nat.zero_le _, h3⟩])
      have hst : Row (wp (is8 (up2 I 0 6 0) 0) 46 0 st) 46 0 st := Row_wp
      have hls : f_X8_laysStand 46 (is8 (up2 I 0 6 0) 0) L = some (wp (is8 (up2 I 0 6 0) 0) 46 0 st, L) := laysStand_eq (RDY_is (RDY_s hR)).2.1 (by decide)
      have fin : Inv (wp (is8 (up2 I 0 6 0) 0) 46 0 st) L rm := IV_q h (Q8_is.trans (Q8_fr (S := [46]) (Fr_wp (by decide)) (by decide))) ((RDY_is (RDY_s hR)).fr (S := [46]) (Fr_wp (by decide)) (by decide)) (by rw [wp_ne (by decide)]; exact is8_0)
      have e43 : ∀ k, k ≠ 0 → k ≠ 1 → wp (is8 (up2 I 0 6 0) 0) 46 0 st 43 k = I 43 k := fun k h0 h1 => by rw [wp_ne (by decide)]; unfold is8; rw [up2_n h0, up2_n h1, up2_ne (by decide)]
      have hj4 : j = 0 ∨ j = 1 ∨ j = 2 ∨ j = 3 := by omega
      rcases hj4 with e | e | e | e <;> subst e
      · refine ⟨nI n, up2 I 0 6 0, L, ?_, _, _, ?_, fin⟩
        · simp (config := { decide := true }) only [f_X7_many, hC.1, obs, bnd_eq, is_0, is_1, is_2, is_3, is_4, is_5, is_6, is_9, tell_eq, refuse_eq, refuse8_eq, b2i_1, b2i_0, if_true, if_false, ↓reduceIte]
        · simp (config := { decide := true }) only [f_X8_many, hin, hls, e43 2 (by decide) (by decide), hR.1, obs, bnd_eq, is_0, is_1, is_2, is_3, is_4, is_5, is_6, is_9, tell_eq, refuse_eq, refuse8_eq, b2i_1, b2i_0, if_true, if_false, ↓reduceIte]
      · refine ⟨nI m, up2 I 0 6 0, L, ?_, _, _, ?_, fin⟩
        · simp (config := { decide := true }) only [f_X7_many, hC.2.1, obs, bnd_eq, is_0, is_1, is_2, is_3, is_4, is_5, is_6, is_9, tell_eq, refuse_eq, refuse8_eq, b2i_1, b2i_0, if_true, if_false, ↓reduceIte]
        · simp (config := { decide := true }) only [f_X8_many, hin, hls, moves_eq ((RDY_is (a := 0) (RDY_s (s := 0) hR)).2.1.fr (I' := wp (is8 (up2 I 0 6 0) 0) 46 0 st) (wp_ne (by decide))), obs, bnd_eq, is_0, is_1, is_2, is_3, is_4, is_5, is_6, is_9, tell_eq, refuse_eq, refuse8_eq, b2i_1, b2i_0, if_true, if_false, ↓reduceIte]
      · obtain ⟨kp, pm, pmv, pst, a1, a2, a3, a4⟩ := hP
        refine ⟨nI kp, up2 I 0 6 0, L, ?_, _, _, ?_, fin⟩
        · simp (config := { decide := true }) only [f_X7_many, a2, obs, bnd_eq, is_0, is_1, is_2, is_3, is_4, is_5, is_6, is_9, tell_eq, refuse_eq, refuse8_eq, b2i_1, b2i_0, if_true, if_false, ↓reduceIte]
        · simp (config := { decide := true }) only [f_X8_many, hin, hls, e43 3 (by decide) (by decide), a3, obs, bnd_eq, is_0, is_1, is_2, is_3, is_4, is_5, is_6, is_9, tell_eq, refuse_eq, refuse8_eq, b2i_1, b2i_0, if_true, if_false, ↓reduceIte]
      · obtain ⟨c, hc⟩ := em_B (st = idp)
        have hsy : f_X8_stays 46 (wp (is8 (up2 I 0 6 0) 0) 46 0 st) L = some c := stays_eq hst (IsP_mono hO.2.2.2 hO.1) hc
        have hsh := stand_home hO hC hc
        refine ⟨b2i c, up2 I 0 6 0, L, ?_, _, _, ?_, fin⟩
        · cases c <;> simp (config := { decide := true }) only [f_X7_many, hsh, obs, bnd_eq, is_0, is_1, is_2, is_3, is_4, is_5, is_6, is_9, tell_eq, refuse_eq, refuse8_eq, b2i_1, b2i_0, if_true, if_false, ↓reduceIte]
        · cases c <;> simp (config := { decide := true }) only [f_X8_many, hin, hls, hsy, obs, bnd_eq, is_0, is_1, is_2, is_3, is_4, is_5, is_6, is_9, tell_eq, refuse_eq, refuse8_eq, b2i_1, b2i_0, if_true, if_false, ↓reduceIte]
    · have ne : ∀ k, k ≤ 3 → ¬ nI j = nI k := fun k hk e => h3 (by have := (q_eq hj (by omega)).mp e; omega)
      exact rf ((isIn_pos (lo := 0) (hi := 3) hj (by decide) (by decide)).trans (by rw [decide_eq_false (fun g => h3 g.2)])) (ne 0 (by decide)) (ne 1 (by decide)) (ne 2 (by decide)) (ne 3 (by decide))
theorem PR_5h : PR_5 Inv := by
  intro I L rm a ⟨n, m, mv, st, h⟩
  obtain ⟨hO, hC, hR, hP, hT, hU, hF, hS⟩ := id h
  cases hb : rB a (2 * m)
  · refine ⟨-1, up2 I 0 6 2, L, ?_, is8 (up2 I 0 6 2) 2, L, ?_, IV_q h (Q8_is (a := 2)) (RDY_is (RDY_s hR)) is8_0⟩
    · simp (config := { decide := true }) only [f_X7_step, hasStep_eq hC hO.2.1 a, hb, m1_l, obs, bnd_eq, is_0, is_1, is_2, is_3, is_4, is_5, is_6, is_9, tell_eq, refuse_eq, refuse8_eq, b2i_1, b2i_0, if_true, if_false, ↓reduceIte]
    · simp (config := { decide := true }) only [f_X8_step, isStep_eq (RDY_s (s := 2) hR).2.1 a, hb, obs, bnd_eq, is_0, is_1, is_2, is_3, is_4, is_5, is_6, is_9, tell_eq, refuse_eq, refuse8_eq, b2i_1, b2i_0, if_true, if_false, ↓reduceIte]
  · obtain ⟨s, hs, rfl⟩ := rB_t hb
    have hsP := IsP_stp hO.1 hO.2.2.1 hs
    obtain ⟨I', j1, j2, j3⟩ := laysStep_eq (I := is8 (up2 I 0 6 0) 0) (L := L) (s := s) (a := 46) hO (RDY_is (RDY_s hR)).2.1 hs (by decide) (by decide)
    have hR2 := (RDY_is (a := 0) (RDY_s (s := 0) hR)).fr j3 (by decide)
    refine ⟨lN (NV (stp mv s) n), up2 I 0 6 0, L, ?_, I', L, ?_, IV_q h (Q8_is.trans (Q8_fr j3 (by decide))) hR2 (by rw [j3 43 (by decide)]; exact is8_0)⟩
    · simp (config := { decide := true }) only [f_X7_step, hasStep_eq hC hO.2.1, hb, turnOf_eq hC hO hs, tellTurn_eq hO.1 hsP hC.1, obs, bnd_eq, is_0, is_1, is_2, is_3, is_4, is_5, is_6, is_9, tell_eq, refuse_eq, refuse8_eq, b2i_1, b2i_0, if_true, if_false, ↓reduceIte]
    · simp (config := { decide := true }) only [f_X8_step, isStep_eq (RDY_s (s := 0) hR).2.1, hb, j1, told_eq hO.1 hsP hR2.1 j2, obs, bnd_eq, is_0, is_1, is_2, is_3, is_4, is_5, is_6, is_9, tell_eq, refuse_eq, refuse8_eq, b2i_1, b2i_0, if_true, if_false, ↓reduceIte]
theorem PR_6h : PR_6 Inv := by
  intro I L rm ⟨n, m, mv, st, h⟩
  obtain ⟨hO, hC, hR, hP, hT, hU, hF, hS⟩ := id h
  have hn := hO.1
  by_cases h0 : n = 0
  · have e0 : nI n = 0 := by rw [h0]; rfl
    refine ⟨-1, up2 I 0 6 5, L, ?_, is8 (up2 I 0 6 5) 5, L, ?_, IV_q h (Q8_is (a := 5)) (RDY_is (RDY_s hR)) is8_0⟩
    · simp (config := { decide := true }) only [f_X7_stand, hC.1, e0, m1_l, obs, bnd_eq, is_0, is_1, is_2, is_3, is_4, is_5, is_6, is_9, tell_eq, refuse_eq, refuse8_eq, b2i_1, b2i_0, if_true, if_false, ↓reduceIte]
    · simp (config := { decide := true }) only [f_X8_stand, (RDY_s (s := 5) hR).1, e0, obs, bnd_eq, is_0, is_1, is_2, is_3, is_4, is_5, is_6, is_9, tell_eq, refuse_eq, refuse8_eq, b2i_1, b2i_0, if_true, if_false, ↓reduceIte]
  · have e0 : ¬ nI n = 0 := nI_ne0 (by omega) (by omega)
    have hls : f_X8_laysStand 46 (is8 (up2 I 0 6 0) 0) L = some (wp (is8 (up2 I 0 6 0) 0) 46 0 st, L) := laysStand_eq (RDY_is (RDY_s hR)).2.1 (by decide)
    have j3 : Fr [46] (is8 (up2 I 0 6 0) 0) (wp (is8 (up2 I 0 6 0) 0) 46 0 st) := Fr_wp (by decide)
    have hR2 := (RDY_is (a := 0) (RDY_s (s := 0) hR)).fr j3 (by decide)
    refine ⟨lN (NV st n), up2 I 0 6 0, L, ?_, _, L, ?_, IV_q h (Q8_is.trans (Q8_fr j3 (by decide))) hR2 (by rw [j3 43 (by decide)]; exact is8_0)⟩
    · simp (config := { decide := true }) only [f_X7_stand, hC.1, e0, hC.2.2.2.1, tellTurn_eq hO.1 hO.2.2.2 hC.1, obs, bnd_eq, is_0, is_1, is_2, is_3, is_4, is_5, is_6, is_9, tell_eq, refuse_eq, refuse8_eq, b2i_1, b2i_0, if_true, if_false, ↓reduceIte]
    · simp (config := { decide := true }) only [f_X8_stand, (RDY_s (s := 0) hR).1, e0, hls, told_eq hO.1 hO.2.2.2 hR2.1 Row_wp, obs, bnd_eq, is_0, is_1, is_2, is_3, is_4, is_5, is_6, is_9, tell_eq, refuse_eq, refuse8_eq, b2i_1, b2i_0, if_true, if_false, ↓reduceIte]
theorem why_1 {b : Bool} : f_X8_why false b = some 1 := rfl
theorem why_2 : f_X8_why true false = some 2 := rfl
theorem why_0 : f_X8_why true true = some 0 := rfl
theorem PR_7h : PR_7 Inv := by
  intro I L rm x a ⟨n, m, mv, st, h⟩
  obtain ⟨hO, hC, hR, hP, hT, hU, hF, hS⟩ := id h
  have hn := hO.1
  rcases rd hn x with ⟨p, hp, h0, e1, e2⟩ | ⟨e1, e2⟩
  · cases hb : rB a n
    · have j3 : Fr [46] (up2 I 0 6 2) (wp (up2 I 0 6 2) 46 0 p) := Fr_wp (by decide)
      refine ⟨-1, up2 I 0 6 2, L, ?_, _, L, ?_, IV_q h ((Q8_fr j3 (by decide)).trans (Q8_is (a := 2))) (RDY_is ((RDY_s hR).fr j3 (by decide))) is8_0⟩
      · simp (config := { decide := true }) only [f_X7_takes, read_eq hC.1 e1, cmp_tn hn hp, hasPoint_eq hC.1 hn a, hb, obs, bnd_eq, is_0, is_1, is_2, is_3, is_4, is_5, is_6, is_9, tell_eq, refuse_eq, refuse8_eq, b2i_1, b2i_0, if_true, if_false, ↓reduceIte]
      · simp (config := { decide := true }) only [f_X8_takes, e2 46 _ L (by decide) (RDY_s (s := 2) hR).1, isPoint_eq ((RDY_s (s := 2) hR).fr j3 (by decide)).1 hn a, hb, why_2, obs, bnd_eq, is_0, is_1, is_2, is_3, is_4, is_5, is_6, is_9, tell_eq, refuse_eq, refuse8_eq, b2i_1, b2i_0, if_true, if_false, ↓reduceIte]
    · obtain ⟨j, hj, rfl⟩ := rB_t hb
      have j3 : Fr [46] (up2 I 0 6 0) (wp (up2 I 0 6 0) 46 0 p) := Fr_wp (by decide)
      refine ⟨nI (p j), up2 I 0 6 0, L, ?_, _, L, ?_, IV_q h ((Q8_fr j3 (by decide)).trans (Q8_is (a := 0))) (RDY_is ((RDY_s hR).fr j3 (by decide))) is8_0⟩
      · simp (config := { decide := true }) only [f_X7_takes, read_eq hC.1 e1, cmp_tn hn hp, hasPoint_eq hC.1 hn, hb, tn_img hn hp hj, obs, bnd_eq, is_0, is_1, is_2, is_3, is_4, is_5, is_6, is_9, tell_eq, refuse_eq, refuse8_eq, b2i_1, b2i_0, if_true, if_false, ↓reduceIte]
      · simp (config := { decide := true }) only [f_X8_takes, e2 46 _ L (by decide) (RDY_s (s := 0) hR).1, isPoint_eq ((RDY_s (s := 0) hR).fr j3 (by decide)).1 hn, hb, why_0, q_chk (show j < 10 by omega) (by decide), q_ix (show j < 2 ^ 31 by omega), is8_ne (show 46 ≠ 43 by decide), Row0 (Row_wp (I := up2 I 0 6 0) (to := 46) (wh := 0) (p := p)) (show j < 10 by omega), obs, bnd_eq, is_0, is_1, is_2, is_3, is_4, is_5, is_6, is_9, tell_eq, refuse_eq, refuse8_eq, b2i_1, b2i_0, if_true, if_false, ↓reduceIte]
  · obtain ⟨I', f1, f2⟩ := e2 46 (up2 I 0 6 1) L (by decide) (RDY_s (s := 1) hR).1
    refine ⟨-1, up2 I 0 6 1, L, ?_, _, L, ?_, IV_q h ((Q8_fr f2 (by decide)).trans (Q8_is (a := 1))) (RDY_is ((RDY_s hR).fr f2 (by decide))) is8_0⟩
    · simp (config := { decide := true }) only [f_X7_takes, read_eq hC.1 e1, cmp_m1, obs, bnd_eq, is_0, is_1, is_2, is_3, is_4, is_5, is_6, is_9, tell_eq, refuse_eq, refuse8_eq, b2i_1, b2i_0, if_true, if_false, ↓reduceIte]
    · simp (config := { decide := true }) only [f_X8_takes, f1, isPoint_eq ((RDY_s (s := 1) hR).fr f2 (by decide)).1 hn a, why_1, obs, bnd_eq, is_0, is_1, is_2, is_3, is_4, is_5, is_6, is_9, tell_eq, refuse_eq, refuse8_eq, b2i_1, b2i_0, if_true, if_false, ↓reduceIte]
theorem PR_8h : PR_8 Inv := by
  intro I L rm x y ⟨n, m, mv, st, h⟩
  obtain ⟨hO, hC, hR, hP, hT, hU, hF, hS⟩ := id h
  have hn := hO.1
  rcases rd hn x with ⟨p, hp, h0, e1, e2⟩ | ⟨e1, e2⟩
  · rcases rd hn y with ⟨q, hq, _, g1, g2⟩ | ⟨g1, g2⟩
    · have j3 : Fr [46, 47] (up2 I 0 6 0) (wp (wp (up2 I 0 6 0) 46 0 p) 47 0 q) := (Fr_wp (by decide)).trans (Fr_wp (by decide))
      have hR1 := (RDY_s (s := 0) hR).fr (S := [46]) (I' := wp (up2 I 0 6 0) 46 0 p) (Fr_wp (by decide)) (by decide)
      have hR2 := RDY_is (a := 0) ((RDY_s (s := 0) hR).fr j3 (by decide))
      have r46 : Row (is8 (wp (wp (up2 I 0 6 0) 46 0 p) 47 0 q) 0) 46 0 p := Row_is (by decide) (Row_ne (by decide) Row_wp)
      have r47 : Row (is8 (wp (wp (up2 I 0 6 0) 46 0 p) 47 0 q) 0) 47 0 q := Row_is (by decide) Row_wp
      have j4 : Fr [48] (is8 (wp (wp (up2 I 0 6 0) 46 0 p) 47 0 q) 0) (wp (is8 (wp (wp (up2 I 0 6 0) 46 0 p) 47 0 q) 0) 48 0 (cp p q)) := Fr_wp (by decide)
      have hR3 := hR2.fr j4 (by decide)
      refine ⟨lN (NV (cp p q) n), up2 I 0 6 0, L, ?_, _, L, ?_, IV_q h (((Q8_fr j3 (by decide)).trans (Q8_is (a := 0))).trans (Q8_fr j4 (by decide))) hR3 (by rw [j4 43 (by decide)]; exact is8_0)⟩
      · simp (config := { decide := true }) only [f_X7_product, read_eq hC.1 e1, read_eq hC.1 g1, cmp_tn' hn hp, cmp_tn hn hq, hC.1, compose_eq hn hp hq, tellTurn_eq hn (IsP_cp hp hq) hC.1, obs, bnd_eq, is_0, is_1, is_2, is_3, is_4, is_5, is_6, is_9, tell_eq, refuse_eq, refuse8_eq, b2i_1, b2i_0, if_true, if_false, ↓reduceIte]
      · simp (config := { decide := true }) only [f_X8_product, e2 46 _ L (by decide) (RDY_s (s := 0) hR).1, g2 47 _ L (by decide) hR1.1, makes_eq (c := 48) r46 r47 (IsP_mono hp hn) (by decide) (by decide), told_eq hn (IsP_cp hp hq) hR3.1 Row_wp, obs, bnd_eq, is_0, is_1, is_2, is_3, is_4, is_5, is_6, is_9, tell_eq, refuse_eq, refuse8_eq, b2i_1, b2i_0, if_true, if_false, ↓reduceIte]
    · have hR1 := (RDY_s (s := 1) hR).fr (S := [46]) (I' := wp (up2 I 0 6 1) 46 0 p) (Fr_wp (by decide)) (by decide)
      obtain ⟨I', f1, f2⟩ := g2 47 (wp (up2 I 0 6 1) 46 0 p) L (by decide) hR1.1
      refine ⟨-1, up2 I 0 6 1, L, ?_, _, L, ?_, IV_q h (((Q8_fr (S := [46]) (Fr_wp (by decide)) (by decide)).trans (Q8_fr f2 (by decide))).trans (Q8_is (a := 1))) (RDY_is (hR1.fr f2 (by decide))) is8_0⟩
      · simp (config := { decide := true }) only [f_X7_product, read_eq hC.1 e1, read_eq hC.1 g1, cmp_tn' hn hp, cmp_m1, m1_l, obs, bnd_eq, is_0, is_1, is_2, is_3, is_4, is_5, is_6, is_9, tell_eq, refuse_eq, refuse8_eq, b2i_1, b2i_0, if_true, if_false, ↓reduceIte]
      · simp (config := { decide := true }) only [f_X8_product, e2 46 _ L (by decide) (RDY_s (s := 1) hR).1, f1, obs, bnd_eq, is_0, is_1, is_2, is_3, is_4, is_5, is_6, is_9, tell_eq, refuse_eq, refuse8_eq, b2i_1, b2i_0, if_true, if_false, ↓reduceIte]
  · obtain ⟨I', f1, f2⟩ := e2 46 (up2 I 0 6 1) L (by decide) (RDY_s (s := 1) hR).1
    have hrd : ∃ z, f_X6_fromNumber y (nI n) = some z := by
      rcases rd hn y with ⟨q, hq, _, g1, g2⟩ | ⟨g1, g2⟩
      · exact ⟨_, g1⟩
      · exact ⟨_, g1⟩
    obtain ⟨z, g1⟩ := hrd
    refine ⟨-1, up2 I 0 6 1, L, ?_, _, L, ?_, IV_q h ((Q8_fr f2 (by decide)).trans (Q8_is (a := 1))) (RDY_is ((RDY_s hR).fr f2 (by decide))) is8_0⟩
    · simp (config := { decide := true }) only [f_X7_product, read_eq hC.1 e1, read_eq hC.1 g1, cmp_m1', m1_l, obs, bnd_eq, is_0, is_1, is_2, is_3, is_4, is_5, is_6, is_9, tell_eq, refuse_eq, refuse8_eq, b2i_1, b2i_0, if_true, if_false, ↓reduceIte]
    · simp (config := { decide := true }) only [f_X8_product, f1, obs, bnd_eq, is_0, is_1, is_2, is_3, is_4, is_5, is_6, is_9, tell_eq, refuse_eq, refuse8_eq, b2i_1, b2i_0, if_true, if_false, ↓reduceIte]
theorem PR_9h : PR_9 Inv := by
  intro I L rm x ⟨n, m, mv, st, h⟩
  obtain ⟨hO, hC, hR, hP, hT, hU, hF, hS⟩ := id h
  have hn := hO.1
  rcases rd hn x with ⟨p, hp, h0, e1, e2⟩ | ⟨e1, e2⟩
  · have j3 : Fr [46] (up2 I 0 6 0) (wp (up2 I 0 6 0) 46 0 p) := Fr_wp (by decide)
    have hR2 := RDY_is (a := 0) ((RDY_s (s := 0) hR).fr j3 (by decide))
    have r46 : Row (is8 (wp (up2 I 0 6 0) 46 0 p) 0) 46 0 p := Row_is (by decide) Row_wp
    have j4 : Fr [48] (is8 (wp (up2 I 0 6 0) 46 0 p) 0) (wp (is8 (wp (up2 I 0 6 0) 46 0 p) 0) 48 0 (iv p)) := Fr_wp (by decide)
    have hR3 := hR2.fr j4 (by decide)
    refine ⟨lN (NV (iv p) n), up2 I 0 6 0, L, ?_, _, L, ?_, IV_q h (((Q8_fr j3 (by decide)).trans (Q8_is (a := 0))).trans (Q8_fr j4 (by decide))) hR3 (by rw [j4 43 (by decide)]; exact is8_0)⟩
    · simp (config := { decide := true }) only [f_X7_inverse, read_eq hC.1 e1, cmp_tn hn hp, hC.1, invert_eq hn hp, tellTurn_eq hn (IsP_iv hn hp) hC.1, obs, bnd_eq, is_0, is_1, is_2, is_3, is_4, is_5, is_6, is_9, tell_eq, refuse_eq, refuse8_eq, b2i_1, b2i_0, if_true, if_false, ↓reduceIte]
    · simp (config := { decide := true }) only [f_X8_inverse, e2 46 _ L (by decide) (RDY_s (s := 0) hR).1, inverts_eq r46 (IsP_mono hp hn) (show 46 ≠ 48 by decide), told_eq hn (IsP_iv hn hp) hR3.1 Row_wp, obs, bnd_eq, is_0, is_1, is_2, is_3, is_4, is_5, is_6, is_9, tell_eq, refuse_eq, refuse8_eq, b2i_1, b2i_0, if_true, if_false, ↓reduceIte]
  · obtain ⟨I', f1, f2⟩ := e2 46 (up2 I 0 6 1) L (by decide) (RDY_s (s := 1) hR).1
    refine ⟨-1, up2 I 0 6 1, L, ?_, _, L, ?_, IV_q h ((Q8_fr f2 (by decide)).trans (Q8_is (a := 1))) (RDY_is ((RDY_s hR).fr f2 (by decide))) is8_0⟩
    · simp (config := { decide := true }) only [f_X7_inverse, read_eq hC.1 e1, cmp_m1, m1_l, obs, bnd_eq, is_0, is_1, is_2, is_3, is_4, is_5, is_6, is_9, tell_eq, refuse_eq, refuse8_eq, b2i_1, b2i_0, if_true, if_false, ↓reduceIte]
    · simp (config := { decide := true }) only [f_X8_inverse, f1, obs, bnd_eq, is_0, is_1, is_2, is_3, is_4, is_5, is_6, is_9, tell_eq, refuse_eq, refuse8_eq, b2i_1, b2i_0, if_true, if_false, ↓reduceIte]
end OP
