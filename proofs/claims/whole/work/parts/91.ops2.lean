/-! Calls on groups -/
section O2
variable {n m N rm : Nat} {mv : Nat → Nat → Nat} {st : Nat → Nat} {I : MI} {L : ML} {e : Nat → Nat → Nat}
theorem CI_tab (hO : OKm n m mv st) (hC : CI I L rm n m mv st) : ∃ rb th, ChT I L 8 n rb th ∧ TabG n (Gp n m mv) (RB (tbR rb)) th := by
  obtain ⟨rb, th, a, b, _⟩ := ChG_tab hO.1 hC.2.2.2.2.1
  exact ⟨rb, th, a, b⟩
theorem size2_eq (hO : OKm n m mv st) (hC : CI I L rm n m mv st) (he : EL n (Gp n m mv) N e) : f_X2_size I L = some (nI N) := by
  obtain ⟨rb, th, a, b⟩ := CI_tab hO hC
  unfold f_X2_size
  rw [ob (size_eq hO.1 a b.1), ← (EL_tab hO.1 (Gp_Sub hO.1 hO.2.2.1) b he).1]
theorem w_tab {G : PS} {R R' : Nat → Nat → Bool} {T T' : Nat → Nat → Nat → Nat} (h : TabG n G (RB R) T) (h' : TabG n G (RB R') T') {k : Nat} (hk : k < n) : cT (R k) n = cT (R' k) n := cT_ext n (fun i hi => by
  rw [Bool.eq_iff_iff]; exact (h.2.1 k i hk).trans (h'.2.1 k i hk).symm)
theorem sft_w {G : PS} {R : Nat → Nat → Bool} {T : Nat → Nat → Nat → Nat} (hn : n ≤ 10) (hG : Sub n G) (h : TabG n G (RB R) T) : ∀ d, d ≤ n → ∀ p, IsP n p → (∀ i, i < n - d → p i = i) → ∃ t, G t ∧ p = cp (sft n R T d p).2 t := by
  intro d
  induction d with
  | zero => intro _ p hp hf; exact ⟨idp, hG.2.1, rfl⟩
  | succ d ih =>
    intro hd p hp hf
    by_cases hR : R (n - (d + 1)) (p (n - (d + 1))) = true
    · have e1 : sft n R T (d + 1) p = sft n R T d (cp p (iv (T (n - (d + 1)) (p (n - (d + 1)))))) := if_pos hR
      obtain ⟨s1, s2⟩ := sft_step hn h.1 (by omega) hp hf hR
      obtain ⟨t, t1, t2⟩ := ih (by omega) _ s1 s2
      have hTT := h.2.2 _ _ (show n - (d + 1) < n by omega) hR
      refine ⟨cp t (T (n - (d + 1)) (p (n - (d + 1)))), hG.2.2.1 _ _ t1 hTT, ?_⟩
      rw [e1, ← cp_as, ← t2, cp_as, iv_cp hn (hG.1 _ hTT), cp_id]
    · have e1 : sft n R T (d + 1) p = (n - (d + 1), p) := if_neg hR
      rw [e1]; exact ⟨idp, hG.2.1, rfl⟩
/-- how far one can be followed -/
theorem sft_ch {G : PS} {R : Nat → Nat → Bool} {T : Nat → Nat → Nat → Nat} {p : Nat → Nat} (hn : n ≤ 10) (hG : Sub n G) (h : TabG n G (RB R) T) (hp : IsP n p) : (sft n R T n p).1 ≤ n ∧ (∃ g, G g ∧ ∀ i, i < (sft n R T n p).1 → g i = p i) ∧ ((sft n R T n p).1 < n → ¬ ∃ g, G g ∧ ∀ i, i < (sft n R T n p).1 + 1 → g i = p i) := by
  have hf : ∀ i, i < n - n → p i = i := fun i hi => by omega
  obtain ⟨o1, o2, o3, o4, o5, o6⟩ := sft_ok hn h.1 n (Nat.le_refl n) p hp hf
  obtain ⟨t, t1, t2⟩ := sft_w hn hG h n (Nat.le_refl n) p hp hf
  have tP := hG.1 t t1
  refine ⟨o3, ⟨t, t1, fun i hi => ?_⟩, fun hlt ⟨g, g1, g2⟩ => ?_⟩
  · have := congrFun t2 i
    rw [this]
    show t i = t ((sft n R T n p).2 i)
    rw [o4 i hi]
  · have h1 := o5 hlt
    have h2 : R (sft n R T n p).1 ((sft n R T n p).2 (sft n R T n p).1) = true := (h.2.1 _ _ hlt).mpr ⟨cp g (iv t), hG.2.2.1 _ _ g1 (hG.2.2.2 _ t1), fun i hi => ?_, ?_⟩
    · rw [h1] at h2; cases h2
    · show iv t (g i) = i
      rw [g2 i (by omega)]
      have := congrFun t2 i
      rw [this]
      show iv t (t ((sft n R T n p).2 i)) = i
      rw [o4 i hi, iv_l hn tP]
    · show iv t (g _) = _
      rw [g2 _ (by omega)]
      have := congrFun t2 (sft n R T n p).1
      rw [this]
      exact iv_l hn tP _
theorem fol_un {G : PS} {p : Nat → Nat} {a b : Nat} (ha : ∃ g, G g ∧ ∀ i, i < a → g i = p i) (hb : ¬ ∃ g, G g ∧ ∀ i, i < b + 1 → g i = p i) : a ≤ b := by
  refine Nat.le_of_not_lt fun hlt => hb ?_
  obtain ⟨g, g1, g2⟩ := ha
  exact ⟨g, g1, fun i hi => g2 i (by omega)⟩
theorem followedOf_eq {p : Nat → Nat} {a : Nat} (hO : OKm n m mv st) (hC : CI I L rm n m mv st) {J : MI} (hR : RDY J n m mv st) (hp : IsP n p) (hr : Row J a 0 p) (ha : a ∉ (43 :: 48 :: SC)) : ∃ k I', f_X0_follow 8 (tn n p) I L = some (nI k) ∧ f_X8_followedOf a J L = some (nI k, I', L) ∧ RDY I' n m mv st ∧ Fr (43 :: 48 :: SC) J I' ∧ (∀ j, j ≠ 20 → I' 43 j = J 43 j) := by
  have hn := hO.1
  have hG := Gp_Sub hn hO.2.2.1
  obtain ⟨rb, th, a1, a2⟩ := CI_tab hO hC
  obtain ⟨I1, b1, b2, b3, b4, b5⟩ := builds__eq (L := L) hO hR
  obtain ⟨T, hS, hT, _⟩ := id b2.2.2.1
  obtain ⟨I2, c1, c2, c3⟩ := sifts_eq (L := L) (s := 0) (by decide) (a := a) (fun g => ha (by rw [g]; decide)) hS (Row_of (b3 a ha) hr) (IsP_mono hp hn)
  rw [nI_0] at c1
  obtain ⟨d0, d1, d2⟩ := sft_ch hn hG a2 hp
  obtain ⟨e0, e1, e2⟩ := sft_ch (Nat.le_refl 10) (Sub_10 hn hG) hT (IsP_mono hp hn)
  have h43 : I2 43 2 = nI n := by rw [c2 43 (by decide)]; exact b2.1
  have key : (if n ≤ (sft 10 (RT I1 0) T 10 p).1 then n else (sft 10 (RT I1 0) T 10 p).1) = (sft n (tbR rb) th n p).1 := by
    by_cases g : n ≤ (sft 10 (RT I1 0) T 10 p).1
    · rw [if_pos g]
      refine Classical.byContradiction fun hne => ?_
      have := fol_un e1 (d2 (by omega))
      omega
    · rw [if_neg g]
      have h1 := fol_un d1 (e2 (by omega))
      by_cases g2 : (sft n (tbR rb) th n p).1 < n
      · have h2 := fol_un e1 (d2 g2); omega
      · omega
  refine ⟨_, I2, follow_eq hn a1 a2.1 hp, ?_, (b2.fr c2 (by decide)).rdy, b3.trans (c2.mono (by decide)), fun j hj => by rw [c2 43 (by decide)]; exact b4 j hj⟩
  unfold f_X8_followedOf
  rw [ob b1, ob c1, bnd_eq]
  dsimp only
  rw [← key]
  by_cases g : n ≤ (sft 10 (RT I1 0) T 10 p).1
  · rw [if_pos (show I2 43 2 ≤ nI (sft 10 (RT I1 0) T 10 p).1 by rw [h43, q_le (by omega) (by omega)]; exact g), h43, if_pos g]
  · rw [if_neg (show ¬ I2 43 2 ≤ nI (sft 10 (RT I1 0) T 10 p).1 by rw [h43, q_le (by omega) (by omega)]; exact g), if_neg g]
theorem Q8_b {J J' : MI} (h : Fr (43 :: 48 :: SC) J J') (h2 : ∀ j, j ≠ 20 → J' 43 j = J 43 j) : Q8 J J' := by
  refine ⟨fun p hp => h p (fun g => ?_), fun j _ _ h20 _ => h2 j h20⟩
  have : p ∈ [43, 48, 52, 53, 54, 55, 56, 57, 58, 59] := g
  simp only [List.mem_cons, List.not_mem_nil, or_false] at this
  omega
theorem whyHere_n {w : Int32} (h : I 43 2 = nI n) (h0 : n = 0) : f_X8_whyHere 0 I L = some 5 := by
  unfold f_X8_whyHere
  rw [if_pos rfl, h, h0]; rfl
theorem whyHere_p (h : I 43 2 = nI n) (hn : n ≤ 10) (h0 : n ≠ 0) : f_X8_whyHere 0 I L = some 0 := by
  unfold f_X8_whyHere
  rw [if_pos rfl, h, if_neg (nI_ne0 (by omega) (by omega))]
theorem whyHere_1 : f_X8_whyHere 1 I L = some 1 := rfl
theorem whyHere_2 : f_X8_whyHere 2 I L = some 2 := rfl
theorem PR_16h : PR_16 Inv := by
  intro I L rm ⟨n, m, mv, st, h⟩
  obtain ⟨hO, hC, hR, hP, hT, hU, hF, hS⟩ := id h
  have hn := hO.1
  obtain ⟨N, e, he⟩ := EL_ex hn (Gp_Sub hn hO.2.2.1)
  by_cases h0 : n = 0
  · have e0 : nI n = 0 := by rw [h0]; rfl
    refine ⟨-1, up2 I 0 6 5, L, ?_, is8 (up2 I 0 6 5) 5, L, ?_, IV_q h (Q8_is (a := 5)) (RDY_is (RDY_s hR)) is8_0⟩
    · simp (config := { decide := true }) only [f_X7_order, hC.1, e0, obs, bnd_eq, is_0, is_1, is_2, is_3, is_4, is_5, is_6, is_9, tell_eq, refuse_eq, refuse8_eq, b2i_1, b2i_0, if_true, if_false, ↓reduceIte]
    · simp (config := { decide := true }) only [f_X8_order, whyHere_n (w := 0) (RDY_s (s := 5) hR).1 h0, obs, bnd_eq, is_0, is_1, is_2, is_3, is_4, is_5, is_6, is_9, tell_eq, refuse_eq, refuse8_eq, b2i_1, b2i_0, if_true, if_false, ↓reduceIte]
  · have e0 : ¬ nI n = 0 := nI_ne0 (by omega) (by omega)
    obtain ⟨I', a1, a2, a3, a4, a5⟩ := orderNow_eq (L := L) hO (RDY_is (a := 0) (RDY_s (s := 0) hR)) he
    refine ⟨nI N, up2 I 0 6 0, L, ?_, I', L, ?_, IV_q h (Q8_is.trans (Q8_b a3 a4)) a2.rdy (by rw [a4 0 (by decide)]; exact is8_0)⟩
    · simp (config := { decide := true }) only [f_X7_order, hC.1, e0, size2_eq hO hC he, obs, bnd_eq, is_0, is_1, is_2, is_3, is_4, is_5, is_6, is_9, tell_eq, refuse_eq, refuse8_eq, b2i_1, b2i_0, if_true, if_false, ↓reduceIte]
    · simp (config := { decide := true }) only [f_X8_order, whyHere_p (RDY_s (s := 0) hR).1 hn h0, a1, obs, bnd_eq, is_0, is_1, is_2, is_3, is_4, is_5, is_6, is_9, tell_eq, refuse_eq, refuse8_eq, b2i_1, b2i_0, if_true, if_false, ↓reduceIte]
theorem contains8_eq (hO : OKm n m mv st) (hC : CI I L rm n m mv st) {p : Nat → Nat} (hp : IsP n p) {c : Bool} (hc : c = true ↔ Gp n m mv p) : f_X0_contains 8 (tn n p) I L = some c := by
  obtain ⟨rb, th, a, b⟩ := CI_tab hO hC
  refine contains_eq hO.1 a b.1 hp (hc.trans ((TabG_SM hO.1 (Gp_Sub hO.1 hO.2.2.1) b n (Nat.le_refl n) p).trans ⟨fun h => h.1, fun h => ⟨h, fun i hi => by omega⟩⟩).symm)
theorem PR_17h : PR_17 Inv := by
  intro I L rm x ⟨n, m, mv, st, h⟩
  obtain ⟨hO, hC, hR, hP, hT, hU, hF, hS⟩ := id h
  have hn := hO.1
  rcases rd hn x with ⟨p, hp, h0, e1, e2⟩ | ⟨e1, e2⟩
  · obtain ⟨c, hc⟩ := em_B (Gp n m mv p)
    have j3 : Fr [46] (up2 I 0 6 0) (wp (up2 I 0 6 0) 46 0 p) := Fr_wp (by decide)
    have hR2 := RDY_is (a := 0) ((RDY_s (s := 0) hR).fr j3 (by decide))
    obtain ⟨I1, b1, b2, b3, b4, b5⟩ := builds__eq (L := L) hO hR2
    have r46 : Row I1 46 0 p := Row_of (b3 46 (by decide)) (Row_is (by decide) Row_wp)
    obtain ⟨I2, c1, c2⟩ := isMemberG (L := L) (s := 0) (by decide) b2.2.2.1 (a := 46) (by decide) r46 (IsP_mono hp hn) hc
    rw [nI_0] at c1
    refine ⟨b2i c, up2 I 0 6 0, L, ?_, I2, L, ?_, IV_q h ((((Q8_fr j3 (by decide)).trans (Q8_is (a := 0))).trans (Q8_b b3 b4)).trans (Q8_fr c2 (by decide))) (b2.fr c2 (by decide)).rdy (by rw [c2 43 (by decide), b4 0 (by decide)]; exact is8_0)⟩
    · cases c <;> simp (config := { decide := true }) only [f_X7_member, read_eq hC.1 e1, cmp_tn hn hp, contains8_eq hO hC hp hc, obs, bnd_eq, is_0, is_1, is_2, is_3, is_4, is_5, is_6, is_9, tell_eq, refuse_eq, refuse8_eq, b2i_1, b2i_0, if_true, if_false, ↓reduceIte]
    · cases c <;> simp (config := { decide := true }) only [f_X8_member, e2 46 _ L (by decide) (RDY_s (s := 0) hR).1, b1, c1, obs, bnd_eq, is_0, is_1, is_2, is_3, is_4, is_5, is_6, is_9, tell_eq, refuse_eq, refuse8_eq, b2i_1, b2i_0, if_true, if_false, ↓reduceIte]
  · obtain ⟨I', f1, f2⟩ := e2 46 (up2 I 0 6 1) L (by decide) (RDY_s (s := 1) hR).1
    refine ⟨-1, up2 I 0 6 1, L, ?_, _, L, ?_, IV_q h ((Q8_fr f2 (by decide)).trans (Q8_is (a := 1))) (RDY_is ((RDY_s hR).fr f2 (by decide))) is8_0⟩
    · simp (config := { decide := true }) only [f_X7_member, read_eq hC.1 e1, cmp_m1, obs, bnd_eq, is_0, is_1, is_2, is_3, is_4, is_5, is_6, is_9, tell_eq, refuse_eq, refuse8_eq, b2i_1, b2i_0, if_true, if_false, ↓reduceIte]
    · simp (config := { decide := true }) only [f_X8_member, f1, obs, bnd_eq, is_0, is_1, is_2, is_3, is_4, is_5, is_6, is_9, tell_eq, refuse_eq, refuse8_eq, b2i_1, b2i_0, if_true, if_false, ↓reduceIte]
theorem CI_s {s : Int32} (hC : CI I L rm n m mv st) : CI (up2 I 0 6 s) L rm n m mv st := hC.fr (fun p hp => up2_ne (by omega))
theorem PR_18h : PR_18 Inv := by
  intro I L rm x ⟨n, m, mv, st, h⟩
  obtain ⟨hO, hC, hR, hP, hT, hU, hF, hS⟩ := id h
  have hn := hO.1
  rcases rd hn x with ⟨p, hp, h0, e1, e2⟩ | ⟨e1, e2⟩
  · have j3 : Fr [46] (up2 I 0 6 0) (wp (up2 I 0 6 0) 46 0 p) := Fr_wp (by decide)
    have hR2 := RDY_is (a := 0) ((RDY_s (s := 0) hR).fr j3 (by decide))
    obtain ⟨k, I2, b1, b2, b3, b4, b5⟩ := followedOf_eq hO hC hR2 hp (a := 46) (Row_is (by decide) Row_wp) (by decide)
    refine ⟨nI k, up2 I 0 6 0, L, ?_, I2, L, ?_, IV_q h (((Q8_fr j3 (by decide)).trans (Q8_is (a := 0))).trans (Q8_b b4 b5)) b3 (by rw [b5 0 (by decide)]; exact is8_0)⟩
    · simp (config := { decide := true }) only [f_X7_followed, read_eq hC.1 e1, cmp_tn hn hp, b1, obs, bnd_eq, is_0, is_1, is_2, is_3, is_4, is_5, is_6, is_9, tell_eq, refuse_eq, refuse8_eq, b2i_1, b2i_0, if_true, if_false, ↓reduceIte]
    · simp (config := { decide := true }) only [f_X8_followed, e2 46 _ L (by decide) (RDY_s (s := 0) hR).1, b2, obs, bnd_eq, is_0, is_1, is_2, is_3, is_4, is_5, is_6, is_9, tell_eq, refuse_eq, refuse8_eq, b2i_1, b2i_0, if_true, if_false, ↓reduceIte]
  · obtain ⟨I', f1, f2⟩ := e2 46 (up2 I 0 6 1) L (by decide) (RDY_s (s := 1) hR).1
    refine ⟨-1, up2 I 0 6 1, L, ?_, _, L, ?_, IV_q h ((Q8_fr f2 (by decide)).trans (Q8_is (a := 1))) (RDY_is ((RDY_s hR).fr f2 (by decide))) is8_0⟩
    · simp (config := { decide := true }) only [f_X7_followed, read_eq hC.1 e1, cmp_m1, obs, bnd_eq, is_0, is_1, is_2, is_3, is_4, is_5, is_6, is_9, tell_eq, refuse_eq, refuse8_eq, b2i_1, b2i_0, if_true, if_false, ↓reduceIte]
    · simp (config := { decide := true }) only [f_X8_followed, f1, obs, bnd_eq, is_0, is_1, is_2, is_3, is_4, is_5, is_6, is_9, tell_eq, refuse_eq, refuse8_eq, b2i_1, b2i_0, if_true, if_false, ↓reduceIte]
theorem PR_19h : PR_19 Inv := by
  intro I L rm a ⟨n, m, mv, st, h⟩
  obtain ⟨hO, hC, hR, hP, hT, hU, hF, hS⟩ := id h
  have hn := hO.1
  have hG := Gp_Sub hn hO.2.2.1
  obtain ⟨N, e, he⟩ := EL_ex hn hG
  have hN := EL_N hO he
  by_cases ha : a < 0
  · have ha2 : ¬ 0 ≤ a := Int32.not_le.mpr ha
    refine ⟨-1, up2 I 0 6 1, L, ?_, is8 (up2 I 0 6 1) 1, L, ?_, IV_q h (Q8_is (a := 1)) (RDY_is (RDY_s hR)) is8_0⟩
    · simp (config := { decide := true }) only [f_X7_nth, ha2, m1_l, obs, bnd_eq, is_0, is_1, is_2, is_3, is_4, is_5, is_6, is_9, tell_eq, refuse_eq, refuse8_eq, b2i_1, b2i_0, if_true, if_false, ↓reduceIte]
    · simp (config := { decide := true }) only [f_X8_nth, ha, whyHere_1, obs, bnd_eq, is_0, is_1, is_2, is_3, is_4, is_5, is_6, is_9, tell_eq, refuse_eq, refuse8_eq, b2i_1, b2i_0, if_true, if_false, ↓reduceIte]
  · obtain ⟨k, hk, rfl⟩ := nI_of ha
    have ha2 : 0 ≤ nI k := nI_pos' hk
    by_cases h0 : n = 0
    · have e0 : nI n = 0 := by rw [h0]; rfl
      refine ⟨-1, up2 I 0 6 5, L, ?_, is8 (up2 I 0 6 5) 5, L, ?_, IV_q h (Q8_is (a := 5)) (RDY_is (RDY_s hR)) is8_0⟩
      · simp (config := { decide := true }) only [f_X7_nth, ha2, hC.1, e0, m1_l, obs, bnd_eq, is_0, is_1, is_2, is_3, is_4, is_5, is_6, is_9, tell_eq, refuse_eq, refuse8_eq, b2i_1, b2i_0, if_true, if_false, ↓reduceIte]
      · simp (config := { decide := true }) only [f_X8_nth, ha, whyHere_n (w := 0) (RDY_s (s := 5) hR).1 h0, obs, bnd_eq, is_0, is_1, is_2, is_3, is_4, is_5, is_6, is_9, tell_eq, refuse_eq, refuse8_eq, b2i_1, b2i_0, if_true, if_false, ↓reduceIte]
    · have e0 : ¬ nI n = 0 := nI_ne0 (by omega) (by omega)
      by_cases hkN : k < N
      · have c1 : nI k < nI N := by rw [q_lt hk (by omega)]; exact hkN
        obtain ⟨rb, th, t1, t2⟩ := CI_tab hO hC
        obtain ⟨I', a1, a2, a3, a4, a5⟩ := orderNow_eq (L := L) hO (RDY_is (a := 0) (RDY_s (s := 0) hR)) he
        obtain ⟨I2, b1, b2, b3⟩ := laysNth_eq (I := I') (L := L) (a := 46) (x := k) hn hG (by decide) a2.1 a2.2.2.1 he hkN
        have hR3 := a2.fr b2 (by decide)
        have eP := EL_P hG he hkN
        refine ⟨lN (NV (e k) n), up2 I 0 6 0, L, ?_, I2, L, ?_, IV_q h ((Q8_is.trans (Q8_b a3 a4)).trans (Q8_fr b2 (by decide))) hR3.rdy (by rw [b2 43 (by decide), a4 0 (by decide)]; exact is8_0)⟩
        · simp (config := { decide := true }) only [f_X7_nth, ha2, hC.1, e0, size2_eq hO hC he, c1, pick_eq hn hG t1 t2 he hkN, tellTurn_eq hn eP hC.1, obs, bnd_eq, is_0, is_1, is_2, is_3, is_4, is_5, is_6, is_9, tell_eq, refuse_eq, refuse8_eq, b2i_1, b2i_0, if_true, if_false, ↓reduceIte]
        · simp (config := { decide := true }) only [f_X8_nth, ha, whyHere_p (RDY_s (s := 0) hR).1 hn h0, a1, c1, b1, told_eq hn eP hR3.1 b3, obs, bnd_eq, is_0, is_1, is_2, is_3, is_4, is_5, is_6, is_9, tell_eq, refuse_eq, refuse8_eq, b2i_1, b2i_0, if_true, if_false, ↓reduceIte]
      · have c1 : ¬ nI k < nI N := by rw [q_lt hk (by omega)]; exact hkN
        obtain ⟨I', a1, a2, a3, a4, a5⟩ := orderNow_eq (L := L) hO (RDY_is (a := 0) (RDY_s (s := 5) hR)) he
        refine ⟨-1, up2 I 0 6 5, L, ?_, up2 I' 43 0 5, L, ?_, IV_q h ((Q8_is.trans (Q8_b a3 a4)).trans Q8_r) (RDY_r a2.rdy) up2_s⟩
        · simp (config := { decide := true }) only [f_X7_nth, ha2, hC.1, e0, size2_eq hO hC he, c1, m1_l, obs, bnd_eq, is_0, is_1, is_2, is_3, is_4, is_5, is_6, is_9, tell_eq, refuse_eq, refuse8_eq, b2i_1, b2i_0, if_true, if_false, ↓reduceIte]
        · simp (config := { decide := true }) only [f_X8_nth, ha, whyHere_p (RDY_s (s := 5) hR).1 hn h0, a1, c1, m1_l, obs, bnd_eq, is_0, is_1, is_2, is_3, is_4, is_5, is_6, is_9, tell_eq, refuse_eq, refuse8_eq, b2i_1, b2i_0, if_true, if_false, ↓reduceIte]
theorem PR_20h : PR_20 Inv := by
  intro I L rm x ⟨n, m, mv, st, h⟩
  obtain ⟨hO, hC, hR, hP, hT, hU, hF, hS⟩ := id h
  have hn := hO.1
  have hG := Gp_Sub hn hO.2.2.1
  obtain ⟨N, e, he⟩ := EL_ex hn hG
  have hN := EL_N hO he
  rcases rd hn x with ⟨p, hp, h0, e1, e2⟩ | ⟨e1, e2⟩
  · obtain ⟨rb, th, t1, t2⟩ := CI_tab hO hC
    obtain ⟨r, r1, r2⟩ := placeOf_eq hn hG t1 t2 he hp
    have ref : ∀ s : Int32, ∃ r' I2, f_X8_placed 46 (is8 (wp (up2 I 0 6 s) 46 0 p) 0) L = some (r', I2, L) ∧ RDY I2 n m mv st ∧ Q8 (up2 I 0 6 s) I2 ∧ I2 43 0 = 0 ∧ ((∃ i, i < N ∧ e i = p ∧ r' = nI i) ∨ (¬ Gp n m mv p ∧ r' = -1)) := fun s => by
      have j3 : Fr [46] (up2 I 0 6 s) (wp (up2 I 0 6 s) 46 0 p) := Fr_wp (by decide)
      have hR2 := RDY_is (a := 0) ((RDY_s (s := s) hR).fr j3 (by decide))
      obtain ⟨I1, b1, b2, b3, b4, b5⟩ := builds__eq (L := L) hO hR2
      have r46 : Row I1 46 0 p := Row_of (b3 46 (by decide)) (Row_is (by decide) Row_wp)
      obtain ⟨r', I2, c1, c2, c3⟩ := placeOf8_eq (L := L) (a := 46) hn hG (by decide) hp b2.1 b2.2.2.1 r46 he
      refine ⟨r', I2, ?_, (b2.fr c2 (by decide)).rdy, (((Q8_fr j3 (by decide)).trans (Q8_is (a := 0))).trans (Q8_b b3 b4)).trans (Q8_fr c2 (by decide)), by rw [c2 43 (by decide), b4 0 (by decide)]; exact is8_0, c3⟩
      simp (config := { decide := true }) only [f_X8_placed, b1, c1, obs, bnd_eq, is_0, is_1, is_2, is_3, is_4, is_5, is_6, is_9, tell_eq, refuse_eq, refuse8_eq, b2i_1, b2i_0, if_true, if_false, ↓reduceIte]
    rcases r2 with ⟨i, i1, i2, i3⟩ | ⟨g, i3⟩
    · subst i3
      obtain ⟨r', I2, d1, d2, d3, d4, d5⟩ := ref 0
      have er : r' = nI i := by
        rcases d5 with ⟨i', k1, k2, k3⟩ | ⟨g, _⟩
        · rw [k3, EL_inj he k1 i1 (k2.trans i2.symm)]
        · exact absurd (i2 ▸ he.1 i i1) g
      subst er
      refine ⟨nI i, up2 I 0 6 0, L, ?_, I2, L, ?_, IV_q h d3 d2 d4⟩
      · simp (config := { decide := true }) only [f_X7_rank, read_eq hC.1 e1, cmp_tn hn hp, r1, nI_pos' (show i < 2 ^ 31 by omega), obs, bnd_eq, is_0, is_1, is_2, is_3, is_4, is_5, is_6, is_9, tell_eq, refuse_eq, refuse8_eq, b2i_1, b2i_0, if_true, if_false, ↓reduceIte]
      · simp (config := { decide := true }) only [f_X8_rank, e2 46 _ L (by decide) (RDY_s (s := 0) hR).1, d1, nI_nm1 (show i < 2 ^ 31 by omega), obs, bnd_eq, is_0, is_1, is_2, is_3, is_4, is_5, is_6, is_9, tell_eq, refuse_eq, refuse8_eq, b2i_1, b2i_0, if_true, if_false, ↓reduceIte]
    · subst i3
      obtain ⟨r', I2, d1, d2, d3, d4, d5⟩ := ref 6
      have er : r' = -1 := by
        rcases d5 with ⟨i', k1, k2, k3⟩ | ⟨_, k⟩
        · exact absurd (k2 ▸ he.1 i' k1) g
        · exact k
      subst er
      refine ⟨-1, up2 I 0 6 6, L, ?_, up2 I2 43 0 6, L, ?_, IV_q h (d3.trans Q8_r) (RDY_r d2) up2_s⟩
      · simp (config := { decide := true }) only [f_X7_rank, read_eq hC.1 e1, cmp_tn hn hp, r1, obs, bnd_eq, is_0, is_1, is_2, is_3, is_4, is_5, is_6, is_9, tell_eq, refuse_eq, refuse8_eq, b2i_1, b2i_0, if_true, if_false, ↓reduceIte]
      · simp (config := { decide := true }) only [f_X8_rank, e2 46 _ L (by decide) (RDY_s (s := 6) hR).1, d1, obs, bnd_eq, is_0, is_1, is_2, is_3, is_4, is_5, is_6, is_9, tell_eq, refuse_eq, refuse8_eq, b2i_1, b2i_0, if_true, if_false, ↓reduceIte]
  · obtain ⟨I', f1, f2⟩ := e2 46 (up2 I 0 6 1) L (by decide) (RDY_s (s := 1) hR).1
    refine ⟨-1, up2 I 0 6 1, L, ?_, _, L, ?_, IV_q h ((Q8_fr f2 (by decide)).trans (Q8_is (a := 1))) (RDY_is ((RDY_s hR).fr f2 (by decide))) is8_0⟩
    · simp (config := { decide := true }) only [f_X7_rank, read_eq hC.1 e1, cmp_m1, obs, bnd_eq, is_0, is_1, is_2, is_3, is_4, is_5, is_6, is_9, tell_eq, refuse_eq, refuse8_eq, b2i_1, b2i_0, if_true, if_false, ↓reduceIte]
    · simp (config := { decide := true }) only [f_X8_rank, f1, obs, bnd_eq, is_0, is_1, is_2, is_3, is_4, is_5, is_6, is_9, tell_eq, refuse_eq, refuse8_eq, b2i_1, b2i_0, if_true, if_false, ↓reduceIte]
end O2
