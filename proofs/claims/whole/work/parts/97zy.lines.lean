/-! Loading: moves, lines -/
section LL
variable {b : Nat → Int32} {last i s e k n m : Nat} {mv : Nat → Nat → Nat} {ns ne : Nat → Nat} {I J I' J' : MI} {L M L' M' : ML} {p : Nat → Nat}
theorem CC_eq {F : Bool × Mm → Option (Bool × Mm)} : Option.bind (f_X5_scan I L) (fun q6 => Option.bind (f_X5_readCycle q6.1 q6.2) (fun q7 => if (b2i q7.1) = 0 then some (false, q7.2.1, q7.2.2) else Option.bind (f_X5_readSign 41 q7.2.1 q7.2.2) (fun q8 => if (b2i q8.1) = 0 then some (false, q8.2.1, q8.2.2) else F q8))) = Option.bind (CCf I L) (fun q8 => if (b2i q8.1) = 0 then some (false, q8.2.1, q8.2.2) else F q8) := by
  unfold CCf
  cases f_X5_scan I L with
  | none => rfl
  | some q6 =>
    rw [obs, obs]
    cases f_X5_readCycle q6.1 q6.2 with
    | none => rfl
    | some q7 =>
      rw [obs, obs]
      by_cases g : (b2i q7.1) = 0
      · rw [if_pos g, if_pos g, obs, if_pos b2i_f]
      · rw [if_neg g, if_neg g]
theorem bad_readsMove_10 {c w : Nat} {fb : Nat} {v : Int32} (h : BAD J c w m) : f_X8_readsMove_10 (fb + 1) v J M = some (J, M) := by
  rw [f_X8_readsMove_10, ob (bad_isSign h _), if_pos b2i_f]
theorem bad_readsCycle {c w : Nat} {v : Int32} (h : BAD J c w m) : f_X8_readsCycle v J M = some (v, J, M) := by
  unfold f_X8_readsCycle
  rw [ob (bad_isSign h _), ob (bad_must h _ _)]
  dsimp only
  rw [ob (bad_goesOn h)]
  dsimp only
  rw [show FU = 999999999 + 1 from rfl, f_X8_readsCycle_22, ob (bad_good h), if_pos b2i_f, ob (bad_good h), if_pos b2i_f, ob (bad_isSign h _), ob (bad_must h _ _)]
  dsimp only
  rw [ob (bad_goesOn h)]
theorem bad_readsItem {c w : Nat} (h : BAD J c w m) : f_X8_readsItem J M = some (J, M) := by
  obtain ⟨r, hr⟩ := bad_name (M := M) h
  unfold f_X8_readsItem
  rw [ob (bad_isName h), ob (bad_must h _ _)]
  dsimp only
  rw [ob hr, bnd_eq]
  split
  · dsimp only
    rw [ob (bad_must h _ _)]
    dsimp only
    rw [ob (bad_good h), if_pos b2i_f]
  · dsimp only
    rw [ob (bad_must h _ _)]
    dsimp only
    rw [ob (bad_good h), if_pos b2i_f]
theorem cycles_loop (hP : PU b last n m mv ns ne) : ∀ d fa fb s e k c u p I L J M, last - s ≤ d → d < fa → d + 1 < fb → c ≤ s → TkE b last s e k → CSt b last I L s e k n m mv ns ne → RSt b last J M s e k n m mv ns ne → IsP n p → UP n u p → I 1 13 = nI u → L 1 12 = tn n p → Row J 48 0 p → BO b last n m mv ns ne I L J M s (f_X5_readCycles_18 fa (nI c) I L) (f_X8_readsMove_10 fb (nI u) J M) := by
  intro d
  have hl := hP.1
  have stop : ∀ fa fb s e k c u p I L J M, c ≤ s → k ≠ 40 → TkE b last s e k → CSt b last I L s e k n m mv ns ne → RSt b last J M s e k n m mv ns ne → IsP n p → L 1 12 = tn n p → Row J 48 0 p → BO b last n m mv ns ne I L J M s (f_X5_readCycles_18 (fa + 1) (nI c) I L) (f_X8_readsMove_10 (fb + 1) (nI u) J M) := by
    intro fa fb s e k c u p I L J M hc hk hT hC hR hp h12 h48
    obtain ⟨i, hT'⟩ := id hT
    have hlt := Tok_lt hT'
    have sg : f_X8_isSign 40 J M = some false := by
      have := isSign_eq (g := 40) (M := M) (by decide) hl hR.2.2.2.1 hR.1 hR.2.1 hR.2.2.1 hT'
      rw [decide_eq_false hk] at this
      exact this
    rw [f_X5_readCycles_18, if_neg (by rw [show (400 : Int32) = nI 400 from rfl, q_lt (by decide) (by omega)]; omega), hC.2.2.1.2.2.1, if_neg (by rw [show (40 : Int32) = nI 40 from rfl, q_eq (by omega) (by decide)]; exact hk), f_X8_readsMove_10, ob sg, if_pos b2i_f]
    exact Or.inr (Or.inr ⟨s, e, k, p, I, L, J, M, Nat.le_refl _, hT, rfl, hC, hp, h12, FB1.refl, rfl, hR, h48, FB2.refl⟩)
  induction d with
  | zero =>
    intro fa fb s e k c u p I L J M hd hfa hfb hc hT hC hR hp hU h13 h12 h48
    obtain ⟨fa, rfl⟩ : ∃ x, fa = x + 1 := ⟨fa - 1, by omega⟩
    obtain ⟨fb, rfl⟩ : ∃ x, fb = x + 1 := ⟨fb - 1, by omega⟩
    obtain ⟨i, hT'⟩ := id hT
    have hlt := Tok_lt hT'
    refine stop fa fb s e k c u p I L J M hc (fun g => ?_) hT hC hR hp h12 h48
    have := hlt.2.2.2.1 (by omega)
    omega
  | succ d ih =>
    intro fa fb s e k c u p I L J M hd hfa hfb hc hT hC hR hp hU h13 h12 h48
    obtain ⟨fa, rfl⟩ : ∃ x, fa = x + 1 := ⟨fa - 1, by omega⟩
    obtain ⟨fb, rfl⟩ : ∃ x, fb = x + 1 := ⟨fb - 1, by omega⟩
    by_cases hk : k = 40
    · obtain ⟨i, hT'⟩ := id hT
      have hlt := Tok_lt hT'
      have sle := hlt.2.2.2.1 (by omega)
      have sg : f_X8_isSign 40 J M = some true := by
        have := isSign_eq (g := 40) (M := M) (by decide) hl hR.2.2.2.1 hR.1 hR.2.1 hR.2.2.1 hT'
        rw [decide_eq_true hk] at this
        exact this
      rw [f_X5_readCycles_18, if_neg (by rw [show (400 : Int32) = nI 400 from rfl, q_lt (by decide) (by omega)]; omega), hC.2.2.1.2.2.1, if_pos (by rw [hk]; rfl), CC_eq, f_X8_readsMove_10, ob sg, if_neg b2i_t]
      rcases cyc_both hP hk hT hC hR hp hU h13 h12 h48 with ⟨c', w, ⟨I2, L2, a1, a2⟩, r, J2, M2, b1, b2, b3⟩ | ⟨s', e', k', p', u', I2, L2, J2, M2, a1, a2, a3, a4, a5, a6, a7, a8, a9, a10, a11, a12, a13⟩
      · refine Or.inl ⟨c', w, ⟨I2, L2, ?_, a2⟩, ⟨J2, M2, ?_, b2, b3⟩⟩
        · rw [ob a1]
          dsimp only
          rw [if_pos b2i_f]
        · rw [ob b1, bnd_eq]
          obtain ⟨fb, rfl⟩ : ∃ x, fb = x + 1 := ⟨fb - 1, by omega⟩
          exact bad_readsMove_10 b2
      · rw [ob a3, ob a10, bnd_eq]
        dsimp only
        rw [if_neg b2i_t, bnd_eq, nI_1]
        exact (ih fa fb s' e' k' (c + 1) u' p' I2 L2 J2 M2 (by omega) (by omega) (by omega) (by omega) a2 a4 a11 a5 a6 a7 a8 a12).tr a9 a13 (by omega)
    · exact stop fa fb s e k c u p I L J M hc hk hT hC hR hp h12 h48
theorem move_both (hP : PU b last n m mv ns ne) (hT : TkE b last s e k) (hC : CSt b last I L s e k n m mv ns ne) (hR : RSt b last J M s e k n m mv ns ne) (h12 : L 1 12 = tn n idp) (h48 : Row J 48 0 idp) : BO b last n m mv ns ne I L J M s (f_X5_readCycles I L) (Option.bind (f_X8_readsCycle 0 J M) (fun q_2 => bnd (q_2.1 : Int32) (fun v1_3 => f_X8_readsMove_10 FU v1_3 q_2.2.1 q_2.2.2))) := by
  obtain ⟨i, hT'⟩ := id hT
  have hlt := Tok_lt hT'
  have hl := hP.1
  have fu : FU = 999999999 + 1 := rfl
  have C1 : CSt b last (up2 I 1 13 0) L s e k n m mv ns ne := hC.fo
  have f0 : FB1 I L (up2 I 1 13 0) L := FB1_o (S := [13]) (Fo_up (by decide))
  have z0 : (0 : Int32) = nI 0 := rfl
  have tz0 : ∀ j, (0 : Nat).testBit j = false := fun j => Nat.zero_testBit j
  unfold f_X5_readCycles
  rw [bnd_eq]
  by_cases hk : k = 40
  · have nd : f_X5_need 40 (up2 I 1 13 0) L = some (true, up2 I 1 13 0, L) := need_t C1 hk
    have sle := hlt.2.2.2.1 (by omega)
    rw [ob nd]
    dsimp only
    rw [if_neg b2i_t]
    have st1 : f_X5_readCycles_18 FU 0 (up2 I 1 13 0) L = Option.bind (CCf (up2 I 1 13 0) L) (fun q8 => if (b2i q8.1) = 0 then some (false, q8.2.1, q8.2.2) else f_X5_readCycles_18 999999999 (nI 1) q8.2.1 q8.2.2) := by
      rw [fu, f_X5_readCycles_18, if_neg (by decide), C1.2.2.1.2.2.1, if_pos (by rw [hk]; rfl), CC_eq]
      rfl
    rw [st1]
    rcases cyc_both (u := 0) (p := idp) hP hk hT C1 hR (IsP_id n) ⟨Nat.two_pow_pos n, fun j _ => rfl⟩ up2_s h12 h48 with ⟨c', w, ⟨I2, L2, a1, a2, a2', a2'', a2c⟩, r, J2, M2, b1, b2, b3⟩ | ⟨s', e', k', p', u', I2, L2, J2, M2, a1, a2, a3, a4, a5, a6, a7, a8, a9, a10, a11, a12, a13⟩
    · have b1 : f_X8_readsCycle 0 J M = some (r, J2, M2) := b1
      refine Or.inl ⟨c', w, ⟨I2, L2, ?_, a2, a2', a2'', f0.fc.trans a2c⟩, ⟨J2, M2, ?_, b2, b3⟩⟩
      · rw [ob a1]
        dsimp only
        rw [if_pos b2i_f]
      · rw [ob b1, bnd_eq]
        exact bad_readsMove_10 b2
    · have a10 : f_X8_readsCycle 0 J M = some (nI u', J2, M2) := a10
      rw [ob a3, ob a10, bnd_eq]
      dsimp only
      rw [if_neg b2i_t]
      exact (cycles_loop hP 400 999999999 FU s' e' k' 1 u' p' I2 L2 J2 M2 (by omega) (by decide) (by rw [fu]; decide) (by omega) a2 a4 a11 a5 a6 a7 a8 a12).tr (f0.trans a9) a13 (by omega)
  · obtain ⟨I1, x1, x2, x3, x4, x5⟩ := need_f (a := 40) C1 hk (by omega) (by decide)
    have x1 : f_X5_need 40 (up2 I 1 13 0) L = some (false, I1, L) := x1
    obtain ⟨J2, v1, v2, v3⟩ := must_f (a := 2) hP hR (by omega) (by decide) (by decide)
    have v1 : f_X8_must false 2 J M = some (J2, M) := v1
    have sg : f_X8_isSign 40 J M = some false := by
      have := isSign_eq (g := 40) (M := M) (by decide) hl hR.2.2.2.1 hR.1 hR.2.1 hR.2.2.1 hT'
      rw [decide_eq_false hk] at this
      exact this
    have rc : f_X8_readsCycle 0 J M = some (0, J2, M) := by
      unfold f_X8_readsCycle
      rw [ob sg, ob v1]
      dsimp only
      rw [ob (bad_goesOn v2)]
      dsimp only
      rw [fu, f_X8_readsCycle_22, ob (bad_good v2), if_pos b2i_f, ob (bad_good v2), if_pos b2i_f, ob (bad_isSign v2 _), ob (bad_must v2 _ _)]
      dsimp only
      rw [ob (bad_goesOn v2)]
    refine Or.inl ⟨mc 2 k, s, ⟨I1, L, ?_, x2, x3, x4, f0.fc.trans x5⟩, ⟨J2, M, ?_, v2, v3⟩⟩
    · rw [ob x1]
      dsimp only
      rw [if_pos b2i_f]
    · rw [ob rc, bnd_eq]
      exact bad_readsMove_10 v2
/-- what the reference does behind a move -/
def J81 (I_10 : MI) (L_11 : ML) : Option Mm := Option.bind (f_X8_good I_10 L_11) (fun q_12 => bnd ((fun (I_14 : MI) (L_15 : ML) => Option.bind (f_X8_good I_14 L_15) (fun q_16 => if (b2i q_16) = 0 then bnd (up2 I_14 43 41 ((I_14 43 41) + 0)) (fun I_17 => some (I_17, L_15)) else bnd (up2 I_14 43 41 ((I_14 43 41) + 1)) (fun I_18 => some (I_18, L_15)))) : MI → ML → Option Mm) (fun j107_412 => if (b2i q_12) = 0 then (j107_412 I_10 L_11) else Option.bind (f_X8_copies 48 10 0 68 60 (10 * (I_10 43 41)) I_10 L_11) (fun q_13 => (j107_412 q_13.1 q_13.2))))
theorem J81_bad {c w : Nat} (h : BAD J c w m) : ∃ J', J81 J M = some (J', M) ∧ BAD J' c w m ∧ FRf J M J' M := by
  refine ⟨up2 J 43 41 (J 43 41 + 0), ?_, h.fr (up2_n (by decide)) (up2_n (by decide)) (by rw [up2_s, h.2.2.2.2.1]; exact Int32.add_zero _) h.2.2.2.2.2, FRf_o (S := [41]) (Fo_up (by decide)) (by decide) (fun _ _ => rfl)⟩
  unfold J81
  rw [ob (bad_good h), bnd_eq, if_pos b2i_f]
  dsimp only
  rw [ob (bad_good h), if_pos b2i_f, bnd_eq]
theorem J81_ok (h33 : J 43 33 = 0) (h41 : J 43 41 = nI m) (hm : m < 6) : J81 J M = some (up2 (wr J 68 (10 * m) 10 (fun j => J 48 j)) 43 41 (nI (m + 1)), M) := by
  have cpy : f_X8_copies 48 10 0 68 60 (10 * nI m) J M = some (wr J 68 (10 * m) 10 (fun j => J 48 (0 + j)), M) := by
    rw [show (10 : Int32) = nI 10 from rfl, pk_mul, show (0 : Int32) = nI 0 from rfl]
    exact copies_eq (by decide) (by decide) (by omega) (by decide) (by decide)
  have e0 : (fun j => J 48 (0 + j)) = (fun j => J 48 j) := by funext j; rw [Nat.zero_add]
  rw [e0] at cpy
  have w43 : wr J 68 (10 * m) 10 (fun j => J 48 j) 43 = J 43 := wr_ne (by decide)
  unfold J81
  rw [ob (good_t h33), bnd_eq, if_neg b2i_t, h41, ob cpy]
  dsimp only
  rw [ob (good_t (by rw [w43]; exact h33)), if_neg b2i_t, w43, h41, nI_1, bnd_eq]
theorem line_eq {w0 w1 w2 : Bool} (h33 : J 43 33 = 0) (h40 : J 43 40 = nI n) (hn : n ≤ 10) (h0 : f_X8_isWord 237742039 J M = some w0) (h1 : f_X8_isWord 267413 J M = some w1) (h2 : f_X8_isWord 464134 J M = some w2) : (w0 = true → f_X8_line J M = Option.bind (f_X8_readsPoints J M) (fun q_19 => some (q_19.1, q_19.2))) ∧ (w0 = false → (w1 || w2) = true → n ≠ 0 → f_X8_line J M = Option.bind (if w1 = true then f_X8_readsMove J M else f_X8_readsWord J M) (fun q => J81 q.1 q.2)) ∧ (w0 = false → ((w1 || w2) = false ∨ n = 0) → ∀ (J1 : MI) (c w : Nat), f_X8_must false 2 J M = some (J1, M) → BAD J1 c w m → f_X8_line J M = some (J1, M)) := by
  have n0 : (J 43 40 ≤ 0) = (n = 0) := by
    rw [h40, show (0 : Int32) = nI 0 from rfl, q_le (by omega) (by decide)]
    exact propext (by omega)
  unfold f_X8_line
  rw [ob h0]
  refine ⟨fun e => ?_, fun e e1 en => ?_, fun e e1 J1 c w hm hb => ?_⟩
  · rw [e, if_neg b2i_t]
  · rw [e, if_pos b2i_f, ob h1, bnd_eq, bnd_eq, bnd_eq, ifc n0, if_neg en]
    have tr : Option.bind (f_X8_must true 2 J M) (fun q_5 => Option.bind (f_X8_good q_5.1 q_5.2) (fun q_6 => if (b2i q_6) = 0 then some (q_5.1, q_5.2) else Option.bind (f_X8_isWord 267413 q_5.1 q_5.2) (fun q_7 => bnd ((fun (I_10 : MI) (L_11 : ML) => J81 I_10 L_11) : MI → ML → Option Mm) (fun j81_411 => if (b2i q_7) = 0 then Option.bind (f_X8_readsWord q_5.1 q_5.2) (fun q_8 => (j81_411 q_8.1 q_8.2)) else Option.bind (f_X8_readsMove q_5.1 q_5.2) (fun q_9 => (j81_411 q_9.1 q_9.2)))))) = Option.bind (if w1 = true then f_X8_readsMove J M else f_X8_readsWord J M) (fun q => J81 q.1 q.2) := by
      rw [ob (must_t 2)]
      dsimp only
      rw [ob (good_t h33), if_neg b2i_t, ob h1, bnd_eq]
      cases w1
      · rw [if_pos b2i_f, if_neg (by decide)]
      · rw [if_neg b2i_t, if_pos rfl]
    cases w1
    · rw [if_pos b2i_f, ob h2]
      cases w2
      · cases e1
      · rw [if_neg b2i_t]; exact tr
    · rw [if_neg b2i_t]; exact tr
  · rw [e, if_pos b2i_f, ob h1, bnd_eq, bnd_eq, bnd_eq, ifc n0]
    have fl : Option.bind (f_X8_must false 2 J M) (fun q_5 => Option.bind (f_X8_good q_5.1 q_5.2) (fun q_6 => if (b2i q_6) = 0 then some (q_5.1, q_5.2) else Option.bind (f_X8_isWord 267413 q_5.1 q_5.2) (fun q_7 => bnd ((fun (I_10 : MI) (L_11 : ML) => J81 I_10 L_11) : MI → ML → Option Mm) (fun j81_411 => if (b2i q_7) = 0 then Option.bind (f_X8_readsWord q_5.1 q_5.2) (fun q_8 => (j81_411 q_8.1 q_8.2)) else Option.bind (f_X8_readsMove q_5.1 q_5.2) (fun q_9 => (j81_411 q_9.1 q_9.2)))))) = some (J1, M) := by
      rw [ob hm]
      dsimp only
      rw [ob (bad_good hb), if_pos b2i_f]
    cases w1
    · rw [if_pos b2i_f, ob h2]
      cases w2
      · rw [if_pos b2i_f]; exact fl
      · rw [if_neg b2i_t]
        rcases e1 with e1 | e1
        · cases e1
        · rw [if_pos e1]; exact fl
    · rw [if_neg b2i_t]
      rcases e1 with e1 | e1
      · cases e1
      · rw [if_pos e1]; exact fl
end LL
