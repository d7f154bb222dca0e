section LC3
variable {b : Nat → Int32} {last i s e k n m : Nat} {mv : Nat → Nat → Nat} {ns ne : Nat → Nat} {I J I' J' : MI} {L M L' M' : ML} {p : Nat → Nat}
theorem cy_loop {a : Nat} {v1 : Int32} (hP : PU b last n m mv ns ne) (k0 k1 : MI → ML → Option (Bool × Mm)) (k2 : Int32 → MI → ML → Option (Bool × Mm)) (kr : Int32 → Int32 → Int32 → MI → ML → Option (Int32 × Mm)) : ∀ d fa fb s e k c u z g I L J M, last - s ≤ d → d < fa → d + 1 < fb → c ≤ s → TkE b last s e k → CSt b last I L s e k n m mv ns ne → RSt b last J M s e k n m mv ns ne → Cy n u a z g → I 1 13 = nI u → L 1 12 = tz (cn n (us g z z)) → Row J 48 0 (us g z z) →
    (∃ c' w I' L' r J' M' e' k', ((c' = 3 ∧ f_X5_readCycle_19 v1 k0 k1 k2 fa (nI z) (nI c) I L = k0 I' L') ∨ (c' = 4 ∧ f_X5_readCycle_19 v1 k0 k1 k2 fa (nI z) (nI c) I L = k1 I' L')) ∧ CSt b last I' L' w e' k' n m mv ns ne ∧ FB1 I L I' L' ∧ f_X8_readsCycle_22 kr fb (nI u) (nI a) (nI z) J M = some (r, J', M') ∧ BAD J' c' w m ∧ FRf J M J' M') ∨
    (∃ s' e' k' u' z' g' I' L' J' M', s ≤ s' ∧ TkE b last s' e' k' ∧ f_X5_readCycle_19 v1 k0 k1 k2 fa (nI z) (nI c) I L = k2 (nI z') I' L' ∧ CSt b last I' L' s' e' k' n m mv ns ne ∧ Cy n u' a z' g' ∧ I' 1 13 = nI u' ∧ L' 1 12 = tz (cn n (us g' z' z')) ∧ FB1 I L I' L' ∧ f_X8_readsCycle_22 kr fb (nI u) (nI a) (nI z) J M = kr (nI u') (nI a) (nI z') J' M' ∧ RSt b last J' M' s' e' k' n m mv ns ne ∧ Row J' 48 0 (us g' z' z') ∧ FB2 J M J' M') := by
  intro d
  have hl := hP.1
  have hn := hP.2.1
  have stop : ∀ fa fb s e k c u z g I L J M, c ≤ s → k ≠ 2 → TkE b last s e k → CSt b last I L s e k n m mv ns ne → RSt b last J M s e k n m mv ns ne → Cy n u a z g → I 1 13 = nI u → L 1 12 = tz (cn n (us g z z)) → Row J 48 0 (us g z z) →
      (∃ s' e' k' u' z' g' I' L' J' M', s ≤ s' ∧ TkE b last s' e' k' ∧ f_X5_readCycle_19 v1 k0 k1 k2 (fa + 1) (nI z) (nI c) I L = k2 (nI z') I' L' ∧ CSt b last I' L' s' e' k' n m mv ns ne ∧ Cy n u' a z' g' ∧ I' 1 13 = nI u' ∧ L' 1 12 = tz (cn n (us g' z' z')) ∧ FB1 I L I' L' ∧ f_X8_readsCycle_22 kr (fb + 1) (nI u) (nI a) (nI z) J M = kr (nI u') (nI a) (nI z') J' M' ∧ RSt b last J' M' s' e' k' n m mv ns ne ∧ Row J' 48 0 (us g' z' z') ∧ FB2 J M J' M') := by
    intro fa fb s e k c u z g I L J M hc hk2 hT hC hR hY h13 h12 h48
    obtain ⟨i, hT'⟩ := id hT
    have hlt := Tok_lt hT'
    have ea : ¬ nI a = -1 := nI_nm1 (by have := hY.2.2.2.1; omega)
    have e37 : ¬ J 43 37 = 2 := by
      rw [hR.2.2.1.2.2.1, show (2 : Int32) = nI 2 from rfl, q_eq (by unfold ts; split <;> (try split) <;> omega) (by decide)]
      unfold ts
      split
      · exact hk2
      · split <;> omega
    refine ⟨s, e, k, u, z, g, I, L, J, M, Nat.le_refl _, hT, ?_, hC, hY, h13, h12, FB1.refl, ?_, hR, h48, FB2.refl⟩
    · rw [f_X5_readCycle_19, if_neg (by rw [show (400 : Int32) = nI 400 from rfl, q_lt (by decide) (by omega)]; omega), hC.2.2.1.2.2.1, if_neg (by rw [show (2 : Int32) = nI 2 from rfl, q_eq (by omega) (by decide)]; exact hk2)]
    · rw [f_X8_readsCycle_22, ob (good_t hR.2.2.2.1), if_neg b2i_t, bnd_eq, if_neg ea, if_neg e37]
  induction d with
  | zero =>
    intro fa fb s e k c u z g I L J M hd hfa hfb hc hT hC hR hY h13 h12 h48
    obtain ⟨fa, rfl⟩ : ∃ x, fa = x + 1 := ⟨fa - 1, by omega⟩
    obtain ⟨fb, rfl⟩ : ∃ x, fb = x + 1 := ⟨fb - 1, by omega⟩
    obtain ⟨i, hT'⟩ := id hT
    have hlt := Tok_lt hT'
    refine Or.inr (stop fa fb s e k c u z g I L J M hc (fun g => ?_) hT hC hR hY h13 h12 h48)
    have := hlt.2.2.2.1 (by omega)
    omega
  | succ d ih =>
    intro fa fb s e k c u z g I L J M hd hfa hfb hc hT hC hR hY h13 h12 h48
    obtain ⟨fa, rfl⟩ : ∃ x, fa = x + 1 := ⟨fa - 1, by omega⟩
    obtain ⟨fb, rfl⟩ : ∃ x, fb = x + 1 := ⟨fb - 1, by omega⟩
    by_cases hk2 : k = 2
    · obtain ⟨i, hT'⟩ := id hT
      have hlt := Tok_lt hT'
      have sle := hlt.2.2.2.1 (by omega)
      have nx := nv_le (by rw [hk2] at hT'; exact hT')
      have x6 : I 1 6 = nI (nv b s (e - s)) := hC.2.2.1.2.2.2 hk2
      have x38 : J 43 38 = nI (nv b s (e - s)) := hR.2.2.1.2.2.2.1 hk2
      have hu10 : u < 2 ^ 10 := by
        have h1 := hY.2.2.2.2.1
        have h2 : 2 ^ n ≤ 2 ^ 10 := Nat.pow_le_pow_right (by decide) hn
        omega
      rw [f_X5_readCycle_19, if_neg (by rw [show (400 : Int32) = nI 400 from rfl, q_lt (by decide) (by omega)]; omega), hC.2.2.1.2.2.1, if_pos (by rw [hk2]; rfl), x6, hC.2.2.2.2.2.2.1, h13]
      generalize nv b s (e - s) = x at nx x6 x38
      have exn : (nI x < nI n) = (x < n) := q_lt (by omega) (by omega)
      rw [ifc exn]
      by_cases hxn : x < n
      · rw [if_pos hxn, ifc (q_bit0 (by omega) (by omega))]
        obtain ⟨rk1, rk2⟩ := rcy_ok (v3 := nI a) (v4 := nI z) (fb := fb) (kr := kr) hP hk2 hR x38 hxn hu10
        cases hb : u.testBit x
        · have rk2 := rk2 hb
          obtain ⟨Y1, Y2⟩ := Cy_s hY hxn hb
          have hz := hY.2.2.1
          rw [if_neg (nI_nm1 (by have := hY.2.2.2.1; omega)), q_chk (by omega) (by decide), q_ix (by omega), bnd_eq, up2_ne (by decide), x38, bnd_eq] at rk2
          rw [if_pos rfl, q_shl1 (by omega), q_or, bnd_eq, if_neg (nI_nm1 (by omega)), up2_n (by decide), x6, h12, ob (with_any (cn_u16 hn hY.1 hz) (by omega) (by omega)), bnd_eq, bnd_eq]
          obtain ⟨s1, e1, k1', hT1⟩ := Tok_ex (b := b) (i := e) (last := last) (by omega)
          have hlt1 := Tok_lt hT1
          have C1 : CSt b last (up2 I 1 13 (nI (u ||| 2 ^ x))) (up2 L 1 12 (tz (us (cn n (us g z z)) z x))) s e k n m mv ns ne := hC.fo.frL (up2_ne (by decide))
          obtain ⟨I1, x1, x2, x3⟩ := cstep hP C1 hT1
          have R1 : RSt b last (up2 J 48 z (nI x)) M s e k n m mv ns ne := hR.fr (up2_ne (by decide)) (up2_ne (by decide)) (up2_ne (by decide))
          obtain ⟨J1, M1, y1, y2, y3, y4⟩ := rstep hP R1 (by omega) hT1
          have fb1 : FB1 I L I1 (up2 L 1 12 (tz (us (cn n (us g z z)) z x))) := ((FB1_o (S := [13]) (Fo_up (by decide))).trans FB1_l).trans (FB1_o x3)
          have fb2 : FB2 J M J1 M1 := FB2.trans (FB2_f (S := [48]) (fun q hq => up2_ne (fun g => hq (by rw [g]; decide))) (by decide)) (FB2_o y3 (by decide) y4)
          rw [ob x1, bnd_eq, nI_1]
          rw [ob y1] at rk2
          dsimp only at rk2 ⊢
          have h13' : I1 1 13 = nI (u ||| 2 ^ x) := by rw [x3.2 13 (by decide), up2_s]
          have h12' : up2 L 1 12 (tz (us (cn n (us g z z)) z x)) 1 12 = tz (cn n (us (cp g (swp a x)) x x)) := by rw [up2_s, ← cn_us hz, Y2]
          have h48' : Row J1 48 0 (us (cp g (swp a x)) x x) := by rw [← Y2]; exact Row_of (y3.1 48 (by decide)) (Row_us h48)
          rw [rk2]
          rcases ih fa fb s1 e1 k1' (c + 1) (u ||| 2 ^ x) x (cp g (swp a x)) I1 _ J1 M1 (by omega) (by omega) (by omega) (by omega) ⟨e, hT1⟩ x2 y2 Y1 h13' h12' h48' with ⟨c', w, I', L', r, J', M', e', k', a1, a2, a3, a4, a5, a6⟩ | ⟨s', e', k', u', z', g', I', L', J', M', a1, a2, a3, a4, a5, a6, a7, a8, a9, a10, a11, a12⟩
          · exact Or.inl ⟨c', w, I', L', r, J', M', e', k', a1, a2, fb1.trans a3, a4, a5, fb2.fr.trans a6⟩
          · exact Or.inr ⟨s', e', k', u', z', g', I', L', J', M', by omega, a2, a3, a4, a5, a6, a7, fb1.trans a8, a9, a10, a11, fb2.trans a12⟩
        · rw [if_neg (by decide)]
          obtain ⟨r, J1, r1, r2, r3⟩ := rk1 hb
          exact Or.inl ⟨4, s, I, L, r, J1, M, e, k, Or.inr ⟨rfl, rfl⟩, hC, FB1.refl, r1, r2, r3⟩
      · rw [if_neg hxn]
        obtain ⟨r, J1, r1, r2, r3⟩ := rcy_3 (v3 := nI a) (v4 := nI z) (fb := fb) (kr := kr) (u := u) hP hk2 hR x38 (by omega) (by omega)
        exact Or.inl ⟨3, s, I, L, r, J1, M, e, k, Or.inl ⟨rfl, rfl⟩, hC, FB1.refl, r1, r2, r3⟩
    · exact Or.inr (stop fa fb s e k c u z g I L J M hc hk2 hT hC hR hY h13 h12 h48)
def CCf (I : MI) (L : ML) : Option (Bool × Mm) := Option.bind (f_X5_scan I L) (fun q6 => Option.bind (f_X5_readCycle q6.1 q6.2) (fun q7 => if (b2i q7.1) = 0 then some (false, q7.2.1, q7.2.2) else f_X5_readSign 41 q7.2.1 q7.2.2))
theorem tail3 {α β γ δ : Type} {x : Option α} {f : α → Option β} {g : β → Option γ} {F : γ → Option δ} {y : γ} (h : Option.bind x (fun q => Option.bind (f q) (fun q2 => g q2)) = some y) : Option.bind x (fun q => Option.bind (f q) (fun q2 => Option.bind (g q2) F)) = F y := by
  cases x with
  | none => cases h
  | some a =>
    have h : Option.bind (f a) (fun q2 => g q2) = some y := h
    show Option.bind (f a) (fun q2 => Option.bind (g q2) F) = F y
    cases hf : f a with
    | none => rw [hf] at h; cases h
    | some c =>
      rw [hf] at h
      have h : g c = some y := h
      show Option.bind (g c) F = F y
      rw [h]; rfl
/-- a cycle, from its bracket on -/
theorem cyc_both {u : Nat} (hP : PU b last n m mv ns ne) (hk : k = 40) (hT : TkE b last s e k) (hC : CSt b last I L s e k n m mv ns ne) (hR : RSt b last J M s e k n m mv ns ne) (hp : IsP n p) (hU : UP n u p) (h13 : I 1 13 = nI u) (h12 : L 1 12 = tn n p) (h48 : Row J 48 0 p) :
    (∃ c w, CFl I L (CCf I L) c w ∧ ∃ r J' M', f_X8_readsCycle (nI u) J M = some (r, J', M') ∧ BAD J' c w m ∧ FRf J M J' M') ∨
    (∃ s' e' k' p' u' I' L' J' M', e ≤ s' ∧ TkE b last s' e' k' ∧ CCf I L = some (true, I', L') ∧ CSt b last I' L' s' e' k' n m mv ns ne ∧ IsP n p' ∧ UP n u' p' ∧ I' 1 13 = nI u' ∧ L' 1 12 = tn n p' ∧ FB1 I L I' L' ∧ f_X8_readsCycle (nI u) J M = some (nI u', J', M') ∧ RSt b last J' M' s' e' k' n m mv ns ne ∧ Row J' 48 0 p' ∧ FB2 J M J' M') := by
  obtain ⟨i, hT'⟩ := id hT
  have hlt := Tok_lt hT'
  have hl := hP.1
  have hn := hP.2.1
  have fu : FU = 999999999 + 1 := rfl
  have hu10 : u < 2 ^ 10 := by
    have h1 := hU.1
    have h2 : 2 ^ n ≤ 2 ^ 10 := Nat.pow_le_pow_right (by decide) hn
    omega
  have sg : f_X8_isSign 40 J M = some true := by
    have := isSign_eq (g := 40) (M := M) (by decide) hl hR.2.2.2.1 hR.1 hR.2.1 hR.2.2.1 hT'
    rw [decide_eq_true hk] at this
    exact this
  obtain ⟨s1, e1, k1, hT1⟩ := Tok_ex (b := b) (i := e) (last := last) (by omega)
  have hlt1 := Tok_lt hT1
  obtain ⟨I1, x1, x2, x3⟩ := cstep hP hC hT1
  obtain ⟨J1, M1, y1, y2, y3, y4⟩ := goesOn_t hP hR (by omega) hT1
  have fb1 : FB1 I L I1 L := FB1_o x3
  have fb2 : FB2 J M J1 M1 := FB2_o y3 (by decide) y4
  have h13a : I1 1 13 = nI u := by rw [x3.2 13 (by decide)]; exact h13
  have h48a : Row J1 48 0 p := Row_of (y3.1 48 (by decide)) h48
  unfold CCf f_X8_readsCycle
  rw [ob x1, ob sg, ob (must_t 2)]
  dsimp only
  rw [ob y1]
  dsimp only
  generalize hkr : (fun (v2_25 : Int32) (v3_26 : Int32) (v4_27 : Int32) (I_28 : MI) (L_29 : ML) => (_ : Option (Int32 × Mm))) = kr
  by_cases hk2 : k1 = 2
  · have nd : f_X5_need 2 I1 L = some (true, I1, L) := need_t x2 hk2
    have nx := nv_le (by rw [hk2] at hT1; exact hT1)
    have x6 : I1 1 6 = nI (nv b s1 (e1 - s1)) := x2.2.2.1.2.2.2 hk2
    have x38 : J1 43 38 = nI (nv b s1 (e1 - s1)) := y2.2.2.1.2.2.2.1 hk2
    have sle := hlt1.2.2.2.1 (by omega)
    unfold f_X5_readCycle
    rw [ob nd]
    dsimp only
    rw [if_neg b2i_t, x6]
    generalize nv b s1 (e1 - s1) = x at nx x6 x38
    rw [bnd_eq]
    generalize hk0 : (fun (I_17 : MI) (L_18 : ML) => Option.bind (f_X5_fail 3 I_17 L_18) (fun q_19 => some (q_19.1, q_19.2.1, q_19.2.2))) = k0
    generalize hk1 : (fun (I_20 : MI) (L_21 : ML) => Option.bind (f_X5_fail 4 I_20 L_21) (fun q_22 => some (q_22.1, q_22.2.1, q_22.2.2))) = k1c
    generalize hk2c : (fun (v2_23 : Int32) (I_24 : MI) (L_25 : ML) => Option.bind (f_X6_with (L_25 1 12) v2_23 (nI x)) (fun q_26 => bnd (up2 L_25 1 12 q_26) (fun L_27 => some (true, I_24, L_27)))) = k2c
    have k0f : ∀ {I' : MI} {L' : ML} {w e' k' : Nat}, CSt b last I' L' w e' k' n m mv ns ne → FB1 I1 L I' L' → CFl I L (Option.bind (k0 I' L') (fun q7 => if (b2i q7.1) = 0 then some (false, q7.2.1, q7.2.2) else f_X5_readSign 41 q7.2.1 q7.2.2)) 3 w := fun {I' L' w e' k'} hc hf => by
      obtain ⟨I3, u1, u2, u3, u4, u5⟩ := fail_eq (a := 3) hc
      have u1 : f_X5_fail 3 I' L' = some (false, I3, L') := u1
      refine ⟨I3, L', ?_, u2, u3, u4, (fb1.trans hf).fc.trans u5⟩
      rw [← hk0]
      dsimp only
      rw [ob u1, obs]
      dsimp only
      rw [if_pos b2i_f]
    have k1f : ∀ {I' : MI} {L' : ML} {w e' k' : Nat}, CSt b last I' L' w e' k' n m mv ns ne → FB1 I1 L I' L' → CFl I L (Option.bind (k1c I' L') (fun q7 => if (b2i q7.1) = 0 then some (false, q7.2.1, q7.2.2) else f_X5_readSign 41 q7.2.1 q7.2.2)) 4 w := fun {I' L' w e' k'} hc hf => by
      obtain ⟨I3, u1, u2, u3, u4, u5⟩ := fail_eq (a := 4) hc
      have u1 : f_X5_fail 4 I' L' = some (false, I3, L') := u1
      refine ⟨I3, L', ?_, u2, u3, u4, (fb1.trans hf).fc.trans u5⟩
      rw [← hk1]
      dsimp only
      rw [ob u1, obs]
      dsimp only
      rw [if_pos b2i_f]
    have stepC : f_X5_readCycle_19 (nI x) k0 k1c k2c FU (-1) 0 I1 L = if x < n then (if u.testBit x = false then Option.bind (f_X5_scan (up2 I1 1 13 (nI (u ||| 2 ^ x))) L) (fun q_10 => f_X5_readCycle_19 (nI x) k0 k1c k2c 999999999 (nI x) (nI 1) q_10.1 q_10.2) else k1c I1 L) else k0 I1 L := by
      rw [fu, f_X5_readCycle_19, if_neg (by decide), x2.2.2.1.2.2.1, if_pos (by rw [hk2]; rfl), x6, x2.2.2.2.2.2.2.1, h13a]
      have exn : (nI x < nI n) = (x < n) := q_lt (by omega) (by omega)
      rw [ifc exn]
      by_cases hxn : x < n
      · rw [if_pos hxn, if_pos hxn, ifc (q_bit0 (by omega) (by omega))]
        by_cases hb : u.testBit x = false
        · rw [if_pos hb, if_pos hb, q_shl1 (by omega), q_or, bnd_eq, if_pos rfl, up2_n (by decide), x6, bnd_eq]
          rfl
        · rw [if_neg hb, if_neg hb]
      · rw [if_neg hxn, if_neg hxn]
    rw [stepC]
    by_cases hxn : x < n
    · rw [if_pos hxn]
      obtain ⟨rk1, rk2⟩ := rcy_ok (v3 := -1) (v4 := -1) (fb := 999999999) (kr := kr) hP hk2 y2 x38 hxn hu10
      cases hb : u.testBit x
      · have rk2 := rk2 hb
        rw [if_pos rfl] at rk2
        rw [if_pos rfl]
        obtain ⟨s2, e2, k2', hT2⟩ := Tok_ex (b := b) (i := e1) (last := last) (by omega)
        have hlt2 := Tok_lt hT2
        obtain ⟨I2, z1, z2, z3⟩ := cstep hP (x2.fo (v := nI (u ||| 2 ^ x))) hT2
        obtain ⟨J2, M2, w1, w2, w3, w4⟩ := rstep hP y2 (by omega) hT2
        rw [ob w1] at rk2
        dsimp only at rk2
        rw [ob z1]
        dsimp only
        have Y := Cy_0 hU hp hxn hb
        have upp : us p x x = p := by
          funext j
          unfold us
          by_cases c : j = x
          · rw [if_pos c, c, hU.2 x hb]
          · rw [if_neg c]
        have rk3 : f_X8_readsCycle_22 kr FU (nI u) (-1) (-1) J1 M1 = f_X8_readsCycle_22 kr 999999999 (nI (u ||| 2 ^ x)) (nI x) (nI x) J2 M2 := rk2
        rw [rk3]
        have g1 : FB1 I1 L I2 L := (FB1_o (S := [13]) (Fo_up (by decide))).trans (FB1_o z3)
        have g2 : FB2 J1 M1 J2 M2 := FB2_o w3 (by decide) w4
        rcases cy_loop (a := x) (v1 := nI x) hP k0 k1c k2c kr 400 999999999 999999999 s2 e2 k2' 1 (u ||| 2 ^ x) x p I2 L J2 M2 (by omega) (by decide) (by decide) (by omega) ⟨e1, hT2⟩ z2 w2 Y (by rw [z3.2 13 (by decide), up2_s]) (by rw [upp]; exact h12) (by rw [upp]; exact Row_of (w3.1 48 (by decide)) h48a) with ⟨c', w, I', L', r, J', M', e', k', a1, a2, a3, a4, a5, a6⟩ | ⟨s', e', k', u', z', g', I', L', J', M', a1, a2, a3, a4, a5, a6, a7, a8, a9, a10, a11, a12⟩
        · left
          refine ⟨c', w, ?_, r, J', M', a4, a5, ((fb2.trans g2).fr).trans a6⟩
          rcases a1 with ⟨rfl, a1⟩ | ⟨rfl, a1⟩
          · rw [a1]; exact k0f a2 (g1.trans a3)
          · rw [a1]; exact k1f a2 (g1.trans a3)
        · obtain ⟨E1, E2⟩ := Cy_e a5
          have hz' := a5.2.2.1
          have gP := a5.1
          have wth : f_X6_with (L' 1 12) (nI z') (nI x) = some (tn n g') := by
            rw [a7, with_any (cn_u16 hn gP hz') (by omega) (by omega), ← cn_us hz', E1]
            rfl
          rw [a3, ← hk2c]
          dsimp only
          rw [ob wth, bnd_eq, obs]
          dsimp only
          rw [if_neg b2i_t]
          rw [a9, ← hkr]
          dsimp only
          rw [ob (good_t a10.2.2.2.1), if_neg b2i_t, q_chk (by omega) (by decide), q_ix (by omega), bnd_eq]
          have C3 : CSt b last I' (up2 L' 1 12 (tn n g')) s' e' k' n m mv ns ne := a4.frL (up2_ne (by decide))
          have R3 : RSt b last (up2 J' 48 z' (nI x)) M' s' e' k' n m mv ns ne := a10.fr (up2_ne (by decide)) (up2_ne (by decide)) (up2_ne (by decide))
          have h48' : Row (up2 J' 48 z' (nI x)) 48 0 g' := by
            have := Row_us (z := z') (v := x) a11
            rw [E1] at this
            exact this
          have G1 : FB1 I L I' (up2 L' 1 12 (tn n g')) := (fb1.trans g1).trans (a8.trans FB1_l)
          have G2 : FB2 J M (up2 J' 48 z' (nI x)) M' := ((fb2.trans g2).trans a12).trans (FB2_f (S := [48]) (fun q hq => up2_ne (fun g => hq (by rw [g]; decide))) (by decide))
          rcases sign_both (g := 41) (by decide) hP a2 C3 R3 with ⟨hg, q1, ⟨J4, M4, q2, q3, q4⟩⟩ | ⟨hg, s4, e4, k4, I4, J4, M4, q1, q2, q3, q4, q5, q6, q7, q8⟩
          · left
            exact ⟨_, _, q1.tr G1.fc, nI u', J4, M4, tail3 q2, q3, G2.fr.trans q4⟩
          · right
            have hl4 := Tok_lt q1
            have hls := Tok_lt a2.choose_spec
            refine ⟨s4, e4, k4, g', u', I4, _, J4, M4, by omega, ⟨e', q1⟩, q2, q3, gP, E2, by rw [q4.2 13 (by decide)]; exact a6, up2_s, G1.trans (FB1_o q4), tail3 q5, q6, Row_of (q7.1 48 (by decide)) h48', G2.trans (FB2_o q7 (by decide) q8)⟩
      · left
        rw [if_neg (by decide)]
        obtain ⟨r, J2, r1, r2, r3⟩ := rk1 hb
        exact ⟨4, s1, k1f x2 FB1.refl, r, J2, M1, r1, r2, fb2.fr.trans r3⟩
    · left
      rw [if_neg hxn]
      obtain ⟨r, J2, r1, r2, r3⟩ := rcy_3 (v3 := -1) (v4 := -1) (fb := 999999999) (kr := kr) (u := u) hP hk2 y2 x38 (by omega) (by omega)
      exact ⟨3, s1, k0f x2 FB1.refl, r, J2, M1, r1, r2, fb2.fr.trans r3⟩
  · left
    obtain ⟨I2, u1, u2, u3, u4, u5⟩ := need_f (a := 2) x2 hk2 (by omega) (by decide)
    have u1 : f_X5_need 2 I1 L = some (false, I2, L) := u1
    obtain ⟨J2, v1, v2, v3⟩ := must_f (a := 2) hP y2 (by omega) (by decide) (by decide)
    have v1 : f_X8_must false 2 J1 M1 = some (J2, M1) := v1
    refine ⟨mc 2 k1, s1, ⟨I2, L, ?_, u2, u3, u4, fb1.fc.trans u5⟩, nI u, J2, M1, ?_, v2, fb2.fr.trans v3⟩
    · unfold f_X5_readCycle
      rw [ob u1]
      dsimp only
      rw [if_pos b2i_f, obs]
      dsimp only
      rw [if_pos b2i_f]
    · have e37 : ¬ J1 43 37 = 2 := by
        rw [y2.2.2.1.2.2.1, show (2 : Int32) = nI 2 from rfl, q_eq (by unfold ts; split <;> (try split) <;> omega) (by decide)]
        unfold ts
        split
        · exact hk2
        · split <;> omega
      obtain ⟨cb, hcb⟩ := bit_any (nI u) (J2 43 38)
      rw [fu, f_X8_readsCycle_22, ob (good_t y2.2.2.2.1), if_neg b2i_t, bnd_eq, if_pos rfl, bnd_eq, if_neg e37]
      dsimp only
      rw [ob v1, bnd_eq]
      split
      · dsimp only
        rw [ob (bad_must v2 _ _)]
        dsimp only
        rw [ob hcb, bnd_eq]
        cases cb
        · rw [if_pos b2i_f]
          dsimp only
          rw [ob (bad_must v2 _ _)]
          dsimp only
          rw [ob (bad_good v2), if_pos b2i_f]
        · rw [if_neg b2i_t]
          dsimp only
          rw [ob (bad_must v2 _ _)]
          dsimp only
          rw [ob (bad_good v2), if_pos b2i_f]
      · dsimp only
        rw [ob (bad_must v2 _ _)]
        dsimp only
        rw [ob hcb, bnd_eq]
        cases cb
        · rw [if_pos b2i_f]
          dsimp only
          rw [ob (bad_must v2 _ _)]
          dsimp only
          rw [ob (bad_good v2), if_pos b2i_f]
        · rw [if_neg b2i_t]
          dsimp only
          rw [ob (bad_must v2 _ _)]
          dsimp only
          rw [ob (bad_good v2), if_pos b2i_f]
end LC3
