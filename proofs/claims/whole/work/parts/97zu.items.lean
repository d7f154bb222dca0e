/-! Loading: names and words of moves -/
section LI
variable {b : Nat → Int32} {last i s e k n m : Nat} {mv : Nat → Nat → Nat} {ns ne : Nat → Nat} {I J I' J' : MI} {L M L' M' : ML}
theorem RSt.fr (h : RSt b last J M s e k n m mv ns ne) (h43 : J' 43 = J 43) (h66 : J' 66 = J 66) (h68 : J' 68 = J 68) : RSt b last J' M s e k n m mv ns ne := by
  obtain ⟨c1, c2, c3, c4, c5, c6, c7⟩ := h
  unfold RSt RTk at *
  rw [h43, h66]
  exact ⟨c1, c2, c3, c4, c5, c6, fun t ht => ⟨Row_of h68 (c7 t ht).1, (c7 t ht).2⟩⟩
theorem CSt.frL (h : CSt b last I L s e k n m mv ns ne) (h3 : L' 3 = L 3) : CSt b last I L' s e k n m mv ns ne := by
  obtain ⟨c1, c2, c3, c4, c5, c6, c7, c8, c9⟩ := h
  unfold CSt
  rw [h3]
  exact ⟨c1, c2, c3, c4, c5, c6, c7, c8, c9⟩
theorem mc2_1 : mc 2 1 = 2 := by decide
theorem needName_both (hP : PU b last n m mv ns ne) (hT : TkE b last s e k) (hC : CSt b last I L s e k n m mv ns ne) (hR : RSt b last J M s e k n m mv ns ne) : ((k = 1 ∧ ¬ Rsv b s e) ∧ f_X5_needName I L = some (true, I, L) ∧ f_X8_isName J M = some true) ∨ (¬ (k = 1 ∧ ¬ Rsv b s e) ∧ CFl I L (f_X5_needName I L) (mc 2 k) s ∧ f_X8_isName J M = some false) := by
  obtain ⟨i, hT⟩ := hT
  have hlt := Tok_lt hT
  have hW : k = 1 → Wd b last s e := fun g => by subst g; exact Tok_W hT
  obtain ⟨c, hc⟩ := em_B (k = 1 ∧ ¬ Rsv b s e)
  have nm := isName_eq (M := M) hR.2.2.2.1 hR.2.2.1 (by omega) hW hc
  by_cases g : k = 1
  · have hW := hW g
    obtain ⟨c0, h0⟩ := em_B (wv b s (e - s) = wC3 0)
    obtain ⟨c1, h1⟩ := em_B (wv b s (e - s) = wC3 1)
    obtain ⟨c2, h2⟩ := em_B (wv b s (e - s) = wC3 2)
    have s0 := says_eq (L := L) (by decide) hP.1 hC.2.2.1 hC.2.1 hW h0
    have s1 := says_eq (L := L) (by decide) hP.1 hC.2.2.1 hC.2.1 hW h1
    have s2 := says_eq (L := L) (by decide) hP.1 hC.2.2.1 hC.2.1 hW h2
    obtain ⟨I1, x1, x2⟩ := fail_eq (a := 2) hC
    have x1 : f_X5_fail 2 I L = some (false, I1, L) := x1
    have nd : f_X5_need 1 I L = some (true, I, L) := need_t hC g
    have bad : f_X5_needName I L = some (false, I1, L) → Rsv b s e → ((k = 1 ∧ ¬ Rsv b s e) ∧ f_X5_needName I L = some (true, I, L) ∧ f_X8_isName J M = some true) ∨ (¬ (k = 1 ∧ ¬ Rsv b s e) ∧ CFl I L (f_X5_needName I L) (mc 2 k) s ∧ f_X8_isName J M = some false) := fun h hr => by
      have hcf : c = false := by
        cases hh : c
        · rfl
        · exact absurd hr (hc.mp hh).2
      rw [hcf] at nm
      exact Or.inr ⟨fun x => x.2 hr, ⟨I1, L, h, by rw [g, mc2_1]; exact x2.1, x2.2⟩, nm⟩
    cases c0
    · cases c1
      · cases c2
        · have hr : ¬ Rsv b s e := fun x => x.elim (fun y => absurd (h0.mpr y) (by decide)) (fun y => y.elim (fun z => absurd (h1.mpr z) (by decide)) (fun z => absurd (h2.mpr z) (by decide)))
          rw [hc.mpr ⟨g, hr⟩] at nm
          left
          refine ⟨⟨g, hr⟩, ?_, nm⟩
          unfold f_X5_needName
          rw [ob nd]
          dsimp only
          rw [if_neg b2i_t, ob s0, if_pos b2i_f, ob s1, if_pos b2i_f, ob s2, if_pos b2i_f]
        · refine bad ?_ (Or.inr (Or.inr (h2.mp rfl)))
          unfold f_X5_needName
          rw [ob nd]
          dsimp only
          rw [if_neg b2i_t, ob s0, if_pos b2i_f, ob s1, if_pos b2i_f, ob s2, if_neg b2i_t, ob x1]
      · refine bad ?_ (Or.inr (Or.inl (h1.mp rfl)))
        unfold f_X5_needName
        rw [ob nd]
        dsimp only
        rw [if_neg b2i_t, ob s0, if_pos b2i_f, ob s1, if_neg b2i_t, ob x1]
    · refine bad ?_ (Or.inl (h0.mp rfl))
      unfold f_X5_needName
      rw [ob nd]
      dsimp only
      rw [if_neg b2i_t, ob s0, if_neg b2i_t, ob x1]
  · right
    obtain ⟨I1, x1, x2⟩ := need_f (a := 1) hC g (by omega) (by decide)
    have x1 : f_X5_need 1 I L = some (false, I1, L) := x1
    have hcf : c = false := by
      cases hh : c
      · rfl
      · exact absurd (hc.mp hh).1 g
    rw [hcf] at nm
    refine ⟨fun x => g x.1, ⟨I1, L, ?_, x2⟩, nm⟩
    unfold f_X5_needName
    rw [ob x1]
    dsimp only
    rw [if_pos b2i_f]
/-- no more names -/
theorem takesNew_full (hP : PU b last n m mv ns ne) (hT : TkE b last s e k) (hR : RSt b last J M s e k n m mv ns ne) (hm : m = 6) : RFl J M (f_X8_takesNew J M) 5 s m := by
  obtain ⟨i, hT⟩ := hT
  have hlt := Tok_lt hT
  obtain ⟨J1, y1, y2, y3⟩ := must_f (a := 5) hP hR (by omega) (by decide) (by decide)
  have y1 : f_X8_must false 5 J M = some (J1, M) := y1
  have y2 : BAD J1 5 s m := y2
  obtain ⟨r, hr⟩ := bad_name (M := M) y2
  refine ⟨J1, M, ?_, y2, y3⟩
  unfold f_X8_takesNew
  rw [bnd_eq, hR.2.2.2.2.2.1, if_pos (by rw [hm]; decide)]
  dsimp only
  rw [ob y1]
  dsimp only
  rw [ob (bad_goesOn y2)]
  dsimp only
  rw [ob (bad_isName y2), ob (bad_must y2 _ _)]
  dsimp only
  rw [ob hr, bnd_eq]
  have tl : ∀ x : Bool, Option.bind (f_X8_must x 4 J1 M) (fun q_8 => Option.bind (f_X8_good q_8.1 q_8.2) (fun q_9 => if (b2i q_9) = 0 then some (q_8.1, q_8.2) else chk (inb (q_8.1 43 41) 6) (bnd (up2 q_8.2 67 (ix (q_8.1 43 41)) (q_8.2 43 42)) (fun L_10 => Option.bind (f_X8_isHome 48 q_8.1 L_10) (fun q_11 => Option.bind (f_X8_reads q_11.1 q_11.2) (fun q_12 => some (q_12.1, q_12.2))))))) = some (J1, M) := fun x => by
    rw [ob (bad_must y2 _ _)]
    dsimp only
    rw [ob (bad_good y2), if_pos b2i_f]
  split
  · exact tl true
  · exact tl false
theorem new_both (hP : PU b last n m mv ns ne) (hT : TkE b last s e k) (hk : k ≠ 0) (hC : CSt b last I L s e k n m mv ns ne) (hR : RSt b last J M s e k n m mv ns ne) (hm : m < 6) : (∃ c p, CFl I L (Option.bind (f_X5_scan I L) (fun q => f_X5_readNewName q.1 q.2)) c p ∧ RFl J M (f_X8_takesNew J M) c p m) ∨ (∃ s1 e1 s2 e2 k2 I2 J2 M2, Wd b last s1 e1 ∧ e ≤ s1 ∧ Tok b last e1 s2 e2 k2 ∧ Option.bind (f_X5_scan I L) (fun q => f_X5_readNewName q.1 q.2) = some (true, I2, L) ∧ CSt b last I2 L s2 e2 k2 n m mv ns ne ∧ I2 4 m = nI s1 ∧ I2 5 m = nI (e1 - s1) ∧ FC I L I2 L ∧ f_X8_takesNew J M = some (J2, M2) ∧ RSt b last J2 M2 s2 e2 k2 n m mv ns ne ∧ Row J2 48 0 idp ∧ M2 67 m = lN (wv b s1 (e1 - s1)) ∧ FRf J M J2 M2) := by
  obtain ⟨i, hT⟩ := hT
  have hlt := Tok_lt hT
  obtain ⟨s1, e1, k1, hT1⟩ := Tok_ex (b := b) (i := e) (last := last) (by omega)
  have hlt1 := Tok_lt hT1
  obtain ⟨I1, x1, x2, x3⟩ := cstep hP hC hT1
  obtain ⟨J1, M1, y1, y2, y3, y4⟩ := goesOn_t hP hR hk hT1
  have fc1 : FC I L I1 L := FC_o x3
  have fr1 : FRf J M J1 M1 := FRf_o y3 (by decide) y4
  rw [ob x1]
  dsimp only
  have m6 : ¬ (6 : Int32) ≤ J 43 41 := by rw [hR.2.2.2.2.2.1, show (6 : Int32) = nI 6 from rfl, q_le (by decide) (by omega)]; omega
  have head : ∀ F : Mm → Option Mm, Option.bind (f_X8_must true 5 J M) (fun q_2 => Option.bind (f_X8_goesOn q_2.1 q_2.2) F) = F (J1, M1) := fun F => by
    rw [ob (must_t 5)]
    dsimp only
    rw [ob y1]
  unfold f_X8_takesNew
  rw [bnd_eq, if_neg m6]
  dsimp only
  rw [head]
  dsimp only
  rcases needName_both hP ⟨e, hT1⟩ x2 y2 with ⟨⟨hk1, hrv⟩, a1, a2⟩ | ⟨_, ⟨I2, L2, a1, a2, a3, a4, a5⟩, a6⟩
  · subst hk1
    have hW := Tok_W hT1
    rw [ob a2, ob (must_t 2)]
    dsimp only
    obtain ⟨r, r1, r2, r3⟩ := named_eq (L := L) hP.1 hP.2.2.1 x2.2.2.1 x2.2.1 x2.2.2.2.2.2.2.2.1 (fun t ht => (x2.2.2.2.2.2.2.2.2 t ht).2) (fun t ht => (hP.2.2.2 t ht).2) hW y2.2.2.2.2.2.1 (fun t ht => (y2.2.2.2.2.2.2 t ht).2) (y2.2.2.1.2.2.2.2 rfl)
    rw [ob r2, bnd_eq]
    unfold f_X5_readNewName
    rw [ob a1]
    dsimp only
    rw [if_neg b2i_t, ob r1]
    rcases r3 with rfl | ⟨t, ht, rfl⟩
    · right
      rw [if_pos rfl, if_pos (by decide)]
      rw [x2.2.2.2.2.2.2.2.1, q_chk (by omega) (by decide), q_ix (by omega), bnd_eq, up2_ne (by decide), x2.2.2.2.2.2.2.2.1, q_chk (by omega) (by decide), q_ix (by omega), x2.2.2.1.1, x2.2.2.1.2.1, pk_sub (by omega), bnd_eq]
      rw [ob (must_t 4)]
      dsimp only
      rw [ob (good_t y2.2.2.2.1), if_neg b2i_t, y2.2.2.2.2.2.1, q_chk (by omega) (by decide), q_ix (by omega), bnd_eq, y2.2.2.1.2.2.2.2 rfl, ob isHome_eq]
      dsimp only
      obtain ⟨s2, e2, k2, hT2⟩ := Tok_ex (b := b) (i := e1) (last := last) (by omega)
      have C2 : CSt b last (up2 (up2 I1 4 m (nI s1)) 5 m (nI (e1 - s1))) L s1 e1 1 n m mv ns ne := by
        obtain ⟨c1, c2, c3, c4, c5, c6, c7, c8, c9⟩ := x2
        have e1' : up2 (up2 I1 4 m (nI s1)) 5 m (nI (e1 - s1)) 1 = I1 1 := by rw [up2_ne (by decide), up2_ne (by decide)]
        have e2' : up2 (up2 I1 4 m (nI s1)) 5 m (nI (e1 - s1)) 2 = I1 2 := by rw [up2_ne (by decide), up2_ne (by decide)]
        unfold CSt CTk at *
        rw [e1', e2']
        refine ⟨c1, c2, c3, c4, c5, c6, c7, c8, fun t ht => ⟨(c9 t ht).1, ?_, ?_⟩⟩
        · rw [up2_ne (by decide), up2_n (by omega)]; exact (c9 t ht).2.1
        · rw [up2_n (by omega), up2_ne (by decide)]; exact (c9 t ht).2.2
      have R2 : RSt b last (wp J1 48 0 idp) (up2 M1 67 m (lN (wv b s1 (e1 - s1)))) s1 e1 1 n m mv ns ne := by
        obtain ⟨c1, c2, c3, c4, c5, c6, c7⟩ := y2
        have e1' : wp J1 48 0 idp 43 = J1 43 := wp_ne (by decide)
        have e2' : wp J1 48 0 idp 66 = J1 66 := wp_ne (by decide)
        unfold RSt RTk at *
        rw [e1', e2', up2_ne (show 43 ≠ 67 by decide)]
        refine ⟨c1, c2, c3, c4, c5, c6, fun t ht => ⟨Row_of (wp_ne (by decide)) (c7 t ht).1, ?_⟩⟩
        rw [up2_n (by omega)]; exact (c7 t ht).2
      obtain ⟨I3, z1, z2, z3⟩ := cstep hP C2 hT2
      obtain ⟨J3, M3, w1, w2, w3, w4⟩ := rstep hP R2 (by decide) hT2
      refine ⟨s1, e1, s2, e2, k2, I3, J3, M3, hW, hlt1.1, hT2, ?_, z2, ?_, ?_, ?_, ?_, w2, ?_, ?_, ?_⟩
      · rw [ob z1]
      · rw [z3.1 4 (by decide), up2_ne (by decide), up2_s]
      · rw [z3.1 5 (by decide), up2_s]
      · refine (fc1.trans ⟨fun q q1 q2 q3 => ?_, fun _ _ _ => rfl⟩).trans (FC_o z3)
        rw [up2_ne q3, up2_ne q2]
      · rw [ob w1]
      · exact Row_of (w3.1 48 (by decide)) Row_wp
      · rw [w4 67 (by decide), up2_s]
      · refine (fr1.trans ⟨fun q hq => ?_, fun f hf => ?_, fun q q1 q2 => ?_⟩).trans (FRf_o w3 (by decide) w4)
        · rw [wp_ne (fun g => hq (by rw [g]; decide))]
        · rw [wp_ne (by decide)]
        · rw [up2_ne q2]
    · left
      rw [if_neg (nI_nm1 (by have := hP.2.2.1; omega)), if_neg (Int32.not_lt.mpr (nI_pos' (by have := hP.2.2.1; omega)))]
      obtain ⟨J2, v1, v2, v3⟩ := must_f (a := 4) hP y2 (by omega) (by decide) (by decide)
      have v1 : f_X8_must false 4 J1 M1 = some (J2, M1) := v1
      obtain ⟨I2, u1, u2, u3, u4, u5⟩ := fail_eq (a := 4) x2
      have u1 : f_X5_fail 4 I1 L = some (false, I2, L) := u1
      refine ⟨4, s1, ⟨I2, L, ?_, u2, u3, u4, fc1.trans u5⟩, ⟨J2, M1, ?_, v2, fr1.trans v3⟩⟩
      · rw [ob u1]
      · rw [ob v1]
        dsimp only
        rw [ob (bad_good v2), if_pos b2i_f]
  · left
    rw [ob a6]
    obtain ⟨J2, v1, v2, v3⟩ := must_f (a := 2) hP y2 (by omega) (by decide) (by decide)
    have v1 : f_X8_must false 2 J1 M1 = some (J2, M1) := v1
    obtain ⟨r, hr⟩ := bad_name (M := M1) v2
    refine ⟨mc 2 k1, s1, ⟨I2, L2, ?_, a2, a3, a4, fc1.trans a5⟩, ⟨J2, M1, ?_, v2, fr1.trans v3⟩⟩
    · unfold f_X5_readNewName
      rw [ob a1]
      dsimp only
      rw [if_pos b2i_f]
    · rw [ob v1]
      dsimp only
      rw [ob hr, bnd_eq]
      have tl : ∀ x : Bool, Option.bind (f_X8_must x 4 J2 M1) (fun q_8 => Option.bind (f_X8_good q_8.1 q_8.2) (fun q_9 => if (b2i q_9) = 0 then some (q_8.1, q_8.2) else chk (inb (q_8.1 43 41) 6) (bnd (up2 q_8.2 67 (ix (q_8.1 43 41)) (q_8.2 43 42)) (fun L_10 => Option.bind (f_X8_isHome 48 q_8.1 L_10) (fun q_11 => Option.bind (f_X8_reads q_11.1 q_11.2) (fun q_12 => some (q_12.1, q_12.2))))))) = some (J2, M1) := fun x => by
        rw [ob (bad_must v2 _ _)]
        dsimp only
        rw [ob (bad_good v2), if_pos b2i_f]
      split
      · exact tl true
      · exact tl false
end LI
