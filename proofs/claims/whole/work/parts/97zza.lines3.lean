/-! Loading: a line that tells a move -/
section LZA
variable {b : Nat → Int32} {last i s e k n m : Nat} {mv : Nat → Nat → Nat} {ns ne : Nat → Nat} {I J I' J' : MI} {L M L' M' : ML} {p : Nat → Nat}
/-- what the class does behind a move -/
def STc (I_12 : MI) (L_13 : ML) : Option (Bool × Mm) := chk (inb (I_12 1 8) 6) (bnd (up2 L_13 3 (ix (I_12 1 8)) (L_13 1 12)) (fun L_14 => bnd (up2 I_12 1 8 ((I_12 1 8) + 1)) (fun I_15 => some (true, I_15, L_14))))
def ex1 {α : Type} (m : Nat) (x : α) (f : Nat → α) : Nat → α := fun t => if t = m then x else f t
theorem ex1_m {α : Type} {x : α} {f : Nat → α} : ex1 m x f m = x := if_pos rfl
theorem ex1_n {α : Type} {x : α} {f : Nat → α} {t : Nat} (h : t < m) : ex1 m x f t = f t := if_neg (by omega)
theorem STc_ok {s1 e1 : Nat} (hm : m < 6) (hC : CSt b last I L s e k n m mv ns ne) (h12 : L 1 12 = tn n p) (h4 : I 4 m = nI s1) (h5 : I 5 m = nI (e1 - s1)) : ∃ I' L', STc I L = some (true, I', L') ∧ CSt b last I' L' s e k n (m + 1) (ex1 m p mv) (ex1 m s1 ns) (ex1 m e1 ne) ∧ FC I L I' L' := by
  refine ⟨up2 I 1 8 (nI (m + 1)), up2 L 3 m (tn n p), ?_, ?_, ⟨fun q q1 _ _ => up2_ne q1, fun q _ q3 => up2_ne q3⟩⟩
  · unfold STc
    rw [hC.2.2.2.2.2.2.2.1, q_chk (by omega) (by decide), q_ix (by omega), bnd_eq, nI_1, bnd_eq, h12]
  · obtain ⟨c1, c2, c3, c4, c5, c6, c7, c8, c9⟩ := hC
    unfold CSt CTk at *
    rw [up2_ne (show 2 ≠ 1 by decide), up2_n (show 2 ≠ 8 by decide), up2_n (show 3 ≠ 8 by decide), up2_n (show 5 ≠ 8 by decide), up2_n (show 4 ≠ 8 by decide), up2_n (show 6 ≠ 8 by decide), up2_n (show 1 ≠ 8 by decide), up2_n (show 14 ≠ 8 by decide), up2_n (show 15 ≠ 8 by decide), up2_n (show 7 ≠ 8 by decide)]
    refine ⟨c1, c2, c3, c4, c5, c6, c7, up2_s, fun t ht => ?_⟩
    rw [up2_ne (show 4 ≠ 1 by decide), up2_ne (show 5 ≠ 1 by decide)]
    by_cases g : t = m
    · rw [g, ex1_m, ex1_m, ex1_m, up2_s]
      exact ⟨rfl, h4, h5⟩
    · rw [ex1_n (show t < m by omega), ex1_n (show t < m by omega), ex1_n (show t < m by omega), up2_n g]
      exact c9 t (by omega)
theorem PU_ex {s1 e1 : Nat} (hP : PU b last n m mv ns ne) (hm : m < 6) (hp : IsP n p) (hW : Wd b last s1 e1) : PU b last n (m + 1) (ex1 m p mv) (ex1 m s1 ns) (ex1 m e1 ne) := by
  refine ⟨hP.1, hP.2.1, by omega, fun t ht => ?_⟩
  by_cases g : t = m
  · rw [g, ex1_m, ex1_m, ex1_m]; exact ⟨hp, hW⟩
  · rw [ex1_n (show t < m by omega), ex1_n (show t < m by omega), ex1_n (show t < m by omega)]
    exact hP.2.2.2 t (by omega)
theorem J81_st (hm : m < 6) (h41 : J 43 41 = nI m) (h33 : J 43 33 = 0) : ∃ J', J81 J M = some (J', M) ∧ Fo 43 [41] (wr J 68 (10 * m) 10 (fun j => J 48 j)) J' ∧ J' 43 41 = nI (m + 1) ∧ FRf J M J' M := by
  refine ⟨_, J81_ok h33 h41 hm, Fo_up (by decide), up2_s, ⟨fun q hq => ?_, fun f hf => ?_, fun _ _ _ => rfl⟩⟩
  · rw [up2_ne (fun g => hq (by rw [g]; decide)), wr_ne (fun g => hq (by rw [g]; decide))]
  · rw [up2_n (by omega), wr_ne (by decide)]
theorem J81_R {s1 e1 : Nat} (hm : m < 6) (hR : RSt b last J M s e k n m mv ns ne) (h48 : Row J 48 0 p) (h67 : M 67 m = lN (wv b s1 (e1 - s1))) (hF : Fo 43 [41] (wr J 68 (10 * m) 10 (fun j => J 48 j)) J') (h41 : J' 43 41 = nI (m + 1)) : RSt b last J' M s e k n (m + 1) (ex1 m p mv) (ex1 m s1 ns) (ex1 m e1 ne) := by
  obtain ⟨c1, c2, c3, c4, c5, c6, c7⟩ := hR
  have w43 : ∀ f, f ≠ 41 → J' 43 f = J 43 f := fun f hf => by
    rw [hF.2 f (fun g => hf (List.mem_singleton.mp g)), wr_ne (by decide)]
  have w66 : J' 66 = J 66 := by rw [hF.1 66 (by decide), wr_ne (by decide)]
  have w68 : J' 68 = wr J 68 (10 * m) 10 (fun j => J 48 j) 68 := hF.1 68 (by decide)
  unfold RSt RTk at *
  rw [w66, w43 39 (by decide), w43 35 (by decide), w43 36 (by decide), w43 37 (by decide), w43 38 (by decide), w43 33 (by decide), w43 40 (by decide)]
  refine ⟨c1, c2, c3, c4, c5, h41, fun t ht => ?_⟩
  by_cases g : t = m
  · rw [g, ex1_m, ex1_m, ex1_m]
    refine ⟨fun j hj => ?_, h67⟩
    rw [w68, wr_at hj]
    have := h48 j hj
    rw [Nat.zero_add] at this
    exact this
  · rw [ex1_n (show t < m by omega), ex1_n (show t < m by omega), ex1_n (show t < m by omega)]
    refine ⟨fun j hj => ?_, (c7 t (by omega)).2⟩
    rw [w68, wr_out (by omega)]
    exact (c7 t (by omega)).1 j hj
theorem store_LO {s1 e1 : Nat} {oc : Option (Bool × Mm)} {or : Option Mm} (hP : PU b last n m mv ns ne) (hn : n ≠ 0) (hm : m < 6) (hW : Wd b last s1 e1) (h4 : I 4 m = nI s1) (h5 : I 5 m = nI (e1 - s1)) (h67 : M 67 m = lN (wv b s1 (e1 - s1))) (h : BO b last n m mv ns ne I L J M s oc or) : LO b last I L J M s (Option.bind oc (fun q => if (b2i q.1) = 0 then some (false, q.2.1, q.2.2) else STc q.2.1 q.2.2)) (Option.bind or (fun q => J81 q.1 q.2)) := by
  rcases h with ⟨c, w, ⟨I1, L1, a1, a2⟩, ⟨J1, M1, d1, d2, d3⟩⟩ | ⟨s', e', J1, M1, ⟨I1, L1, a1, a2⟩, a3, d1, d2, d3⟩ | ⟨s', e', k', p', I1, L1, J1, M1, a1, a2, a3, a4, a5, a6, a7, a8, a9, a10, a11⟩
  · obtain ⟨J2, g1, g2, g3⟩ := J81_bad (M := M1) d2
    refine Or.inl ⟨c, w, m, ⟨I1, L1, ?_, a2⟩, ⟨J2, M1, ?_, g2, d3.trans g3⟩⟩
    · rw [ob a1]
      dsimp only
      rw [if_pos b2i_f]
    · rw [ob d1]; exact g1
  · obtain ⟨J2, g1, g2, g3, g4⟩ := J81_st (J := J1) (M := M1) hm d2.2.2.2.2.2.1 d2.2.2.2.1
    have w43 : ∀ f, f ≠ 41 → J2 43 f = J1 43 f := fun f hf => by
      rw [g2.2 f (fun g => hf (List.mem_singleton.mp g)), wr_ne (by decide)]
    have w66 : J2 66 = J1 66 := by rw [g2.1 66 (by decide), wr_ne (by decide)]
    refine Or.inr (Or.inl ⟨s', e', m + 1, J2, M1, ⟨I1, L1, ?_, a2⟩, a3, ?_, ?_, ?_, ?_, ?_, g3, by omega, d3.fr.trans g4⟩)
    · rw [ob a1]
      dsimp only
      rw [if_pos b2i_f]
    · rw [ob d1]; exact g1
    · rw [w43 33 (by decide)]; exact d2.2.2.2.1
    · rw [w43 39 (by decide)]; exact d2.1
    · rw [w66]; exact d2.2.1
    · have := d2.2.2.1
      unfold RTk at this ⊢
      rw [w43 35 (by decide), w43 36 (by decide), w43 37 (by decide), w43 38 (by decide)]
      exact this
  · obtain ⟨J2, g1, g2, g3, g4⟩ := J81_st (J := J1) (M := M1) hm a9.2.2.2.2.2.1 a9.2.2.2.1
    obtain ⟨I2, L2, f1, f2, f3⟩ := STc_ok (s1 := s1) (e1 := e1) hm a4 a6 (by rw [a7.1 4 (by decide)]; exact h4) (by rw [a7.1 5 (by decide)]; exact h5)
    refine Or.inr (Or.inr ⟨s', e', k', n, m + 1, ex1 m p' mv, ex1 m s1 ns, ex1 m e1 ne, I2, L2, J2, M1, a1, hn, PU_ex hP hm a5 hW, a2, ?_, f2, a7.fc.trans f3, ?_, J81_R hm a9 a10 (by rw [a11.2.2 67 (by decide)]; exact h67) g2 g3, a11.fr.trans g4⟩)
    · rw [ob a3]
      dsimp only
      rw [if_neg b2i_t]
      exact f1
    · rw [ob a8]; exact g1
theorem bad_mw {c w : Nat} (h : BAD J c w m) : Option.bind (f_X8_readsCycle 0 J M) (fun q_2 => bnd (q_2.1 : Int32) (fun v1_3 => f_X8_readsMove_10 FU v1_3 q_2.2.1 q_2.2.2)) = some (J, M) ∧ Option.bind (f_X8_readsItem J M) (fun q => f_X8_readsWord_8 FU q.1 q.2) = some (J, M) := by
  constructor
  · rw [ob (bad_readsCycle h), bnd_eq]
    exact bad_readsMove_10 h
  · rw [ob (bad_readsItem h)]
    dsimp only
    rw [show FU = 999999999 + 1 from rfl, f_X8_readsWord_8, ob (bad_isName h), if_pos b2i_f]
theorem move_LO (hP : PU b last n m mv ns ne) (hn : n ≠ 0) (hT : TkE b last s e k) (hC : CSt b last I L s e k n m mv ns ne) (hR : RSt b last J M s e k n m mv ns ne) : LO b last I L J M e (f_X5_readMove I L) (f_X8_line J M) := by
  obtain ⟨i, hT'⟩ := id hT
  have hlt := Tok_lt hT'
  have hl := hP.1
  have hm6 := hP.2.2.1
  obtain ⟨J1, y1, y2, y3⟩ := must_f (a := 2) hP hR (by omega) (by decide) (by decide)
  have y1 : f_X8_must false 2 J M = some (J1, M) := y1
  by_cases hk : k = 1
  · obtain ⟨w0, w1, w2, s0, s1, s2, g0, g1, g2, hx⟩ := words3 hP hT hC hR hk
    obtain ⟨l1, l2, l3⟩ := line_eq (m := m) hR.2.2.2.1 hR.2.2.2.2.1 hP.2.1 g0 g1 g2
    have nd : f_X5_need 1 I L = some (true, I, L) := need_t hC hk
    by_cases hw : (w1 || w2) = true
    · have hw0 : w0 = false := by
        cases w0
        · rfl
        · obtain ⟨x1, x2⟩ := hx rfl
          rw [x1, x2] at hw
          cases hw
      have m8 : (I 1 8 < 6) = (m < 6) := by
        rw [hC.2.2.2.2.2.2.2.1]
        exact q_lt (by omega) (by decide)
      rw [l2 hw0 hw hn]
      have cls : f_X5_readMove I L = if m < 6 then Option.bind (Option.bind (f_X5_scan I L) (fun q => f_X5_readNewName q.1 q.2)) (fun q_7 => if (b2i q_7.1) = 0 then some (false, q_7.2.1, q_7.2.2) else Option.bind (f_X6_identity (q_7.2.1 1 7)) (fun q_8 => Option.bind (if w1 = true then f_X5_readCycles q_7.2.1 (up2 q_7.2.2 1 12 q_8) else f_X5_readItems q_7.2.1 (up2 q_7.2.2 1 12 q_8)) (fun q => if (b2i q.1) = 0 then some (false, q.2.1, q.2.2) else STc q.2.1 q.2.2))) else Option.bind (f_X5_fail 5 I L) (fun q_16 => some (q_16.1, q_16.2.1, q_16.2.2)) := by
        have e1 : ∀ (x : Option Mm) (F : Mm → Option (Bool × Mm)) (G : Bool × Mm → Option (Bool × Mm)), Option.bind (Option.bind x F) G = Option.bind x (fun q => Option.bind (F q) G) := fun x F G => by cases x <;> rfl
        unfold f_X5_readMove
        rw [ob nd]
        dsimp only
        rw [if_neg b2i_t, ob s1, bnd_eq, bnd_eq, e1]
        cases w1
        · rw [if_pos b2i_f, ob s2]
          cases w2
          · cases hw
          · rw [if_neg b2i_t, ifc m8]
            rfl
        · rw [if_neg b2i_t, ifc m8]
          rfl
      rw [cls]
      have rw1 : (if w1 = true then f_X8_readsMove J M else f_X8_readsWord J M) = Option.bind (f_X8_takesNew J M) (fun q => if w1 = true then Option.bind (f_X8_readsCycle 0 q.1 q.2) (fun q_2 => bnd (q_2.1 : Int32) (fun v1_3 => f_X8_readsMove_10 FU v1_3 q_2.2.1 q_2.2.2)) else Option.bind (f_X8_readsItem q.1 q.2) (fun q => f_X8_readsWord_8 FU q.1 q.2)) := by
        cases w1
        · rw [if_neg (by decide)]
          rfl
        · rw [if_pos rfl]
          rfl
      have badw : ∀ {J2 : MI} {M2 : ML} {c w : Nat}, f_X8_takesNew J M = some (J2, M2) → BAD J2 c w m → ∃ J3, Option.bind (if w1 = true then f_X8_readsMove J M else f_X8_readsWord J M) (fun q => J81 q.1 q.2) = some (J3, M2) ∧ BAD J3 c w m ∧ FRf J2 M2 J3 M2 := fun {J2 M2 c w} ht hb => by
        obtain ⟨J3, a1, a2, a3⟩ := J81_bad (M := M2) hb
        obtain ⟨d1, d2⟩ := bad_mw (M := M2) hb
        refine ⟨J3, ?_, a2, a3⟩
        rw [rw1, ob ht]
        dsimp only
        cases w1
        · rw [if_neg (by decide), ob d2]; exact a1
        · rw [if_pos rfl, ob d1]; exact a1
      by_cases hm : m < 6
      · rw [if_pos hm]
        rcases new_both hP hT (by omega) hC hR hm with ⟨c, p, ⟨I2, L2, a1, a2⟩, ⟨J2, M2, d1, d2, d3⟩⟩ | ⟨s1', e1, s2', e2, k2, I2, J2, M2, a1, a2, a3, a4, a5, a6, a7, a8, a9, a10, a11, a12, a13⟩
        · obtain ⟨J3, f1, f2, f3⟩ := badw d1 d2
          refine Or.inl ⟨c, p, m, ⟨I2, L2, ?_, a2⟩, ⟨J3, M2, f1, f2, d3.trans f3⟩⟩
          rw [ob a1]
          dsimp only
          rw [if_pos b2i_f]
        · have hlt3 := Tok_lt a3
          have hW := a1
          rw [ob a4, rw1]
          dsimp only
          rw [if_neg b2i_t, a5.2.2.2.2.2.2.1, ob (identity_eq hP.2.1), ob a9]
          dsimp only
          have C2 : CSt b last I2 (up2 L 1 12 (tn n idp)) s2' e2 k2 n m mv ns ne := a5.frL (up2_ne (by decide))
          have fc2 : FC I L I2 (up2 L 1 12 (tn n idp)) := a8.trans ⟨fun _ _ _ _ => rfl, fun q q1 _ => up2_ne q1⟩
          have fin : ∀ {oc : Option (Bool × Mm)} {or : Option Mm}, BO b last n m mv ns ne I2 (up2 L 1 12 (tn n idp)) J2 M2 s2' oc or → LO b last I L J M e (Option.bind oc (fun q => if (b2i q.1) = 0 then some (false, q.2.1, q.2.2) else STc q.2.1 q.2.2)) (Option.bind or (fun q => J81 q.1 q.2)) := fun hB => (store_LO hP hn hm a1 a6 a7 a12 hB).tr fc2 a13 (by have := a1.1; omega)
          cases w1
          · rw [if_neg (by decide), if_neg (by decide)]
            exact fin (word_both hP ⟨e1, a3⟩ C2 a10 (IsP_id n) up2_s a11)
          · rw [if_pos rfl, if_pos rfl]
            exact fin (move_both hP ⟨e1, a3⟩ C2 a10 up2_s a11)
      · obtain ⟨J2, M2, d1, d2, d3⟩ := takesNew_full hP hT hR (by omega)
        obtain ⟨J3, f1, f2, f3⟩ := badw d1 d2
        obtain ⟨I1, x1, x2⟩ := fail_eq (a := 5) hC
        have x1 : f_X5_fail 5 I L = some (false, I1, L) := x1
        refine Or.inl ⟨5, s, m, ⟨I1, L, ?_, x2⟩, ⟨J3, M2, f1, f2, d3.trans f3⟩⟩
        rw [if_neg hm, ob x1]
    · have hw' : (w1 || w2) = false := by
        cases h9 : (w1 || w2)
        · rfl
        · exact absurd h9 hw
      have hw1 : w1 = false := by
        cases w1
        · rfl
        · cases hw'
      have hw2 : w2 = false := by
        cases w2
        · rfl
        · rw [hw1] at hw'; cases hw'
      subst hw1
      subst hw2
      obtain ⟨I1, x1, x2⟩ := fail_eq (a := 2) hC
      have x1 : f_X5_fail 2 I L = some (false, I1, L) := x1
      have cf : CFl I L (f_X5_readMove I L) (mc 2 k) s := by
        refine ⟨I1, L, ?_, by rw [hk, mc2_1]; exact x2.1, x2.2⟩
        unfold f_X5_readMove
        rw [ob nd]
        dsimp only
        rw [if_neg b2i_t, ob s1, bnd_eq, bnd_eq, if_pos b2i_f, ob s2, if_pos b2i_f, ob x1]
      cases w0
      · exact Or.inl ⟨mc 2 k, s, m, cf, ⟨J1, M, l3 rfl (Or.inl rfl) J1 _ _ y1 y2, y2, y3⟩⟩
      · obtain ⟨J2, M2, d1, d2, d3⟩ := readsPoints_no hP hT hR hn
        refine Or.inl ⟨mc 2 k, s, m, cf, ⟨J2, M2, ?_, d2, d3⟩⟩
        rw [l1 rfl, ob d1]
  · have g0 := isWord_no (M := M) (c := 237742039) hR.2.2.2.1 hR.2.2.1 hk (by omega)
    have g1 := isWord_no (M := M) (c := 267413) hR.2.2.2.1 hR.2.2.1 hk (by omega)
    have g2 := isWord_no (M := M) (c := 464134) hR.2.2.2.1 hR.2.2.1 hk (by omega)
    obtain ⟨l1, l2, l3⟩ := line_eq (m := m) hR.2.2.2.1 hR.2.2.2.2.1 hP.2.1 g0 g1 g2
    obtain ⟨I1, x1, x2⟩ := need_f (a := 1) hC hk (by omega) (by decide)
    have x1 : f_X5_need 1 I L = some (false, I1, L) := x1
    refine Or.inl ⟨mc 2 k, s, m, ⟨I1, L, ?_, x2⟩, ⟨J1, M, l3 rfl (Or.inl rfl) J1 _ _ y1 y2, y2, y3⟩⟩
    unfold f_X5_readMove
    rw [ob x1]
    dsimp only
    rw [if_pos b2i_f]
end LZA
