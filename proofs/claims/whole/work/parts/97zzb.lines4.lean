/-! Loading: all lines -/
section LZB
variable {b : Nat → Int32} {last i s e k n m : Nat} {mv : Nat → Nat → Nat} {ns ne : Nat → Nat} {I J I' J' : MI} {L M L' M' : ML} {p : Nat → Nat}
/-- the sign at a line's end -/
def RSg (J : MI) (M : ML) : Option Mm := Option.bind (f_X8_isSign 59 J M) (fun q => Option.bind (f_X8_must q 2 J M) (fun q2 => f_X8_goesOn q2.1 q2.2))
theorem RSg_bad {c w : Nat} (h : BAD J c w m) : RSg J M = some (J, M) := by
  unfold RSg
  rw [ob (bad_isSign h _), ob (bad_must h _ _)]
  exact bad_goesOn h
theorem sign_no (hl : last ≤ 400) (hT : TkE b last s e 1) (h33 : J 43 33 = 0) (h39 : J 43 39 = nI last) (hb : ∀ j, j < last → J 66 j = b j) (hK : RTk b J M s e 1) (h41 : J 43 41 = nI m) (hm : m ≤ 6) : RFl J M (RSg J M) 2 s m := by
  obtain ⟨i, hT⟩ := hT
  have sg : f_X8_isSign 59 J M = some false := by
    have := isSign_eq (g := 59) (M := M) (by decide) hl h33 h39 hb hK hT
    exact this
  have key : f_X8_must false 2 J M = some (up2 (up2 J 43 33 2) 43 34 (nI s), M) := by
    unfold f_X8_must
    rw [if_pos b2i_f, h33, if_pos (by decide), if_pos rfl, hK.2.2.1, if_neg (by decide), bnd_eq, up2_n (by decide), hK.1, bnd_eq]
  have hB : BAD (up2 (up2 J 43 33 2) 43 34 (nI s)) 2 s m := ⟨by rw [up2_n (by decide), up2_s]; rfl, by decide, by decide, up2_s, by rw [up2_n (by decide), up2_n (by decide)]; exact h41, hm⟩
  refine ⟨_, M, ?_, hB, FRf_o (S := [33, 34]) ((Fo_up (by decide)).trans (Fo_up (by decide))) (by decide) (fun _ _ => rfl)⟩
  unfold RSg
  rw [ob sg, ob key]
  exact bad_goesOn hB
/-- how a line may end -/
def LE9 (b : Nat → Int32) (last : Nat) (I : MI) (L : ML) (J : MI) (M : ML) (s : Nat) (oc : Option (Bool × Mm)) (or : Option Mm) : Prop :=
  (∃ c w m', CFl I L oc c w ∧ RFl J M or c w m') ∨
  (∃ s' e' k' n' m' mv' ns' ne' I' L' J' M', s ≤ s' ∧ n' ≠ 0 ∧ PU b last n' m' mv' ns' ne' ∧ TkE b last s' e' k' ∧ oc = some (true, I', L') ∧ CSt b last I' L' s' e' k' n' m' mv' ns' ne' ∧ FC I L I' L' ∧ or = some (J', M') ∧ RSt b last J' M' s' e' k' n' m' mv' ns' ne' ∧ FRf J M J' M')
def CLe (oc : Option (Bool × Mm)) : Option (Bool × Mm) := Option.bind oc (fun q => if (b2i q.1) = 0 then some (false, q.2.1, q.2.2) else f_X5_readSign 59 q.2.1 q.2.2)
theorem line_end {oc : Option (Bool × Mm)} {or : Option Mm} (hl : last ≤ 400) (h : LO b last I L J M s oc or) : LE9 b last I L J M s (CLe oc) (Option.bind or (fun q => RSg q.1 q.2)) := by
  rcases h with ⟨c, w, m', ⟨I1, L1, a1, a2⟩, ⟨J1, M1, d1, d2, d3⟩⟩ | ⟨s', e', m', J1, M1, ⟨I1, L1, a1, a2⟩, a3, d1, a4, a5, a6, a7, a8, a9, a10⟩ | ⟨s', e', k', n', m', mv', ns', ne', I1, L1, J1, M1, a1, a2, a3, a4, a5, a6, a7, a8, a9, a10⟩
  · refine Or.inl ⟨c, w, m', ⟨I1, L1, ?_, a2⟩, ⟨J1, M1, ?_, d2, d3⟩⟩
    · unfold CLe
      rw [ob a1]
      dsimp only
      rw [if_pos b2i_f]
    · rw [ob d1]; exact RSg_bad d2
  · obtain ⟨J2, M2, f1, f2, f3⟩ := sign_no hl a3 a4 a5 a6 a7 a8 a9
    refine Or.inl ⟨2, s', m', ⟨I1, L1, ?_, a2⟩, ⟨J2, M2, ?_, f2, a10.trans f3⟩⟩
    · unfold CLe
      rw [ob a1]
      dsimp only
      rw [if_pos b2i_f]
    · rw [ob d1]; exact f1
  · have ec : CLe oc = f_X5_readSign 59 I1 L1 := by
      unfold CLe
      rw [ob a5]
      dsimp only
      rw [if_neg b2i_t]
    have er : Option.bind or (fun q => RSg q.1 q.2) = RSg J1 M1 := by rw [ob a8]
    rw [ec, er]
    obtain ⟨i, hT⟩ := id a4
    have hlt := Tok_lt hT
    rcases sign_both (g := 59) (by decide) a3 a4 a6 a9 with ⟨_, hc, hr⟩ | ⟨_, s2, e2, k2, I2, J2, M2, f1, f2, f3, f4, f5, f6, f7, f8⟩
    · exact Or.inl ⟨mc 2 k', s', m', hc.tr a7, hr.tr a10⟩
    · have hlt2 := Tok_lt f1
      exact Or.inr ⟨s2, e2, k2, n', m', mv', ns', ne', I2, L1, J2, M2, by omega, a2, a3, ⟨e', f1⟩, f2, f3, a7.trans (FC_o f4), f5, f6, a10.trans (FRf_o f7 (by decide) f8)⟩
theorem parse_stop {fa : Nat} {v : Int32} : f_X5_parse_50 (fa + 1) 0 v I L = some (false, I, L) := by
  rw [f_X5_parse_50]
  split
  · rfl
  · rfl
theorem parse_tail {fa : Nat} {v : Int32} (oc : Option (Bool × Mm)) : Option.bind oc (fun q_18 => if (b2i q_18.1) = 0 then bnd (v + 1 : Int32) (fun v3_19 => f_X5_parse_50 (fa + 1) 0 v3_19 q_18.2.1 q_18.2.2) else Option.bind (f_X5_readSign 59 q_18.2.1 q_18.2.2) (fun q_20 => if (b2i q_20.1) = 0 then bnd (v + 1 : Int32) (fun v3_21 => f_X5_parse_50 (fa + 1) 0 v3_21 q_20.2.1 q_20.2.2) else bnd (v + 1 : Int32) (fun v3_22 => f_X5_parse_50 (fa + 1) 1 v3_22 q_20.2.1 q_20.2.2))) = Option.bind (CLe oc) (fun q => if (b2i q.1) = 0 then some (false, q.2.1, q.2.2) else f_X5_parse_50 (fa + 1) 1 (v + 1) q.2.1 q.2.2) := by
  cases oc with
  | none => rfl
  | some q =>
    unfold CLe
    rw [obs, obs]
    by_cases g : (b2i q.1) = 0
    · rw [if_pos g, if_pos g, bnd_eq, parse_stop, obs, if_pos b2i_f]
    · rw [if_neg g, if_neg g]
      cases f_X5_readSign 59 q.2.1 q.2.2 with
      | none => rfl
      | some q2 =>
        rw [obs, obs]
        by_cases g2 : (b2i q2.1) = 0
        · rw [if_pos g2, if_pos g2, bnd_eq, parse_stop]
        · rw [if_neg g2, if_neg g2, bnd_eq]
/-- how the whole text may end -/
def PE (b : Nat → Int32) (last : Nat) (I : MI) (L : ML) (J : MI) (M : ML) (oc : Option (Bool × Mm)) (or : (MI → ML → Option (Int32 × Mm)) → Option (Int32 × Mm)) : Prop :=
  (∃ c w m' J' M', CFl I L oc c w ∧ (∀ k0, or k0 = k0 J' M') ∧ BAD J' c w m' ∧ FRf J M J' M') ∨
  (∃ s' e' n' m' mv' ns' ne' I' L' J' M', PU b last n' m' mv' ns' ne' ∧ oc = some (true, I', L') ∧ CSt b last I' L' s' e' 0 n' m' mv' ns' ne' ∧ FC I L I' L' ∧ (∀ k0, or k0 = k0 J' M') ∧ RSt b last J' M' s' e' 0 n' m' mv' ns' ne' ∧ FRf J M J' M')
theorem PE.tr {oc : Option (Bool × Mm)} {or : (MI → ML → Option (Int32 × Mm)) → Option (Int32 × Mm)} (h1 : FC I L I' L') (h2 : FRf J M J' M') (g : PE b last I' L' J' M' oc or) : PE b last I L J M oc or := by
  rcases g with ⟨c, w, m', J2, M2, a1, a2, a3, a4⟩ | ⟨s', e', n', m', mv', ns', ne', I2, L2, J2, M2, a1, a2, a3, a4, a5, a6, a7⟩
  · exact Or.inl ⟨c, w, m', J2, M2, a1.tr h1, a2, a3, h2.trans a4⟩
  · exact Or.inr ⟨s', e', n', m', mv', ns', ne', I2, L2, J2, M2, a1, a2, a3, h1.trans a4, a5, a6, h2.trans a7⟩
theorem load_step {fb : Nat} (k0 : MI → ML → Option (Int32 × Mm)) (h33 : J 43 33 = 0) (h37 : ¬ J 43 37 = 0) : f_X8_load_57 k0 (fb + 1) J M = Option.bind (Option.bind (f_X8_line J M) (fun q => RSg q.1 q.2)) (fun q => f_X8_load_57 k0 fb q.1 q.2) := by
  rw [f_X8_load_57, ob (good_t h33), if_neg b2i_t, if_neg h37]
  cases f_X8_line J M with
  | none => rfl
  | some q =>
    rw [obs, obs]
    unfold RSg
    cases f_X8_isSign 59 q.1 q.2 with
    | none => rfl
    | some q2 =>
      rw [obs, obs]
      cases f_X8_must q2 2 q.1 q.2 with
      | none => rfl
      | some q3 => rw [obs, obs]
theorem parse_loop : ∀ d fa fb s e k c n m mv ns ne I L J M, last - s ≤ d → d + 1 < fa → d + 1 < fb → c ≤ s → PU b last n m mv ns ne → (n = 0 → m = 0) → TkE b last s e k → CSt b last I L s e k n m mv ns ne → RSt b last J M s e k n m mv ns ne → PE b last I L J M (f_X5_parse_50 fa 1 (nI c) I L) (fun k0 => f_X8_load_57 k0 fb J M) := by
  intro d
  have stop : ∀ fa fb s e k c n m mv ns ne I L J M, c ≤ s → k = 0 → PU b last n m mv ns ne → TkE b last s e k → CSt b last I L s e k n m mv ns ne → RSt b last J M s e k n m mv ns ne → PE b last I L J M (f_X5_parse_50 (fa + 1) 1 (nI c) I L) (fun k0 => f_X8_load_57 k0 (fb + 1) J M) := by
    intro fa fb s e k c n m mv ns ne I L J M hc hk hP hT hC hR
    obtain ⟨i, hT'⟩ := id hT
    have hlt := Tok_lt hT'
    have hl := hP.1
    subst hk
    refine Or.inr ⟨s, e, n, m, mv, ns, ne, I, L, J, M, hP, ?_, hC, FC.refl, fun k0 => ?_, hR, FRf.refl⟩
    · rw [f_X5_parse_50, if_neg (by rw [show (400 : Int32) = nI 400 from rfl, q_lt (by decide) (by omega)]; omega), if_neg (by decide), if_pos (by rw [hC.2.2.1.2.2.1]; rfl)]
      rfl
    · dsimp only
      rw [f_X8_load_57, ob (good_t hR.2.2.2.1), if_neg b2i_t, if_pos (by rw [hR.2.2.1.2.2.1]; rfl)]
  induction d with
  | zero =>
    intro fa fb s e k c n m mv ns ne I L J M hd hfa hfb hc hP hz hT hC hR
    obtain ⟨fa, rfl⟩ : ∃ x, fa = x + 1 := ⟨fa - 1, by omega⟩
    obtain ⟨fb, rfl⟩ : ∃ x, fb = x + 1 := ⟨fb - 1, by omega⟩
    obtain ⟨i, hT'⟩ := id hT
    have hlt := Tok_lt hT'
    refine stop fa fb s e k c n m mv ns ne I L J M hc ?_ hP hT hC hR
    by_cases g : k = 0
    · exact g
    · have := hlt.2.2.2.1 g; omega
  | succ d ih =>
    intro fa fb s e k c n m mv ns ne I L J M hd hfa hfb hc hP hz hT hC hR
    obtain ⟨fa, rfl⟩ : ∃ x, fa = x + 2 := ⟨fa - 2, by omega⟩
    obtain ⟨fb, rfl⟩ : ∃ x, fb = x + 2 := ⟨fb - 2, by omega⟩
    obtain ⟨i, hT'⟩ := id hT
    have hlt := Tok_lt hT'
    have hl := hP.1
    by_cases hk : k = 0
    · exact stop (fa + 1) (fb + 1) s e k c n m mv ns ne I L J M hc hk hP hT hC hR
    · have sle := hlt.2.2.2.1 hk
      have h37 : ¬ J 43 37 = 0 := by rw [hR.2.2.1.2.2.1, ts_0 (by omega)]; exact hk
      have n7 : (I 1 7 = 0) = (n = 0) := by
        rw [hC.2.2.2.2.2.2.1]
        exact q_eq (a := n) (b := 0) (by have := hP.2.1; omega) (by decide)
      have st1 : f_X5_parse_50 (fa + 2) 1 (nI c) I L = Option.bind (CLe (if n = 0 then f_X5_readPoints I L else f_X5_readMove I L)) (fun q => if (b2i q.1) = 0 then some (false, q.2.1, q.2.2) else f_X5_parse_50 (fa + 1) 1 (nI (c + 1)) q.2.1 q.2.2) := by
        rw [show fa + 2 = fa + 1 + 1 from rfl, f_X5_parse_50, if_neg (by rw [show (400 : Int32) = nI 400 from rfl, q_lt (by decide) (by omega)]; omega), if_neg (by decide), if_neg (by rw [hC.2.2.1.2.2.1, show (0 : Int32) = nI 0 from rfl, q_eq (by omega) (by decide)]; exact hk), ifc n7]
        by_cases hn : n = 0
        · rw [if_pos hn, if_pos hn, parse_tail, nI_1]
        · rw [if_neg hn, if_neg hn, parse_tail, nI_1]
      have hLO : LO b last I L J M e (if n = 0 then f_X5_readPoints I L else f_X5_readMove I L) (f_X8_line J M) := by
        by_cases hn : n = 0
        · rw [if_pos hn]; exact points_LO hP hn (hz hn) hT hC hR
        · rw [if_neg hn]; exact move_LO hP hn hT hC hR
      have st2 : (fun k0 => f_X8_load_57 k0 (fb + 2) J M) = fun k0 => Option.bind (Option.bind (f_X8_line J M) (fun q => RSg q.1 q.2)) (fun q => f_X8_load_57 k0 (fb + 1) q.1 q.2) := by
        funext k0
        exact load_step k0 hR.2.2.2.1 h37
      rw [st1, st2]
      rcases line_end hl hLO with ⟨c', w, m', ⟨I1, L1, a1, a2⟩, ⟨J1, M1, d1, d2, d3⟩⟩ | ⟨s', e', k', n', m', mv', ns', ne', I1, L1, J1, M1, a1, a2, a3, a4, a5, a6, a7, a8, a9, a10⟩
      · refine Or.inl ⟨c', w, m', J1, M1, ⟨I1, L1, ?_, a2⟩, fun k0 => ?_, d2, d3⟩
        · rw [ob a1]
          dsimp only
          rw [if_pos b2i_f]
        · dsimp only
          rw [ob d1]
          dsimp only
          rw [f_X8_load_57, ob (bad_good d2), if_pos b2i_f]
      · have e1 : Option.bind (CLe (if n = 0 then f_X5_readPoints I L else f_X5_readMove I L)) (fun q => if (b2i q.1) = 0 then some (false, q.2.1, q.2.2) else f_X5_parse_50 (fa + 1) 1 (nI (c + 1)) q.2.1 q.2.2) = f_X5_parse_50 (fa + 1) 1 (nI (c + 1)) I1 L1 := by
          rw [ob a5]
          dsimp only
          rw [if_neg b2i_t]
        have e2 : (fun k0 => Option.bind (Option.bind (f_X8_line J M) (fun q => RSg q.1 q.2)) (fun q => f_X8_load_57 k0 (fb + 1) q.1 q.2)) = fun k0 => f_X8_load_57 k0 (fb + 1) J1 M1 := by
          funext k0
          rw [ob a8]
        rw [e1, e2]
        exact (ih (fa + 1) (fb + 1) s' e' k' (c + 1) n' m' mv' ns' ne' I1 L1 J1 M1 (by omega) (by omega) (by omega) (by omega) a3 (fun g => absurd g a2) a4 a6 a9).tr a7 a10
end LZB
