section LI2
variable {b : Nat → Int32} {last i s e k n m : Nat} {mv : Nat → Nat → Nat} {ns ne : Nat → Nat} {I J I' J' : MI} {L M L' M' : ML} {p : Nat → Nat}
def FB1 (I : MI) (L : ML) (I' : MI) (L' : ML) : Prop := (∀ q, q ≠ 1 → I' q = I q) ∧ (∀ q, q ≠ 1 → L' q = L q)
def FB2 (J : MI) (M : ML) (J' : MI) (M' : ML) : Prop := (∀ q, q ∉ [43, 46, 47, 48] → J' q = J q) ∧ (∀ f, f < 33 ∨ 41 < f → J' 43 f = J 43 f) ∧ (∀ q, q ≠ 43 → M' q = M q)
theorem FB1.refl : FB1 I L I L := ⟨fun _ _ => rfl, fun _ _ => rfl⟩
theorem FB1.trans {I'' : MI} {L'' : ML} (h : FB1 I L I' L') (g : FB1 I' L' I'' L'') : FB1 I L I'' L'' := ⟨fun q a => (g.1 q a).trans (h.1 q a), fun q a => (g.2 q a).trans (h.2 q a)⟩
theorem FB1.fc (h : FB1 I L I' L') : FC I L I' L' := ⟨fun q a _ _ => h.1 q a, fun q a _ => h.2 q a⟩
theorem FB1_o {S : List Nat} (h : Fo 1 S I I') : FB1 I L I' L := ⟨fun q a => h.1 q a, fun _ _ => rfl⟩
theorem FB1_l {j : Nat} {v : Int64} : FB1 I L I (up2 L 1 j v) := ⟨fun _ _ => rfl, fun q a => up2_ne a⟩
theorem FB2.refl : FB2 J M J M := ⟨fun _ _ => rfl, fun _ _ => rfl, fun _ _ => rfl⟩
theorem FB2.trans {J'' : MI} {M'' : ML} (h : FB2 J M J' M') (g : FB2 J' M' J'' M'') : FB2 J M J'' M'' := ⟨fun q a => (g.1 q a).trans (h.1 q a), fun q a => (g.2.1 q a).trans (h.2.1 q a), fun q a => (g.2.2 q a).trans (h.2.2 q a)⟩
theorem FB2.fr (h : FB2 J M J' M') : FRf J M J' M' := ⟨fun q a => h.1 q (fun g => a (by
  have h1 : ∀ x, x ∈ [43, 46, 47, 48] → x ∈ [43, 46, 47, 48, 68] := by decide
  exact h1 q g)), h.2.1, fun q a _ => h.2.2 q a⟩
theorem FB2_o {S : List Nat} (h : Fo 43 S J J') (hS : S.all (fun x => decide (33 ≤ x) && decide (x ≤ 41)) = true) (hM : ∀ q, q ≠ 43 → M' q = M q) : FB2 J M J' M' := by
  have g := FRf_o h hS hM
  exact ⟨fun q a => h.1 q (fun e => a (by rw [e]; decide)), g.2.1, hM⟩
theorem FB2_f {S : List Nat} (h : Fr S J J') (hS : ∀ q, q ∈ S → q ∈ [46, 47, 48]) : FB2 J M J' M := ⟨fun q a => h q (fun g => a (by
  have h1 : ∀ x, x ∈ [46, 47, 48] → x ∈ [43, 46, 47, 48] := by decide
  exact h1 q (hS q g))), fun f _ => by rw [h 43 (fun g => by have := hS 43 g; revert this; decide)], fun _ _ => rfl⟩
theorem item_both (hP : PU b last n m mv ns ne) (hT : TkE b last s e k) (hC : CSt b last I L s e k n m mv ns ne) (hR : RSt b last J M s e k n m mv ns ne) (hp : IsP n p) (h12 : L 1 12 = tn n p) (h48 : Row J 48 0 p) : (∃ c w, CFl I L (f_X5_readItem I L) c w ∧ RFl J M (f_X8_readsItem J M) c w m) ∨ (∃ s' e' k' p' I' L' J' M', e ≤ s' ∧ TkE b last s' e' k' ∧ f_X5_readItem I L = some (true, I', L') ∧ CSt b last I' L' s' e' k' n m mv ns ne ∧ IsP n p' ∧ L' 1 12 = tn n p' ∧ FB1 I L I' L' ∧ f_X8_readsItem J M = some (J', M') ∧ RSt b last J' M' s' e' k' n m mv ns ne ∧ Row J' 48 0 p' ∧ FB2 J M J' M') := by
  obtain ⟨i, hT⟩ := hT
  have hlt := Tok_lt hT
  have hn := hP.2.1
  have tl : ∀ (J1 : MI) (c w : Nat), BAD J1 c w m → ∀ (x : Bool) (F : Mm → Option Mm), Option.bind (f_X8_must x 4 J1 M) (fun q_5 => Option.bind (f_X8_good q_5.1 q_5.2) (fun q_6 => if (b2i q_6) = 0 then some (q_5.1, q_5.2) else F q_5)) = some (J1, M) := fun J1 c w h x F => by
    rw [ob (bad_must h _ _)]
    dsimp only
    rw [ob (bad_good h), if_pos b2i_f]
  unfold f_X8_readsItem
  rcases needName_both hP ⟨i, hT⟩ hC hR with ⟨⟨hk1, hrv⟩, a1, a2⟩ | ⟨_, ⟨I2, L2, a1, a2, a3, a4, a5⟩, a6⟩
  · subst hk1
    have hW := Tok_W hT
    rw [ob a2, ob (must_t 2)]
    dsimp only
    obtain ⟨r, r1, r2, r3⟩ := named_eq (L := L) hP.1 hP.2.2.1 hC.2.2.1 hC.2.1 hC.2.2.2.2.2.2.2.1 (fun t ht => (hC.2.2.2.2.2.2.2.2 t ht).2) (fun t ht => (hP.2.2.2 t ht).2) hW hR.2.2.2.2.2.1 (fun t ht => (hR.2.2.2.2.2.2 t ht).2) (hR.2.2.1.2.2.2.2 rfl)
    rw [ob r2, bnd_eq]
    unfold f_X5_readItem
    rw [ob a1]
    dsimp only
    rw [if_neg b2i_t, ob r1]
    rcases r3 with rfl | ⟨t, ht, rfl⟩
    · left
      rw [if_pos rfl, if_neg (by decide)]
      obtain ⟨J2, v1, v2, v3⟩ := must_f (a := 4) hP hR (by omega) (by decide) (by decide)
      have v1 : f_X8_must false 4 J M = some (J2, M) := v1
      obtain ⟨I2, u1, u2, u3, u4, u5⟩ := fail_eq (a := 4) hC
      have u1 : f_X5_fail 4 I L = some (false, I2, L) := u1
      refine ⟨4, s, ⟨I2, L, ?_, u2, u3, u4, u5⟩, ⟨J2, M, ?_, v2, v3⟩⟩
      · rw [ob u1]
      · rw [ob v1]
        dsimp only
        rw [ob (bad_good v2), if_pos b2i_f]
    · right
      have htm := hP.2.2.1
      have mP := (hP.2.2.2 t ht).1
      have mP10 := IsP_mono mP hn
      have pP10 := IsP_mono hp hn
      rw [if_pos (nI_pos' (by omega)), if_neg (nI_nm1 (by omega)), q_chk (by omega) (by decide), q_ix (by omega), (hC.2.2.2.2.2.2.2.2 t ht).1, bnd_eq]
      obtain ⟨s1, e1, k1, hT1⟩ := Tok_ex (b := b) (i := e) (last := last) (by omega)
      have hlt1 := Tok_lt hT1
      obtain ⟨I1, x1, x2, x3⟩ := cstep hP hC hT1
      obtain ⟨J1, M1, y1, y2, y3, y4⟩ := rstep hP hR (by decide) hT1
      rw [ob x1, ob (must_t 4)]
      dsimp only
      rw [ob (good_t hR.2.2.2.1), if_neg b2i_t, ob y1]
      dsimp only
      have cp1 : f_X8_copies 68 60 (10 * nI t) 46 10 0 J1 M1 = some (wp J1 46 0 (mv t), M1) := by
        rw [show (10 : Int32) = nI 10 from rfl, pk_mul]
        exact copiesx0 (y2.2.2.2.2.2.2 t ht).1 (by decide) (by omega) (by decide) (by decide) (by decide)
      have cp2 : f_X8_copies 46 10 0 47 10 0 (wp J1 46 0 (mv t)) M1 = some (wp (wp J1 46 0 (mv t)) 47 0 (mv t), M1) := copies10 Row_wp (by decide)
      have R3 : RSt b last (wp (wp J1 46 0 (mv t)) 47 0 (mv t)) M1 s1 e1 k1 n m mv ns ne := y2.fr (by rw [wp_ne (by decide), wp_ne (by decide)]) (by rw [wp_ne (by decide), wp_ne (by decide)]) (by rw [wp_ne (by decide), wp_ne (by decide)])
      have sg : f_X8_isSign 39 (wp (wp J1 46 0 (mv t)) 47 0 (mv t)) M1 = some (decide (k1 = 39)) := isSign_eq (g := 39) (by decide) hP.1 R3.2.2.2.1 R3.1 R3.2.1 R3.2.2.1 hT1
      have r48 : Row (wp (wp J1 46 0 (mv t)) 47 0 (mv t)) 48 0 p := Row_ne (by decide) (Row_ne (by decide) (Row_of (y3.1 48 (by decide)) h48))
      have fb1 : FB2 J M (wp (wp J1 46 0 (mv t)) 47 0 (mv t)) M1 := (FB2_o y3 (by decide) y4).trans (FB2_f (S := [46, 47]) ((Fr_wp (by decide)).trans (Fr_wp (by decide))) (by decide))
      have k4 : I1 1 4 = nI k1 := x2.2.2.1.2.2.1
      have i7 : I1 1 7 = nI n := x2.2.2.2.2.2.2.1
      rw [ob cp1]
      dsimp only
      rw [ob cp2]
      dsimp only
      have e39 : (I1 1 4 = 39) = (k1 = 39) := by
        rw [k4]
        exact q_eq (by omega) (by decide)
      rw [ob sg, bnd_eq, ifc e39]
      by_cases c39 : k1 = 39
      · obtain ⟨s2, e2, k2, hT2⟩ := Tok_ex (b := b) (i := e1) (last := last) (by omega)
        have hlt2 := Tok_lt hT2
        obtain ⟨I2, z1, z2, z3⟩ := cstep hP x2 hT2
        have R4 : RSt b last (wp (wp (wp J1 46 0 (mv t)) 47 0 (mv t)) 47 0 (iv (mv t))) M1 s1 e1 k1 n m mv ns ne := R3.fr (wp_ne (by decide)) (wp_ne (by decide)) (wp_ne (by decide))
        obtain ⟨J2, M2, w1, w2, w3, w4⟩ := rstep hP R4 (by omega) hT2
        have iP := IsP_iv hn mP
        have r48' : Row J2 48 0 p := Row_of (w3.1 48 (by decide)) (Row_ne (by decide) r48)
        have r47' : Row J2 47 0 (iv (mv t)) := Row_of (w3.1 47 (by decide)) Row_wp
        have cp3 : f_X8_copies 48 10 0 46 10 0 J2 M2 = some (wp J2 46 0 p, M2) := copies10 r48' (by decide)
        have mk := makes_eq (I := wp J2 46 0 p) (L := M2) (a := 46) (b := 47) (c := 48) Row_wp (Row_ne (by decide) r47') pP10 (by decide) (by decide)
        rw [if_pos c39, i7, ob (invert_eq hn mP), ob z1, decide_eq_true c39, if_neg b2i_t]
        dsimp only
        rw [h12, z2.2.2.2.2.2.2.1, ob (compose_eq hn hp iP), bnd_eq, ob (inverts_eq (Row_ne (by decide) Row_wp) mP10 (by decide))]
        dsimp only
        rw [ob w1]
        dsimp only
        rw [ob cp3]
        dsimp only
        rw [ob mk]
        refine ⟨s2, e2, k2, cp p (iv (mv t)), I2, _, _, M2, by omega, ⟨e1, hT2⟩, rfl, z2.frL (up2_ne (by decide)), IsP_cp hp iP, up2_s, ((FB1_o x3).trans (FB1_o z3)).trans FB1_l, rfl, w2.fr (by dsimp only; rw [wp_ne (by decide), wp_ne (by decide)]) (by dsimp only; rw [wp_ne (by decide), wp_ne (by decide)]) (by dsimp only; rw [wp_ne (by decide), wp_ne (by decide)]), Row_wp, ?_⟩
        exact ((fb1.trans (FB2_f (S := [47]) (Fr_wp (by decide)) (by decide))).trans (FB2_o w3 (by decide) w4)).trans (FB2_f (S := [46, 48]) ((Fr_wp (by decide)).trans (Fr_wp (by decide))) (by decide))
      · have cp3 : f_X8_copies 48 10 0 46 10 0 (wp (wp J1 46 0 (mv t)) 47 0 (mv t)) M1 = some (wp (wp (wp J1 46 0 (mv t)) 47 0 (mv t)) 46 0 p, M1) := copies10 r48 (by decide)
        have mk := makes_eq (I := wp (wp (wp J1 46 0 (mv t)) 47 0 (mv t)) 46 0 p) (L := M1) (a := 46) (b := 47) (c := 48) Row_wp (Row_ne (by decide) Row_wp) pP10 (by decide) (by decide)
        rw [if_neg c39, h12, i7, ob (compose_eq hn hp mP), bnd_eq, decide_eq_false c39, if_pos b2i_f]
        dsimp only
        rw [ob cp3]
        dsimp only
        rw [ob mk]
        refine ⟨s1, e1, k1, cp p (mv t), I1, _, _, M1, hlt1.1, ⟨e, hT1⟩, rfl, x2.frL (up2_ne (by decide)), IsP_cp hp mP, up2_s, (FB1_o x3).trans FB1_l, rfl, R3.fr (by dsimp only; rw [wp_ne (by decide), wp_ne (by decide)]) (by dsimp only; rw [wp_ne (by decide), wp_ne (by decide)]) (by dsimp only; rw [wp_ne (by decide), wp_ne (by decide)]), Row_wp, ?_⟩
        exact fb1.trans (FB2_f (S := [46, 48]) ((Fr_wp (by decide)).trans (Fr_wp (by decide))) (by decide))
  · left
    rw [ob a6]
    obtain ⟨J2, v1, v2, v3⟩ := must_f (a := 2) hP hR (by omega) (by decide) (by decide)
    have v1 : f_X8_must false 2 J M = some (J2, M) := v1
    obtain ⟨r, hr⟩ := bad_name (M := M) v2
    refine ⟨mc 2 k, s, ⟨I2, L2, ?_, a2, a3, a4, a5⟩, ⟨J2, M, ?_, v2, v3⟩⟩
    · unfold f_X5_readItem
      rw [ob a1]
      dsimp only
      rw [if_pos b2i_f]
    · rw [ob v1]
      dsimp only
      rw [ob hr, bnd_eq]
      split
      · exact tl J2 _ _ v2 false _
      · exact tl J2 _ _ v2 true _
/-- how reading what a move does may end -/
def BO (b : Nat → Int32) (last n m : Nat) (mv : Nat → Nat → Nat) (ns ne : Nat → Nat) (I : MI) (L : ML) (J : MI) (M : ML) (s : Nat) (oc : Option (Bool × Mm)) (or : Option Mm) : Prop :=
  (∃ c w, CFl I L oc c w ∧ RFl J M or c w m) ∨
  (∃ s' e' J' M', CFl I L oc 2 s' ∧ TkE b last s' e' 1 ∧ or = some (J', M') ∧ RSt b last J' M' s' e' 1 n m mv ns ne ∧ FB2 J M J' M') ∨
  (∃ s' e' k' p' I' L' J' M', s ≤ s' ∧ TkE b last s' e' k' ∧ oc = some (true, I', L') ∧ CSt b last I' L' s' e' k' n m mv ns ne ∧ IsP n p' ∧ L' 1 12 = tn n p' ∧ FB1 I L I' L' ∧ or = some (J', M') ∧ RSt b last J' M' s' e' k' n m mv ns ne ∧ Row J' 48 0 p' ∧ FB2 J M J' M')
theorem CFl.tr {o : Option (Bool × Mm)} {c w : Nat} (h : FC I L I' L') (g : CFl I' L' o c w) : CFl I L o c w := by
  obtain ⟨I2, L2, a1, a2, a3, a4, a5⟩ := g
  exact ⟨I2, L2, a1, a2, a3, a4, h.trans a5⟩
theorem RFl.tr {o : Option Mm} {c w m' : Nat} (h : FRf J M J' M') (g : RFl J' M' o c w m') : RFl J M o c w m' := by
  obtain ⟨I2, L2, a1, a2, a3⟩ := g
  exact ⟨I2, L2, a1, a2, h.trans a3⟩
theorem BO.tr {oc : Option (Bool × Mm)} {or : Option Mm} {s1 : Nat} (h1 : FB1 I L I' L') (h2 : FB2 J M J' M') (hs : s ≤ s1) (g : BO b last n m mv ns ne I' L' J' M' s1 oc or) : BO b last n m mv ns ne I L J M s oc or := by
  rcases g with ⟨c, w, a, d⟩ | ⟨s', e', J2, M2, a1, a2, a3, a4, a5⟩ | ⟨s', e', k', p', I2, L2, J2, M2, a1, a2, a3, a4, a5, a6, a7, a8, a9, a10, a11⟩
  · exact Or.inl ⟨c, w, a.tr h1.fc, d.tr h2.fr⟩
  · exact Or.inr (Or.inl ⟨s', e', J2, M2, a1.tr h1.fc, a2, a3, a4, h2.trans a5⟩)
  · exact Or.inr (Or.inr ⟨s', e', k', p', I2, L2, J2, M2, by omega, a2, a3, a4, a5, a6, h1.trans a7, a8, a9, a10, h2.trans a11⟩)
theorem items_loop (hP : PU b last n m mv ns ne) : ∀ d fa fb s e k c I L J M p, last - s ≤ d → d < fa → d + 1 < fb → c ≤ s → TkE b last s e k → CSt b last I L s e k n m mv ns ne → RSt b last J M s e k n m mv ns ne → IsP n p → L 1 12 = tn n p → Row J 48 0 p → BO b last n m mv ns ne I L J M s (f_X5_readItems_12 fa (nI c) I L) (f_X8_readsWord_8 fb J M) := by
  intro d
  induction d with
  | zero =>
    intro fa fb s e k c I L J M p hd hfa hfb hc hT hC hR hp h12 h48
    obtain ⟨fa, rfl⟩ : ∃ x, fa = x + 1 := ⟨fa - 1, by omega⟩
    obtain ⟨fb, rfl⟩ : ∃ x, fb = x + 1 := ⟨fb - 1, by omega⟩
    obtain ⟨i, hT'⟩ := id hT
    have hlt := Tok_lt hT'
    have hk : k = 0 := by
      by_cases g : k = 0
      · exact g
      · have := hlt.2.2.2.1 g; omega
    have nm := isName_eq (last := last) (M := M) (c := false) hR.2.2.2.1 hR.2.2.1 (by omega) (fun g => by omega) ⟨(fun g => by cases g), fun g => by omega⟩
    rw [f_X5_readItems_12, if_neg (by rw [show (400 : Int32) = nI 400 from rfl, q_lt (by decide) (by have := hP.1; omega)]; have := hP.1; omega), hC.2.2.1.2.2.1, if_neg (by rw [hk]; decide), f_X8_readsWord_8, ob nm, if_pos b2i_f]
    exact Or.inr (Or.inr ⟨s, e, k, p, I, L, J, M, Nat.le_refl _, hT, rfl, hC, hp, h12, FB1.refl, rfl, hR, h48, FB2.refl⟩)
  | succ d ih =>
    intro fa fb s e k c I L J M p hd hfa hfb hc hT hC hR hp h12 h48
    obtain ⟨fa, rfl⟩ : ∃ x, fa = x + 1 := ⟨fa - 1, by omega⟩
    obtain ⟨fb, rfl⟩ : ∃ x, fb = x + 1 := ⟨fb - 1, by omega⟩
    obtain ⟨i, hT'⟩ := id hT
    have hlt := Tok_lt hT'
    have hl := hP.1
    obtain ⟨g, hg⟩ := em_B (k = 1 ∧ ¬ Rsv b s e)
    have nm := isName_eq (M := M) hR.2.2.2.1 hR.2.2.1 (by omega) (fun g => by subst g; exact Tok_W hT') hg
    have k4 : (I 1 4 = 1) = (k = 1) := by
      rw [hC.2.2.1.2.2.1]
      exact q_eq (by omega) (by decide)
    rw [f_X5_readItems_12, if_neg (by rw [show (400 : Int32) = nI 400 from rfl, q_lt (by decide) (by omega)]; omega), ifc k4, f_X8_readsWord_8, ob nm]
    by_cases hk : k = 1
    · rw [if_pos hk]
      have sle : s < e := hlt.2.2.2.1 (by omega)
      cases g
      · rw [if_pos b2i_f]
        have hr : Rsv b s e := by
          by_cases x : Rsv b s e
          · exact x
          · exact absurd (hg.mpr ⟨hk, x⟩) (by decide)
        rcases needName_both hP hT hC hR with ⟨⟨_, x⟩, _⟩ | ⟨_, ⟨I2, L2, a1, a2, a3, a4, a5⟩, _⟩
        · exact absurd hr x
        · refine Or.inr (Or.inl ⟨s, e, J, M, ⟨I2, L2, ?_, by rw [hk, mc2_1] at a2; exact a2, a3, a4, a5⟩, by rw [← hk]; exact hT, rfl, by rw [← hk]; exact hR, FB2.refl⟩)
          have : f_X5_readItem I L = some (false, I2, L2) := by
            unfold f_X5_readItem
            rw [ob a1]
            dsimp only
            rw [if_pos b2i_f]
          rw [ob this]
          dsimp only
          rw [if_pos b2i_f]
      · rw [if_neg b2i_t]
        rcases item_both hP hT hC hR hp h12 h48 with ⟨c', w, ⟨I2, L2, a1, a2⟩, ⟨J2, M2, b1, b2, b3⟩⟩ | ⟨s', e', k', p', I2, L2, J2, M2, a1, a2, a3, a4, a5, a6, a7, a8, a9, a10, a11⟩
        · refine Or.inl ⟨c', w, ⟨I2, L2, ?_, a2⟩, ⟨J2, M2, ?_, b2, b3⟩⟩
          · rw [ob a1]
            dsimp only
            rw [if_pos b2i_f]
          · rw [ob b1]
            dsimp only
            obtain ⟨fb, rfl⟩ : ∃ x, fb = x + 1 := ⟨fb - 1, by omega⟩
            rw [f_X8_readsWord_8, ob (bad_isName b2), if_pos b2i_f]
        · rw [ob a3, ob a8]
          dsimp only
          rw [if_neg b2i_t, bnd_eq, nI_1]
          exact (ih fa fb s' e' k' (c + 1) I2 L2 J2 M2 p' (by omega) (by omega) (by omega) (by omega) a2 a4 a9 a5 a6 a10).tr a7 a11 (by omega)
    · have hgf : g = false := by
        cases h : g
        · rfl
        · exact absurd (hg.mp h).1 hk
      rw [if_neg hk, hgf, if_pos b2i_f]
      exact Or.inr (Or.inr ⟨s, e, k, p, I, L, J, M, Nat.le_refl _, hT, rfl, hC, hp, h12, FB1.refl, rfl, hR, h48, FB2.refl⟩)
/-- a word of moves -/
theorem word_both (hP : PU b last n m mv ns ne) (hT : TkE b last s e k) (hC : CSt b last I L s e k n m mv ns ne) (hR : RSt b last J M s e k n m mv ns ne) (hp : IsP n p) (h12 : L 1 12 = tn n p) (h48 : Row J 48 0 p) : BO b last n m mv ns ne I L J M s (f_X5_readItems I L) (Option.bind (f_X8_readsItem J M) (fun q => f_X8_readsWord_8 FU q.1 q.2)) := by
  obtain ⟨i, hT'⟩ := id hT
  have hlt := Tok_lt hT'
  have hl := hP.1
  unfold f_X5_readItems
  have fu : FU = 999999999 + 1 := rfl
  by_cases hk : k = 1
  · have nd : f_X5_need 1 I L = some (true, I, L) := need_t hC hk
    have sle : s < e := hlt.2.2.2.1 (by omega)
    rw [ob nd]
    dsimp only
    rw [if_neg b2i_t]
    have st1 : f_X5_readItems_12 FU 0 I L = Option.bind (f_X5_readItem I L) (fun q_5 => if (b2i q_5.1) = 0 then some (false, q_5.2.1, q_5.2.2) else f_X5_readItems_12 999999999 (nI 1) q_5.2.1 q_5.2.2) := by
      rw [fu, f_X5_readItems_12, if_neg (by decide), hC.2.2.1.2.2.1, if_pos (by rw [hk]; decide)]
      rfl
    rw [st1]
    rcases item_both hP hT hC hR hp h12 h48 with ⟨c', w, ⟨I2, L2, a1, a2⟩, ⟨J2, M2, b1, b2, b3⟩⟩ | ⟨s', e', k', p', I2, L2, J2, M2, a1, a2, a3, a4, a5, a6, a7, a8, a9, a10, a11⟩
    · refine Or.inl ⟨c', w, ⟨I2, L2, ?_, a2⟩, ⟨J2, M2, ?_, b2, b3⟩⟩
      · rw [ob a1]
        dsimp only
        rw [if_pos b2i_f]
      · rw [ob b1]
        dsimp only
        rw [fu, f_X8_readsWord_8, ob (bad_isName b2), if_pos b2i_f]
    · rw [ob a3, ob a8]
      dsimp only
      rw [if_neg b2i_t]
      exact (items_loop hP 400 999999999 FU s' e' k' 1 I2 L2 J2 M2 p' (by omega) (by decide) (by rw [fu]; decide) (by omega) a2 a4 a9 a5 a6 a10).tr a7 a11 (by omega)
  · obtain ⟨I1, x1, x2⟩ := need_f (a := 1) hC hk (by omega) (by decide)
    have x1 : f_X5_need 1 I L = some (false, I1, L) := x1
    obtain ⟨J2, v1, v2, v3⟩ := must_f (a := 2) hP hR (by omega) (by decide) (by decide)
    have v1 : f_X8_must false 2 J M = some (J2, M) := v1
    obtain ⟨r, hr⟩ := bad_name (M := M) v2
    have nm := isName_eq (last := last) (M := M) (c := false) hR.2.2.2.1 hR.2.2.1 (by omega) (fun g => absurd g hk) ⟨(fun g => by cases g), fun g => absurd g.1 hk⟩
    have ri : f_X8_readsItem J M = some (J2, M) := by
      unfold f_X8_readsItem
      rw [ob nm, ob v1]
      dsimp only
      rw [ob hr, bnd_eq]
      split
      · dsimp only
        rw [ob (bad_must v2 _ _)]
        dsimp only
        rw [ob (bad_good v2), if_pos b2i_f]
      · dsimp only
        rw [ob (bad_must v2 _ _)]
        dsimp only
        rw [ob (bad_good v2), if_pos b2i_f]
    refine Or.inl ⟨mc 2 k, s, ⟨I1, L, ?_, x2⟩, ⟨J2, M, ?_, v2, v3⟩⟩
    · rw [ob x1]
      dsimp only
      rw [if_pos b2i_f]
    · rw [ob ri]
      dsimp only
      rw [fu, f_X8_readsWord_8, ob (bad_isName v2), if_pos b2i_f]
end LI2
