/-! Loading: the two readers in step -/
section LS
variable {b : Nat → Int32} {last i s e k n m : Nat} {mv : Nat → Nat → Nat} {ns ne : Nat → Nat} {I J I' J' : MI} {L M L' M' : ML}
/-- what both know alike -/
def PU (b : Nat → Int32) (last n m : Nat) (mv : Nat → Nat → Nat) (ns ne : Nat → Nat) : Prop := last ≤ 400 ∧ n ≤ 10 ∧ m ≤ 6 ∧ ∀ t, t < m → IsP n (mv t) ∧ Wd b last (ns t) (ne t)
def TkE (b : Nat → Int32) (last s e k : Nat) : Prop := ∃ i, Tok b last i s e k
def CSt (b : Nat → Int32) (last : Nat) (I : MI) (L : ML) (s e k n m : Nat) (mv : Nat → Nat → Nat) (ns ne : Nat → Nat) : Prop := I 1 2 = nI last ∧ (∀ j, j < last → I 2 j = b j) ∧ CTk b I s e k ∧ I 1 1 = 0 ∧ I 1 14 = 0 ∧ I 1 15 = -1 ∧ I 1 7 = nI n ∧ I 1 8 = nI m ∧ ∀ t, t < m → L 3 t = tn n (mv t) ∧ I 4 t = nI (ns t) ∧ I 5 t = nI (ne t - ns t)
def RSt (b : Nat → Int32) (last : Nat) (J : MI) (M : ML) (s e k n m : Nat) (mv : Nat → Nat → Nat) (ns ne : Nat → Nat) : Prop := J 43 39 = nI last ∧ (∀ j, j < last → J 66 j = b j) ∧ RTk b J M s e k ∧ J 43 33 = 0 ∧ J 43 40 = nI n ∧ J 43 41 = nI m ∧ ∀ t, t < m → Row J 68 (10 * t) (mv t) ∧ M 67 t = lN (wv b (ns t) (ne t - ns t))
def FC (I : MI) (L : ML) (I' : MI) (L' : ML) : Prop := (∀ q, q ≠ 1 → q ≠ 4 → q ≠ 5 → I' q = I q) ∧ (∀ q, q ≠ 1 → q ≠ 3 → L' q = L q)
def FRf (J : MI) (M : ML) (J' : MI) (M' : ML) : Prop := (∀ q, q ∉ [43, 46, 47, 48, 68] → J' q = J q) ∧ (∀ f, f < 33 ∨ 41 < f → J' 43 f = J 43 f) ∧ (∀ q, q ≠ 43 → q ≠ 67 → M' q = M q)
theorem FC.refl : FC I L I L := ⟨fun _ _ _ _ => rfl, fun _ _ _ => rfl⟩
theorem FC.trans {I'' : MI} {L'' : ML} (h : FC I L I' L') (g : FC I' L' I'' L'') : FC I L I'' L'' := ⟨fun q a b c => (g.1 q a b c).trans (h.1 q a b c), fun q a b => (g.2 q a b).trans (h.2 q a b)⟩
theorem FRf.refl : FRf J M J M := ⟨fun _ _ => rfl, fun _ _ => rfl, fun _ _ _ => rfl⟩
theorem FRf.trans {J'' : MI} {M'' : ML} (h : FRf J M J' M') (g : FRf J' M' J'' M'') : FRf J M J'' M'' := ⟨fun q a => (g.1 q a).trans (h.1 q a), fun q a => (g.2.1 q a).trans (h.2.1 q a), fun q a b => (g.2.2 q a b).trans (h.2.2 q a b)⟩
theorem FC_o {S : List Nat} (h : Fo 1 S I I') : FC I L I' L := ⟨fun q a _ _ => h.1 q a, fun _ _ _ => rfl⟩
theorem FRf_o {S : List Nat} (h : Fo 43 S J J') (hS : S.all (fun x => decide (33 ≤ x) && decide (x ≤ 41)) = true) (hM : ∀ q, q ≠ 43 → M' q = M q) : FRf J M J' M' := ⟨fun q a => h.1 q (fun g => a (by rw [g]; decide)), fun f hf => h.2 f (fun g => by
  have := List.all_eq_true.mp hS f g
  have h1 := of_decide_eq_true (Bool.and_eq_true_iff.mp this).1
  have h2 := of_decide_eq_true (Bool.and_eq_true_iff.mp this).2
  omega), fun q a _ => hM q a⟩
theorem cstep {s' e' k' : Nat} (hP : PU b last n m mv ns ne) (hC : CSt b last I L s e k n m mv ns ne) (hT : Tok b last e s' e' k') : ∃ I', f_X5_scan I L = some (I', L) ∧ CSt b last I' L s' e' k' n m mv ns ne ∧ Fo 1 [3, 4, 5, 6] I I' := by
  obtain ⟨c1, c2, c3, c4, c5, c6, c7, c8, c9⟩ := hC
  obtain ⟨I', x1, x2, x3⟩ := scan_eq (L := L) c1 c3.2.1 hP.1 c2 hT
  refine ⟨I', x1, ⟨by rw [x3.2 2 (by decide)]; exact c1, fun j hj => by rw [x3.1 2 (by decide)]; exact c2 j hj, x2, by rw [x3.2 1 (by decide)]; exact c4, by rw [x3.2 14 (by decide)]; exact c5, by rw [x3.2 15 (by decide)]; exact c6, by rw [x3.2 7 (by decide)]; exact c7, by rw [x3.2 8 (by decide)]; exact c8, fun t ht => ?_⟩, x3⟩
  rw [x3.1 4 (by decide), x3.1 5 (by decide)]; exact c9 t ht
theorem rstep {s' e' k' : Nat} (hP : PU b last n m mv ns ne) (hR : RSt b last J M s e k n m mv ns ne) (hk : k ≠ 0) (hT : Tok b last e s' e' k') : ∃ J' M', f_X8_reads J M = some (J', M') ∧ RSt b last J' M' s' e' k' n m mv ns ne ∧ Fo 43 [35, 36, 37, 38] J J' ∧ (∀ q, q ≠ 43 → M' q = M q) := by
  obtain ⟨c1, c2, c3, c4, c5, c6, c7⟩ := hR
  obtain ⟨J', M', x1, x2, x3, x4⟩ := reads_eq (M := M) c1 (c3.2.1 hk) hP.1 c2 hT
  refine ⟨J', M', x1, ⟨by rw [x3.2 39 (by decide)]; exact c1, fun j hj => by rw [x3.1 66 (by decide)]; exact c2 j hj, x2, by rw [x3.2 33 (by decide)]; exact c4, by rw [x3.2 40 (by decide)]; exact c5, by rw [x3.2 41 (by decide)]; exact c6, fun t ht => ?_⟩, x3, x4⟩
  rw [x4 67 (by decide)]
  exact ⟨Row_of (x3.1 68 (by decide)) (c7 t ht).1, (c7 t ht).2⟩
/-- the reference has found a fault -/
def BAD (J : MI) (c p m : Nat) : Prop := J 43 33 = nI c ∧ 1 ≤ c ∧ c ≤ 5 ∧ J 43 34 = nI p ∧ J 43 41 = nI m ∧ m ≤ 6
section BDS
variable {c p : Nat}
theorem BAD.fr {m' : Nat} (h : BAD J c p m) (h33 : J' 43 33 = J 43 33) (h34 : J' 43 34 = J 43 34) (h41 : J' 43 41 = nI m') (hm : m' ≤ 6) : BAD J' c p m' := ⟨by rw [h33]; exact h.1, h.2.1, h.2.2.1, by rw [h34]; exact h.2.2.2.1, h41, hm⟩
theorem bad_good (h : BAD J c p m) : f_X8_good J M = some false := by
  unfold f_X8_good
  rw [h.1, if_neg (nI_ne0 (by have := h.2.1; omega) (by have := h.2.2.1; omega))]
theorem bad_must (h : BAD J c p m) (x : Bool) (a : Int32) : f_X8_must x a J M = some (J, M) := by
  unfold f_X8_must
  cases x
  · rw [if_pos b2i_f, h.1, if_neg (by
      rw [show (0 : Int32) = nI 0 from rfl, q_le (by have := h.2.2.1; omega) (by decide)]
      have := h.2.1; omega)]
  · rw [if_neg b2i_t]
theorem bad_goesOn (h : BAD J c p m) : f_X8_goesOn J M = some (J, M) := by
  unfold f_X8_goesOn
  rw [ob (bad_good h), if_pos b2i_f]
theorem bad_isSign (h : BAD J c p m) (a : Int32) : f_X8_isSign a J M = some false := by
  unfold f_X8_isSign
  rw [ob (bad_good h), if_pos b2i_f]
theorem bad_isName (h : BAD J c p m) : f_X8_isName J M = some false := by
  unfold f_X8_isName
  rw [ob (bad_good h), if_pos b2i_f]
theorem bad_isWord (h : BAD J c p m) (a : Int64) : f_X8_isWord a J M = some false := by
  unfold f_X8_isWord
  rw [ob (bad_good h), if_pos b2i_f]
theorem bad_name (h : BAD J c p m) : ∃ r, f_X8_nameNow J M = some r := nameNow_any h.2.2.2.2.2 h.2.2.2.2.1
end BDS
theorem must_t (a : Int32) : f_X8_must true a J M = some (J, M) := by
  unfold f_X8_must
  rw [if_neg b2i_t]
def mc (a k : Nat) : Nat := if a = 2 ∧ k = 3 then 1 else a
theorem ts_4 {k : Nat} (h : k ≤ 59) : (nI (ts k) = 4) = (k = 3) := by
  rw [show (4 : Int32) = nI 4 from rfl, q_eq (by unfold ts; split <;> (try split) <;> omega) (by decide)]
  apply propext
  unfold ts
  split
  · omega
  · split <;> omega
theorem must_f {a : Nat} (hP : PU b last n m mv ns ne) (hR : RSt b last J M s e k n m mv ns ne) (hk : k ≤ 59) (ha : 1 ≤ a) (ha2 : a ≤ 5) : ∃ J', f_X8_must false (nI a) J M = some (J', M) ∧ BAD J' (mc a k) s m ∧ FRf J M J' M := by
  obtain ⟨c1, c2, c3, c4, c5, c6, c7⟩ := hR
  have key : f_X8_must false (nI a) J M = some (up2 (up2 J 43 33 (nI (mc a k))) 43 34 (nI s), M) := by
    unfold f_X8_must
    rw [if_pos b2i_f, c4, if_pos (by decide), ifc (show (nI a = 2) = (a = 2) from q_eq (by omega) (by decide)), c3.2.2.1, ifc (ts_4 hk)]
    unfold mc
    by_cases g : a = 2
    · rw [if_pos g]
      by_cases g2 : k = 3
      · rw [if_pos g2, if_pos ⟨g, g2⟩, bnd_eq, up2_n (by decide), c3.1, bnd_eq]
        rfl
      · rw [if_neg g2, if_neg (fun x => g2 x.2), bnd_eq, up2_n (by decide), c3.1, bnd_eq]
    · rw [if_neg g, if_neg (fun x => g x.1), bnd_eq, up2_n (by decide), c3.1, bnd_eq]
  refine ⟨_, key, ⟨by rw [up2_n (by decide), up2_s], ?_, ?_, up2_s, by rw [up2_n (by decide), up2_n (by decide)]; exact c6, hP.2.2.1⟩, FRf_o (S := [33, 34]) ((Fo_up (by decide)).trans (Fo_up (by decide))) (by decide) (fun _ _ => rfl)⟩
  · unfold mc; split <;> omega
  · unfold mc; split <;> omega
theorem goesOn_t {s' e' k' : Nat} (hP : PU b last n m mv ns ne) (hR : RSt b last J M s e k n m mv ns ne) (hk : k ≠ 0) (hT : Tok b last e s' e' k') : ∃ J' M', f_X8_goesOn J M = some (J', M') ∧ RSt b last J' M' s' e' k' n m mv ns ne ∧ Fo 43 [35, 36, 37, 38] J J' ∧ (∀ q, q ≠ 43 → M' q = M q) := by
  obtain ⟨J', M', x1, x2⟩ := rstep hP hR hk hT
  refine ⟨J', M', ?_, x2⟩
  unfold f_X8_goesOn
  rw [ob (good_t hR.2.2.2.1), if_neg b2i_t, ob x1]
/-- the class has found a fault -/
def CFl (I : MI) (L : ML) (o : Option (Bool × Mm)) (c p : Nat) : Prop := ∃ I' L', o = some (false, I', L') ∧ I' 1 14 = nI c ∧ I' 1 15 = nI p ∧ I' 1 1 = 0 ∧ FC I L I' L'
def RFl (J : MI) (M : ML) (o : Option Mm) (c p m : Nat) : Prop := ∃ J' M', o = some (J', M') ∧ BAD J' c p m ∧ FRf J M J' M'
theorem fail_eq {a : Nat} (hC : CSt b last I L s e k n m mv ns ne) : ∃ I', f_X5_fail (nI a) I L = some (false, I', L) ∧ I' 1 14 = nI a ∧ I' 1 15 = nI s ∧ I' 1 1 = 0 ∧ FC I L I' L := by
  obtain ⟨c1, c2, c3, c4, c5, c6, c7, c8, c9⟩ := hC
  unfold f_X5_fail
  rw [bnd_eq, up2_n (by decide), c3.1, bnd_eq]
  exact ⟨_, rfl, by rw [up2_n (by decide), up2_s], up2_s, by rw [up2_n (by decide), up2_n (by decide)]; exact c4, FC_o (S := [14, 15]) ((Fo_up (by decide)).trans (Fo_up (by decide)))⟩
theorem need_t {a : Nat} (hC : CSt b last I L s e k n m mv ns ne) (h : k = a) : f_X5_need (nI a) I L = some (true, I, L) := by
  unfold f_X5_need
  rw [hC.2.2.1.2.2.1, if_pos (by rw [h])]
theorem need_f {a : Nat} (hC : CSt b last I L s e k n m mv ns ne) (h : k ≠ a) (hk : k ≤ 59) (ha : a ≤ 59) : ∃ I', f_X5_need (nI a) I L = some (false, I', L) ∧ I' 1 14 = nI (mc 2 k) ∧ I' 1 15 = nI s ∧ I' 1 1 = 0 ∧ FC I L I' L := by
  unfold f_X5_need
  rw [hC.2.2.1.2.2.1, if_neg (by rw [q_eq (by omega) (by omega)]; exact h), ifc (show (nI k = 3) = (k = 3) from q_eq (by omega) (by decide))]
  by_cases g : k = 3
  · obtain ⟨I', x1, x2⟩ := fail_eq (a := 1) hC
    have x1 : f_X5_fail 1 I L = some (false, I', L) := x1
    refine ⟨I', ?_, ?_⟩
    · rw [if_pos g, ob x1]
    · rw [show mc 2 k = 1 from if_pos ⟨rfl, g⟩]; exact x2
  · obtain ⟨I', x1, x2⟩ := fail_eq (a := 2) hC
    have x1 : f_X5_fail 2 I L = some (false, I', L) := x1
    refine ⟨I', ?_, ?_⟩
    · rw [if_neg g, ob x1]
    · rw [show mc 2 k = 2 from if_neg (fun x => g x.2)]; exact x2
/-- a sign that must stand there -/
theorem sign_both {g : Nat} (hg : g = 40 ∨ g = 41 ∨ g = 39 ∨ g = 59) (hP : PU b last n m mv ns ne) (hT : TkE b last s e k) (hC : CSt b last I L s e k n m mv ns ne) (hR : RSt b last J M s e k n m mv ns ne) : (k ≠ g ∧ CFl I L (f_X5_readSign (nI g) I L) (mc 2 k) s ∧ RFl J M (Option.bind (f_X8_isSign (nI g) J M) (fun q => Option.bind (f_X8_must q 2 J M) (fun q2 => f_X8_goesOn q2.1 q2.2))) (mc 2 k) s m) ∨ (k = g ∧ ∃ s' e' k' I' J' M', Tok b last e s' e' k' ∧ f_X5_readSign (nI g) I L = some (true, I', L) ∧ CSt b last I' L s' e' k' n m mv ns ne ∧ Fo 1 [3, 4, 5, 6] I I' ∧ Option.bind (f_X8_isSign (nI g) J M) (fun q => Option.bind (f_X8_must q 2 J M) (fun q2 => f_X8_goesOn q2.1 q2.2)) = some (J', M') ∧ RSt b last J' M' s' e' k' n m mv ns ne ∧ Fo 43 [35, 36, 37, 38] J J' ∧ (∀ q, q ≠ 43 → M' q = M q)) := by
  obtain ⟨i, hT⟩ := hT
  have hlt := Tok_lt hT
  have sg := isSign_eq (M := M) hg hP.1 hR.2.2.2.1 hR.1 hR.2.1 hR.2.2.1 hT
  by_cases h : k = g
  · right
    obtain ⟨s', e', k', hT'⟩ := Tok_ex (b := b) (i := e) (last := last) (by omega)
    obtain ⟨I', x1, x2, x3⟩ := cstep hP hC hT'
    obtain ⟨J', M', y1, y2, y3, y4⟩ := goesOn_t hP hR (by omega) hT'
    refine ⟨h, s', e', k', I', J', M', hT', ?_, x2, x3, ?_, y2, y3, y4⟩
    · unfold f_X5_readSign
      rw [ob (need_t hC h)]
      dsimp only
      rw [if_neg b2i_t, ob x1]
    · rw [ob sg, decide_eq_true h, ob (must_t 2)]
      exact y1
  · left
    obtain ⟨I', x1, x2, x3, x4, x5⟩ := need_f (a := g) hC h (by omega) (by omega)
    obtain ⟨J', y1, y2, y3⟩ := must_f (a := 2) hP hR (by omega) (by decide) (by decide)
    have y1 : f_X8_must false 2 J M = some (J', M) := y1
    refine ⟨h, ⟨I', L, ?_, x2, x3, x4, x5⟩, ⟨J', M, ?_, y2, y3⟩⟩
    · unfold f_X5_readSign
      rw [ob x1]
      dsimp only
      rw [if_pos b2i_f]
    · rw [ob sg, decide_eq_false h, ob y1]
      exact bad_goesOn y2
end LS
