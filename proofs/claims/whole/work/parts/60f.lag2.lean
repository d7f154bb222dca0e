theorem least_ex (P : Nat → Prop) : ∀ y, P y → ∃ x, x ≤ y ∧ P x ∧ ∀ z, z < x → ¬ P z := by
  intro y hy
  obtain ⟨x, h1, h2⟩ := pk_least P ⟨y, hy⟩
  refine ⟨x, Nat.le_of_not_lt (fun h => h2 y h hy), h1, h2⟩
theorem dec_ex (P : Nat → Prop) : ∃ B : Nat → Bool, ∀ x, B x = true ↔ P x := ⟨fun x => @decide (P x) (Classical.propDecidable _), fun x => @decide_eq_true_iff (P x) (Classical.propDecidable _)⟩
theorem dm_un {a q r q' r' : Nat} (h : r < a) (h' : r' < a) (e : q * a + r = q' * a + r') : q = q' ∧ r = r' := by
  have h1 : q = q' := by
    rcases Nat.lt_trichotomy q q' with g | g | g
    · have := Nat.mul_le_mul_right a (show q + 1 ≤ q' from g)
      rw [Nat.succ_mul] at this; omega
    · exact g
    · have := Nat.mul_le_mul_right a (show q' + 1 ≤ q from g)
      rw [Nat.succ_mul] at this; omega
  subst h1
  exact ⟨rfl, by omega⟩
/-- Lagrange -/
theorem lagr {n a b : Nat} {H K : PS} (hn : n ≤ 10) (hH : Sub n H) (hK : Sub n K) (h : ∀ p, H p → K p) (eH : En H a) (eK : En K b) : ∃ c, b = c * a := by
  obtain ⟨e, e1, e2, e3⟩ := eH
  obtain ⟨f, f1, f2, f3⟩ := eK
  have hap : 0 < a := by
    obtain ⟨i, hi, _⟩ := e3 idp hH.2.1
    omega
  have hP : ∀ x, x < b → IsP n (f x) := fun x hx => hK.1 _ (f1 x hx)
  have hQ : ∀ x, x < a → IsP n (e x) := fun x hx => hH.1 _ (e1 x hx)
  obtain ⟨B, hB⟩ := dec_ex (fun x => ∀ y, y < x → ¬ H (cp (f y) (iv (f x))))
  have hBi : ∀ x y, x < b → y < b → B x = true → B y = true → H (cp (f y) (iv (f x))) → x = y := by
    intro x y hx hy hbx hby hh
    rcases Nat.lt_trichotomy x y with g | g | g
    · refine absurd ?_ ((hB y).mp hby x g)
      have := hH.2.2.2 _ hh
      rwa [iv_cpp hn (hP y hy) (IsP_iv hn (hP x hx)), iv_iv hn (hP x hx)] at this
    · exact g
    · exact absurd hh ((hB x).mp hbx y g)
  have hz : ∀ x, ∃ z : Nat × Nat, x < b → z.1 < b ∧ B z.1 = true ∧ z.2 < a ∧ cp (e z.2) (f z.1) = f x := by
    intro x
    by_cases hx : x < b
    · obtain ⟨x0, h1, h2, h3⟩ := least_ex (fun y => H (cp (f y) (iv (f x)))) x (by rw [cp_iv hn (hP x hx)]; exact hH.2.1)
      have hx0 := hP x0 (by omega)
      have hxx := hP x hx
      have hB0 : B x0 = true := (hB x0).mpr (fun y hy hyH => h3 y hy (by
        have := hH.2.2.1 _ _ hyH h2
        rw [cp_as, ← cp_as (iv (f x0)), iv_cp hn hx0, id_cp] at this
        exact this))
      have hi := hH.2.2.2 _ h2
      obtain ⟨i, i1, i2⟩ := e3 _ hi
      refine ⟨(x0, i), fun _ => ⟨by omega, hB0, i1, ?_⟩⟩
      show cp (e i) (f x0) = f x
      rw [i2, iv_cpp hn hx0 (IsP_iv hn hxx), iv_iv hn hxx, cp_as, iv_cp hn hx0, cp_id]
    · exact ⟨(0, 0), fun g => absurd g hx⟩
  obtain ⟨z, hz⟩ := Classical.axiomOfChoice hz
  have hw : ∀ y, ∃ x : Nat × Nat, y < cT B b * a → x.1 < b ∧ B x.1 = true ∧ cT B x.1 = y / a ∧ x.2 < b ∧ f x.2 = cp (e (y % a)) (f x.1) := by
    intro y
    by_cases hy : y < cT B b * a
    · obtain ⟨x0, h1, h2, h3⟩ := cT_nth B b (y / a) (Nat.div_lt_of_lt_mul (by rw [Nat.mul_comm]; exact hy))
      obtain ⟨x, h4, h5⟩ := f3 (cp (e (y % a)) (f x0)) (hK.2.2.1 _ _ (h _ (e1 _ (Nat.mod_lt _ hap))) (f1 x0 h1))
      exact ⟨(x0, x), fun _ => ⟨h1, h2, h3, h4, h5⟩⟩
    · exact ⟨(0, 0), fun g => absurd g hy⟩
  obtain ⟨w, hw⟩ := Classical.axiomOfChoice hw
  refine ⟨cT B b, Nat.le_antisymm (le_of_inj (fun x => cT B (z x).1 * a + (z x).2) (fun x hx => ?_) (fun x y hx hy g => ?_)) (le_of_inj (fun y => (w y).2) (fun y hy => (hw y hy).2.2.2.1) (fun y y' hy hy' g => ?_))⟩
  · obtain ⟨z1, z2, z3, z4⟩ := hz x hx
    have h1 := cT_lt B z1 z2
    have h2 : (cT B (z x).1 + 1) * a ≤ cT B b * a := Nat.mul_le_mul_right a h1
    rw [Nat.succ_mul] at h2
    show cT B (z x).1 * a + (z x).2 < cT B b * a
    omega
  · obtain ⟨z1, z2, z3, z4⟩ := hz x hx
    obtain ⟨y1, y2, y3, y4⟩ := hz y hy
    obtain ⟨g1, g2⟩ := dm_un z3 y3 g
    have g3 := cT_inj B z2 y2 g1
    refine f2 x y hx hy ?_
    rw [← z4, ← y4, g2, g3]
  · obtain ⟨a1, a2, a3, a4, a5⟩ := hw y hy
    obtain ⟨b1, b2, b3, b4, b5⟩ := hw y' hy'
    have g : (w y).2 = (w y').2 := g
    have hi := Nat.mod_lt y hap
    have hi' := Nat.mod_lt y' hap
    have e6 : cp (e (y % a)) (f (w y).1) = cp (e (y' % a)) (f (w y').1) := by rw [← a5, ← b5, g]
    have e7 : cp (f (w y').1) (iv (f (w y).1)) = cp (iv (e (y' % a))) (e (y % a)) := by
      have h8 := congrArg (fun q => cp (cp (iv (e (y' % a))) q) (iv (f (w y).1))) e6
      have h8 : cp (cp (iv (e (y' % a))) (cp (e (y % a)) (f (w y).1))) (iv (f (w y).1)) = cp (cp (iv (e (y' % a))) (cp (e (y' % a)) (f (w y').1))) (iv (f (w y).1)) := h8
      rw [← cp_as (iv (e (y' % a))) (e (y' % a)), iv_cp hn (hQ _ hi'), id_cp] at h8
      rw [← h8, cp_as, cp_as, cp_iv hn (hP _ a1), cp_id]
    have e8 : (w y).1 = (w y').1 := hBi _ _ a1 b1 a2 b2 (by rw [e7]; exact hH.2.2.1 _ _ (hH.2.2.2 _ (e1 _ hi')) (e1 _ hi))
    rw [e8] at e6
    have e9 := e2 _ _ hi hi' (cp_cancel hn (hP _ b1) e6)
    have e10 : y / a = y' / a := by rw [← a3, ← b3, e8]
    rw [← Nat.div_add_mod y a, ← Nat.div_add_mod y' a, e9, e10]
/-! 10! has fifteen prime factors -/
def pp (i : Nat) : Nat := [2, 4, 8, 16, 32, 64, 128, 256, 3, 9, 27, 81, 5, 25, 7].getD i 1
def om (d : Nat) : Nat := cT (fun i => decide (pp i ∣ d)) 15
theorem om_p {r J b d q : Nat} (hJ : ∀ j, j < J → pp (b + j) = r ^ (j + 1)) (hb : b + J ≤ 15) (hno : ¬ r ^ (J + 1) ∣ 3628800) (hd : d * q ∣ 3628800) (hr : r ∣ q) : ∃ i, i < 15 ∧ ¬ pp i ∣ d ∧ pp i ∣ d * q := by
  have hn : ¬ r ^ J ∣ d := fun h => hno (by rw [Nat.pow_succ]; exact Nat.dvd_trans (Nat.mul_dvd_mul h hr) hd)
  obtain ⟨j, h1, h2, h3⟩ := least_ex (fun j => ¬ r ^ j ∣ d) J hn
  cases j with
  | zero => exact absurd (by rw [Nat.pow_zero]; exact Nat.one_dvd d) h2
  | succ j =>
    have h4 : r ^ j ∣ d := Classical.byContradiction (h3 j (by omega))
    refine ⟨b + j, by omega, ?_, ?_⟩
    · rw [hJ j (by omega)]; exact h2
    · rw [hJ j (by omega), Nat.pow_succ]; exact Nat.mul_dvd_mul h4 hr
theorem cop_p {r q : Nat} (hr : ∀ g, g < r + 1 → g ∣ r → g = 1 ∨ g = r) (h0 : 0 < r) (h : ¬ r ∣ q) : Nat.Coprime q r := by
  have h1 : Nat.gcd q r ∣ r := Nat.gcd_dvd_right q r
  have h2 := Nat.le_of_dvd h0 h1
  rcases hr _ (by omega) h1 with g | g
  · exact g
  · exact absurd (g ▸ Nat.gcd_dvd_left q r) h
theorem pr_ex {q : Nat} (h2 : 2 ≤ q) (hq : q ∣ 3628800) : 2 ∣ q ∨ 3 ∣ q ∨ 5 ∣ q ∨ 7 ∣ q := by
  refine Classical.byContradiction fun hno => ?_
  have c2 := cop_p (r := 2) (q := q) (by decide) (by decide) (fun h => hno (Or.inl h))
  have c3 := cop_p (r := 3) (q := q) (by decide) (by decide) (fun h => hno (Or.inr (Or.inl h)))
  have c5 := cop_p (r := 5) (q := q) (by decide) (by decide) (fun h => hno (Or.inr (Or.inr (Or.inl h))))
  have c7 := cop_p (r := 7) (q := q) (by decide) (by decide) (fun h => hno (Or.inr (Or.inr (Or.inr h))))
  have c : Nat.Coprime q (2 ^ 8 * 3 ^ 4 * 5 ^ 2 * 7) := Nat.Coprime.mul_right (Nat.Coprime.mul_right (Nat.Coprime.mul_right (Nat.Coprime.pow_right 8 c2) (Nat.Coprime.pow_right 4 c3)) (Nat.Coprime.pow_right 2 c5)) c7
  rw [show 2 ^ 8 * 3 ^ 4 * 5 ^ 2 * 7 = 3628800 by decide] at c
  have : Nat.gcd q 3628800 = q := Nat.gcd_eq_left hq
  have c : Nat.gcd q 3628800 = 1 := c
  omega
theorem cT_imp {P Q : Nat → Bool} (h : ∀ i, P i = true → Q i = true) : ∀ n, cT P n ≤ cT Q n := by
  intro n
  induction n with
  | zero => exact Nat.le_refl _
  | succ n ih =>
    show cT P n + (P n).toNat ≤ cT Q n + (Q n).toNat
    have : (P n).toNat ≤ (Q n).toNat := by
      cases hP : P n
      · exact Nat.zero_le _
      · rw [h n hP]; exact Nat.le_refl _
    omega
theorem cT_imp_lt {P Q : Nat → Bool} (h : ∀ i, P i = true → Q i = true) {i : Nat} (hP : P i = false) (hQ : Q i = true) : ∀ n, i < n → cT P n < cT Q n := by
  intro n
  induction n with
  | zero => intro h; omega
  | succ n ih =>
    intro hi
    show cT P n + (P n).toNat < cT Q n + (Q n).toNat
    by_cases e : i = n
    · subst e
      rw [hP, hQ]
      have := cT_imp h i
      simp only [Bool.toNat_false, Bool.toNat_true]
      omega
    · have := ih (by omega)
      have : (P n).toNat ≤ (Q n).toNat := by
        cases hP : P n
        · exact Nat.zero_le _
        · rw [h n hP]; exact Nat.le_refl _
      omega
theorem om_lt {d q : Nat} (h2 : 2 ≤ q) (hd : d * q ∣ 3628800) : om d < om (d * q) := by
  have key : ∃ i, i < 15 ∧ ¬ pp i ∣ d ∧ pp i ∣ d * q := by
    rcases pr_ex h2 (Nat.dvd_trans (Nat.dvd_mul_left q d) hd) with h | h | h | h
    · exact om_p (r := 2) (J := 8) (b := 0) (by decide) (by decide) (by decide) hd h
    · exact om_p (r := 3) (J := 4) (b := 8) (by decide) (by decide) (by decide) hd h
    · exact om_p (r := 5) (J := 2) (b := 12) (by decide) (by decide) (by decide) hd h
    · exact om_p (r := 7) (J := 1) (b := 14) (by decide) (by decide) (by decide) hd h
  obtain ⟨i, i1, i2, i3⟩ := key
  exact cT_imp_lt (fun j hj => decide_eq_true (Nat.dvd_trans (of_decide_eq_true hj) (Nat.dvd_mul_right d q))) (decide_eq_false i2) (decide_eq_true i3) 15 i1
theorem En_ex {n : Nat} {G : PS} (hn : n ≤ 10) (hG : Sub n G) : ∃ N, En G N := by
  obtain ⟨R, T, h⟩ := Tab_ex hn hG
  exact ⟨_, En_sz hn hG h⟩
/-- two points change places -/
def swp (a b : Nat) : Nat → Nat := fun i => if i = a then b else if i = b then a else i
theorem IsP_swp {a b : Nat} (ha : a < 10) (hb : b < 10) : IsP 10 (swp a b) := by
  refine ⟨fun i hi => ?_, fun i hi => ?_, fun i j h => ?_⟩
  · unfold swp; split
    · exact hb
    · split
      · exact ha
      · exact hi
  · unfold swp; rw [if_neg (by omega), if_neg (by omega)]
  · unfold swp at h
    split at h <;> split at h <;> (try split at h) <;> (try split at h) <;> omega
theorem En_S10 : En (IsP 10) 3628800 := by
  obtain ⟨R, T, h⟩ := Tab_ex (Nat.le_refl 10) (Sub_all (Nat.le_refl 10))
  have hw : ∀ k, k < 10 → cT (R k) 10 = 10 - k := by
    intro k hk
    have e : ∀ j, j < 10 → (R k j = true ↔ k ≤ j) := fun j hj => (h.2.1 k j hk).trans ⟨fun ⟨g, g1, g2, g3⟩ => by
      refine Nat.le_of_not_lt (fun hlt => ?_)
      have h1 := g2 j hlt
      have := g1.2.2 j k (h1.trans g3.symm)
      omega, fun hkj => ⟨swp k j, IsP_swp hk hj, fun i hi => by unfold swp; rw [if_neg (by omega), if_neg (by omega)], if_pos rfl⟩⟩
    have h1 : cT (R k) 10 = cT (fun j => decide (k ≤ j)) 10 := cT_ext 10 (fun j hj => by
      rw [Bool.eq_iff_iff, e j hj]; simp)
    rw [h1]
    have : ∀ k : Nat, k < 10 → cT (fun j => decide (k ≤ j)) 10 = 10 - k := by decide
    exact this k hk
  have hs : ∀ d, d ≤ 10 → sz R 10 d = [1, 1, 2, 6, 24, 120, 720, 5040, 40320, 362880, 3628800].getD d 0 := by
    intro d
    induction d with
    | zero => intro _; rfl
    | succ d ih =>
      intro hd
      show cT (R (10 - (d + 1))) 10 * sz R 10 d = _
      rw [ih (by omega), hw _ (by omega)]
      have : ∀ d : Nat, d < 10 → (10 - (10 - (d + 1))) * [1, 1, 2, 6, 24, 120, 720, 5040, 40320, 362880, 3628800].getD d 0 = [1, 1, 2, 6, 24, 120, 720, 5040, 40320, 362880, 3628800].getD (d + 1) 0 := by decide
      exact this d (by omega)
  have := En_sz (Nat.le_refl 10) (Sub_all (Nat.le_refl 10)) h
  rw [hs 10 (Nat.le_refl _)] at this
  exact this
theorem Sub_10 {n : Nat} {G : PS} (hn : n ≤ 10) (h : Sub n G) : Sub 10 G := ⟨fun a ha => IsP_mono (h.1 a ha) hn, h.2⟩
