/-! Counting -/
def cT (P : Nat → Bool) : Nat → Nat
  | 0 => 0
  | i + 1 => cT P i + (P i).toNat
theorem cT_le (P : Nat → Bool) : ∀ i, cT P i ≤ i := by
  intro i
  induction i with
  | zero => exact Nat.le_refl _
  | succ i ih =>
    have : (P i).toNat ≤ 1 := by cases P i <;> decide
    show cT P i + (P i).toNat ≤ _
    omega
theorem cT_mono (P : Nat → Bool) {i j : Nat} (h : i ≤ j) : cT P i ≤ cT P j := by
  induction j with
  | zero => rw [show i = 0 by omega]; exact Nat.le_refl _
  | succ j ih =>
    by_cases e : i = j + 1
    · rw [e]; exact Nat.le_refl _
    · have := ih (by omega)
      show cT P i ≤ cT P j + (P j).toNat
      omega
theorem cT_lt (P : Nat → Bool) {i j : Nat} (h : i < j) (hP : P i = true) : cT P i < cT P j := by
  have h1 := cT_mono P (i := i + 1) (j := j) h
  have h2 : cT P (i + 1) = cT P i + 1 := by show cT P i + (P i).toNat = _; rw [hP]; rfl
  omega
theorem cT_ext {P Q : Nat → Bool} : ∀ n, (∀ i, i < n → P i = Q i) → cT P n = cT Q n := by
  intro n
  induction n with
  | zero => intro _; rfl
  | succ n ih =>
    intro h
    show cT P n + (P n).toNat = cT Q n + (Q n).toNat
    rw [ih (fun i hi => h i (by omega)), h n (by omega)]
theorem cT_inj (P : Nat → Bool) {i j : Nat} (hi : P i = true) (hj : P j = true) (h : cT P i = cT P j) : i = j := by
  rcases Nat.lt_trichotomy i j with g | g | g
  · have := cT_lt P g hi; omega
  · exact g
  · have := cT_lt P g hj; omega
/-- the one at an index -/
theorem cT_nth (P : Nat → Bool) : ∀ n k, k < cT P n → ∃ i, i < n ∧ P i = true ∧ cT P i = k := by
  intro n
  induction n with
  | zero => intro k h; exact absurd h (Nat.not_lt_zero _)
  | succ n ih =>
    intro k h
    by_cases hk : k < cT P n
    · obtain ⟨i, h1, h2, h3⟩ := ih k hk
      exact ⟨i, by omega, h2, h3⟩
    · have h : k < cT P n + (P n).toNat := h
      cases hP : P n
      · rw [hP] at h
        exact absurd h (by simp only [Bool.toNat_false]; omega)
      · rw [hP] at h
        simp only [Bool.toNat_true] at h
        exact ⟨n, by omega, hP, by omega⟩
/-- a bijection between what is counted -/
theorem cT_bij {P Q : Nat → Bool} {n m : Nat} (f : Nat → Nat) (h1 : ∀ i, i < n → P i = true → f i < m ∧ Q (f i) = true) (h2 : ∀ i j, i < n → j < n → P i = true → P j = true → f i = f j → i = j) : cT P n ≤ cT Q m := by
  -- the numbers of those counted go one to one into those of the others
  refine Nat.le_of_not_lt fun hlt => ?_
  have hg : ∀ k, ∃ i, k < cT P n → i < n ∧ P i = true ∧ cT P i = k := fun k => by
    by_cases h : k < cT P n
    · obtain ⟨i, hi⟩ := cT_nth P n k h; exact ⟨i, fun _ => hi⟩
    · exact ⟨0, fun g => absurd g h⟩
  let g : Nat → Nat := fun k => Classical.choose (hg k)
  have hgs : ∀ k, k < cT P n → g k < n ∧ P (g k) = true ∧ cT P (g k) = k := fun k => Classical.choose_spec (hg k)
  have hb : ∀ k, k < cT P n → cT Q (f (g k)) < cT Q m := fun k hk => by
    obtain ⟨a1, a2, a3⟩ := hgs k hk
    obtain ⟨b1, b2⟩ := h1 _ a1 a2
    exact cT_lt Q b1 b2
  obtain ⟨i, hi, e⟩ := pigeon (cT Q m) (fun k => cT Q (f (g k))) (fun k hk => hb k (by omega)) (fun a b ha hb' e => by
    obtain ⟨a1, a2, a3⟩ := hgs a (by omega)
    obtain ⟨b1, b2, b3⟩ := hgs b (by omega)
    have := cT_inj Q (h1 _ a1 a2).2 (h1 _ b1 b2).2 e
    have := h2 _ _ a1 b1 a2 b2 this
    rw [← a3, ← b3, this]) (cT Q (f (g (cT Q m)))) (hb _ hlt)
  obtain ⟨a1, a2, a3⟩ := hgs i (by omega)
  obtain ⟨b1, b2, b3⟩ := hgs (cT Q m) hlt
  have := cT_inj Q (h1 _ a1 a2).2 (h1 _ b1 b2).2 e
  have := h2 _ _ a1 b1 a2 b2 this
  rw [this] at a3
  omega
/-- how many stays the same when the points are turned -/
theorem cT_perm {P : Nat → Bool} {n : Nat} {p : Nat → Nat} (hn : n ≤ 10) (hp : IsP n p) : cT (fun i => P (p i)) n = cT P n := by
  refine Nat.le_antisymm (cT_bij p (fun i hi h => ⟨hp.1 i hi, h⟩) (fun i j _ _ _ _ e => hp.2.2 i j e)) (cT_bij (iv p) (fun i hi h => ⟨(IsP_iv hn hp).1 i hi, ?_⟩) (fun i j _ _ _ _ e => (IsP_iv hn hp).2.2 i j e))
  show P (p (iv p i)) = true
  rw [iv_r hn hp]; exact h
