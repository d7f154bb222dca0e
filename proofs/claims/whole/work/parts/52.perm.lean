/-! Arrangements as functions that stay from n on -/
def cp (a b : Nat → Nat) : Nat → Nat := fun i => b (a i)
def idp : Nat → Nat := fun i => i
def IsP (n : Nat) (p : Nat → Nat) : Prop := (∀ i, i < n → p i < n) ∧ (∀ i, n ≤ i → p i = i) ∧ (∀ i j, p i = p j → i = j)
theorem pigeon : ∀ (n : Nat) (f : Nat → Nat), (∀ i, i < n → f i < n) → (∀ i j, i < n → j < n → f i = f j → i = j) → ∀ j, j < n → ∃ i, i < n ∧ f i = j := by
  intro n
  induction n with
  | zero => intro f _ _ j h; omega
  | succ n ih =>
    intro f hf hi j hj
    have key := ih (fun i => if f i = n then f n else f i) (fun i h => by
      show (if f i = n then f n else f i) < n
      split
      · rename_i h1
        have h2 := hf n (by omega)
        have h3 : f n ≠ n := fun e => by
          have := hi i n (by omega) (by omega) (h1.trans e.symm)
          omega
        omega
      · have := hf i (by omega); omega) (fun a b ha hb h => by
      have h : (if f a = n then f n else f a) = (if f b = n then f n else f b) := h
      split at h <;> split at h
      · rename_i h1 h2; exact hi a b (by omega) (by omega) (h1.trans h2.symm)
      · have := hi n b (by omega) (by omega) h; omega
      · have := hi a n (by omega) (by omega) h; omega
      · exact hi a b (by omega) (by omega) h)
    by_cases h1 : j = f n
    · exact ⟨n, by omega, h1.symm⟩
    · by_cases h2 : j = n
      · have h3 := hf n (by omega)
        obtain ⟨i, hi1, hi2⟩ := key (f n) (by omega)
        have hi2 : (if f i = n then f n else f i) = f n := hi2
        by_cases h4 : f i = n
        · exact ⟨i, by omega, by omega⟩
        · rw [if_neg h4] at hi2
          have := hi i n (by omega) (by omega) hi2
          omega
      · obtain ⟨i, hi1, hi2⟩ := key j (by omega)
        have hi2 : (if f i = n then f n else f i) = j := hi2
        by_cases h4 : f i = n
        · rw [if_pos h4] at hi2; omega
        · rw [if_neg h4] at hi2
          exact ⟨i, by omega, hi2⟩
/-- onto makes one to one -/
theorem pigeon2 : ∀ (n : Nat) (f : Nat → Nat), (∀ j, j < n → ∃ i, i < n ∧ f i = j) → (∀ i, i < n → f i < n) → ∀ i j, i < n → j < n → f i = f j → i = j := by
  intro n f hs hf
  -- a choice of what comes to each
  have : ∀ j, ∃ i, j < n → i < n ∧ f i = j := fun j => by
    by_cases h : j < n
    · obtain ⟨i, hi⟩ := hs j h; exact ⟨i, fun _ => hi⟩
    · exact ⟨0, fun h2 => absurd h2 h⟩
  let g : Nat → Nat := fun j => Classical.choose (this j)
  have hg : ∀ j, j < n → g j < n ∧ f (g j) = j := fun j h => Classical.choose_spec (this j) h
  have hgs := pigeon n g (fun j h => (hg j h).1) (fun a b ha hb e => by
    have h1 := (hg a ha).2
    have h2 := (hg b hb).2
    rw [← h1, ← h2, e])
  intro i j hi hj e
  obtain ⟨a, ha, ea⟩ := hgs i hi
  obtain ⟨b, hb, eb⟩ := hgs j hj
  have h1 := (hg a ha).2
  have h2 := (hg b hb).2
  rw [ea] at h1
  rw [eb] at h2
  have : a = b := by omega
  rw [← ea, ← eb, this]
theorem IsP_id (n : Nat) : IsP n idp := ⟨fun _ h => h, fun _ _ => rfl, fun _ _ h => h⟩
theorem IsP_cp {n : Nat} {a b : Nat → Nat} (ha : IsP n a) (hb : IsP n b) : IsP n (cp a b) :=
  ⟨fun i h => hb.1 _ (ha.1 i h), fun i h => by show b (a i) = i; rw [ha.2.1 i h, hb.2.1 i h], fun i j h => ha.2.2 _ _ (hb.2.2 _ _ h)⟩
theorem IsP_onto {n : Nat} {p : Nat → Nat} (h : IsP n p) (j : Nat) : ∃ i, p i = j ∧ (j < n → i < n) ∧ (n ≤ j → i = j) := by
  by_cases hj : j < n
  · obtain ⟨i, h1, h2⟩ := pigeon n p h.1 (fun a b _ _ e => h.2.2 a b e) j hj
    exact ⟨i, h2, fun _ => h1, fun h3 => absurd h3 (by omega)⟩
  · exact ⟨j, h.2.1 j (by omega), fun h3 => absurd h3 hj, fun _ => rfl⟩
theorem IsP_mono {n m : Nat} {p : Nat → Nat} (h : IsP n p) (hm : n ≤ m) : IsP m p :=
  ⟨fun i hi => by
    by_cases h1 : i < n
    · have := h.1 i h1; omega
    · rw [h.2.1 i (by omega)]; exact hi, fun i hi => h.2.1 i (by omega), h.2.2⟩
def iv (p : Nat → Nat) : Nat → Nat := fun j => ((List.range 10).find? (fun i => p i == j)).getD j
theorem iv_r {n : Nat} {p : Nat → Nat} (hn : n ≤ 10) (h : IsP n p) (j : Nat) : p (iv p j) = j := by
  unfold iv
  cases hf : (List.range 10).find? (fun i => p i == j) with
  | some i =>
    have := List.find?_some hf
    simpa using this
  | none =>
    show p j = j
    rw [List.find?_eq_none] at hf
    by_cases h1 : j < 10
    · obtain ⟨i, e, h2, h3⟩ := IsP_onto h j
      have hi : i < 10 := by
        by_cases h4 : j < n
        · have := h2 h4; omega
        · rw [h3 (by omega)]; exact h1
      exact absurd (by simp [e]) (hf i (List.mem_range.mpr hi))
    · exact h.2.1 j (by omega)
theorem iv_l {n : Nat} {p : Nat → Nat} (hn : n ≤ 10) (h : IsP n p) (i : Nat) : iv p (p i) = i := h.2.2 _ _ (iv_r hn h (p i))
theorem IsP_iv {n : Nat} {p : Nat → Nat} (hn : n ≤ 10) (h : IsP n p) : IsP n (iv p) := by
  refine ⟨fun i hi => ?_, fun i hi => ?_, fun i j e => ?_⟩
  · obtain ⟨a, e, h2, _⟩ := IsP_onto h i
    rw [← e, iv_l hn h]; exact h2 hi
  · have := iv_l hn h i
    rwa [h.2.1 i hi] at this
  · have := congrArg p e
    rwa [iv_r hn h, iv_r hn h] at this
theorem cp_iv {n : Nat} {p : Nat → Nat} (hn : n ≤ 10) (h : IsP n p) : cp p (iv p) = idp := funext (iv_l hn h)
theorem iv_cp {n : Nat} {p : Nat → Nat} (hn : n ≤ 10) (h : IsP n p) : cp (iv p) p = idp := funext (iv_r hn h)
theorem cp_as (a b c : Nat → Nat) : cp (cp a b) c = cp a (cp b c) := rfl
theorem cp_id (a : Nat → Nat) : cp a idp = a := rfl
theorem id_cp (a : Nat → Nat) : cp idp a = a := rfl
theorem iv_iv {n : Nat} {p : Nat → Nat} (hn : n ≤ 10) (h : IsP n p) : iv (iv p) = p := by
  funext i
  apply (IsP_iv hn h).2.2
  rw [iv_r hn (IsP_iv hn h), iv_l hn h]
theorem iv_id : iv idp = idp := funext fun j => iv_l (n := 10) (Nat.le_refl _) (IsP_id 10) j
theorem iv_eq {n : Nat} {p q : Nat → Nat} (hn : n ≤ 10) (h : IsP n p) (e : cp p q = idp) : q = iv p := by
  funext j
  have := congrFun e (iv p j)
  show q j = iv p j
  have e2 : q (p (iv p j)) = iv p j := this
  rwa [iv_r hn h] at e2
theorem iv_of {n : Nat} {p : Nat → Nat} (hn : n ≤ 10) (h : IsP n p) {i j : Nat} (e : p i = j) : iv p j = i := by rw [← e, iv_l hn h]
theorem iv_cpp {n : Nat} {a b : Nat → Nat} (hn : n ≤ 10) (ha : IsP n a) (hb : IsP n b) : iv (cp a b) = cp (iv b) (iv a) := by
  refine (iv_eq hn (IsP_cp ha hb) ?_).symm
  rw [cp_as, ← cp_as b, cp_iv hn hb, id_cp, cp_iv hn ha]
theorem cp_cancel {n : Nat} {a b c : Nat → Nat} (hn : n ≤ 10) (hc : IsP n c) (e : cp a c = cp b c) : a = b := by
  have := congrArg (fun x => cp x (iv c)) e
  simp only [cp_as, cp_iv hn hc, cp_id] at this
  exact this
theorem IsP_ext {n : Nat} {a b : Nat → Nat} (ha : IsP n a) (hb : IsP n b) (h : ∀ i, i < n → a i = b i) : a = b := by
  funext i
  by_cases hi : i < n
  · exact h i hi
  · rw [ha.2.1 i (by omega), hb.2.1 i (by omega)]
def pw (a : Nat → Nat) : Nat → Nat → Nat
  | 0 => idp
  | k + 1 => cp (pw a k) a
theorem IsP_pw {n : Nat} {a : Nat → Nat} (h : IsP n a) : ∀ k, IsP n (pw a k) := by
  intro k
  induction k with
  | zero => exact IsP_id n
  | succ k ih => exact IsP_cp ih h
theorem pw_add (a : Nat → Nat) (k : Nat) : ∀ m, pw a (k + m) = cp (pw a k) (pw a m) := by
  intro m
  induction m with
  | zero => rfl
  | succ m ih => show cp (pw a (k + m)) a = _; rw [ih]; rfl
theorem no_inj {B : Nat} (f : Nat → Nat) (hb : ∀ i, f i < B) : ∃ i j, i < j ∧ f i = f j := by
  refine Classical.byContradiction fun hno => ?_
  have hi : ∀ i j, f i = f j → i = j := fun i j e => by
    rcases Nat.lt_trichotomy i j with h | h | h
    · exact absurd ⟨i, j, h, e⟩ hno
    · exact h
    · exact absurd ⟨j, i, h, e.symm⟩ hno
  obtain ⟨i, h1, h2⟩ := pigeon B f (fun i _ => hb i) (fun i j _ _ e => hi i j e) (f B) (hb B)
  have := hi _ _ h2
  omega
theorem IsP_lt16 {n : Nat} {p : Nat → Nat} (hn : n ≤ 10) (h : IsP n p) : ∀ i, i < 10 → p i < 16 := fun i hi => by
  have := (IsP_mono h hn).1 i hi
  omega
/-- the inverse is a power -/
theorem iv_pw {n : Nat} {a : Nat → Nat} (hn : n ≤ 10) (h : IsP n a) : ∃ k, iv a = pw a k := by
  obtain ⟨i, j, hij, e⟩ := no_inj (B := 16 ^ 10) (fun k => E 10 (fun i => if i < 10 then pw a k i else 0)) (fun k => E_lt 10 (fun i hi => by
    show (if i < 10 then pw a k i else 0) < 16
    rw [if_pos hi]; exact IsP_lt16 hn (IsP_pw h k) i hi))
  have hlt : ∀ k i, (if i < 10 then pw a k i else 0) < 16 := fun k i => by
    split
    · rename_i hi; exact IsP_lt16 hn (IsP_pw h k) i hi
    · decide
  have e2 : pw a i = pw a j := by
    refine IsP_ext (IsP_mono (IsP_pw h i) hn) (IsP_mono (IsP_pw h j) hn) (fun m hm => ?_)
    have h1 := E_nib (f := fun i_1 => if i_1 < 10 then pw a i i_1 else 0) hm (hlt i)
    have h2 := E_nib (f := fun i_1 => if i_1 < 10 then pw a j i_1 else 0) hm (hlt j)
    have e : E 10 (fun i_1 => if i_1 < 10 then pw a i i_1 else 0) = E 10 (fun i_1 => if i_1 < 10 then pw a j i_1 else 0) := e
    rw [e] at h1
    have h3 := h1.symm.trans h2
    simpa [hm] using h3
  refine ⟨j - i - 1, (iv_eq hn h ?_).symm⟩
  have e3 : pw a (i + (j - i)) = pw a i := by rw [show i + (j - i) = j by omega, e2]
  rw [pw_add] at e3
  have hd : pw a (j - i) = idp := by
    have h5 : cp (iv (pw a i)) (cp (pw a i) (pw a (j - i))) = cp (iv (pw a i)) (pw a i) := by rw [e3]
    rw [← cp_as, iv_cp hn (IsP_pw h i), id_cp] at h5
    exact h5
  have h6 := pw_add a 1 (j - i - 1)
  rw [show 1 + (j - i - 1) = j - i by omega, hd] at h6
  exact h6.symm
