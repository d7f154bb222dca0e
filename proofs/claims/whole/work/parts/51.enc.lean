/-! A turn of the class: ten numbers of four bits, the first highest -/
def E : Nat → (Nat → Nat) → Nat
  | 0, _ => 0
  | k + 1, f => 16 * E k f + f k
def us {α : Type} (f : Nat → α) (j : Nat) (v : α) : Nat → α := fun i => if i = j then v else f i
theorem us_s {α : Type} {f : Nat → α} {j : Nat} {v : α} : us f j v j = v := if_pos rfl
theorem us_n {α : Type} {f : Nat → α} {i j : Nat} {v : α} (h : i ≠ j) : us f j v i = f i := if_neg h
theorem E_lt {f : Nat → Nat} : ∀ k, (∀ i, i < k → f i < 16) → E k f < 16 ^ k := by
  intro k
  induction k with
  | zero => intro _; exact Nat.one_pos
  | succ k ih =>
    intro h
    have h1 := ih (fun i hi => h i (by omega))
    have h2 := h k (by omega)
    show 16 * E k f + f k < 16 ^ (k + 1)
    rw [Nat.pow_succ]
    omega
theorem E_ext {f g : Nat → Nat} : ∀ k, (∀ i, i < k → f i = g i) → E k f = E k g := by
  intro k
  induction k with
  | zero => intro _; rfl
  | succ k ih =>
    intro h
    show 16 * E k f + f k = 16 * E k g + g k
    rw [ih (fun i hi => h i (by omega)), h k (by omega)]
theorem E_split (f : Nat → Nat) (k : Nat) : ∀ m, E (k + m) f = 16 ^ m * E k f + E m (fun i => f (k + i)) := by
  intro m
  induction m with
  | zero => simp [E]
  | succ m ih =>
    show 16 * E (k + m) f + f (k + m) = 16 ^ (m + 1) * E k f + (16 * E m (fun i => f (k + i)) + f (k + m))
    rw [ih, Nat.pow_succ, Nat.mul_add, ← Nat.mul_assoc, Nat.mul_comm 16 (16 ^ m)]
    omega
theorem E_div {f : Nat → Nat} {k : Nat} (hk : k ≤ 10) (h : ∀ i, f i < 16) : E 10 f / 16 ^ (10 - k) = E k f := by
  have h1 := E_split f k (10 - k)
  rw [show k + (10 - k) = 10 by omega] at h1
  rw [h1, Nat.add_comm, Nat.add_mul_div_left _ _ (Nat.pow_pos (by decide)), Nat.div_eq_of_lt (E_lt _ (fun i _ => h _)), Nat.zero_add]
theorem E_nib {f : Nat → Nat} {i : Nat} (hi : i < 10) (h : ∀ i, f i < 16) : E 10 f / 16 ^ (9 - i) % 16 = f i := by
  have h1 := E_div (k := i + 1) (by omega) h
  rw [show 10 - (i + 1) = 9 - i by omega] at h1
  rw [h1]
  show (16 * E i f + f i) % 16 = f i
  have := h i
  omega
theorem E_upd {f : Nat → Nat} {j v : Nat} (h0 : f j = 0) : ∀ k, j < k → E k (us f j v) = E k f + v * 16 ^ (k - 1 - j) := by
  intro k
  induction k with
  | zero => intro h; omega
  | succ k ih =>
    intro hj
    show 16 * E k (us f j v) + us f j v k = 16 * E k f + f k + v * 16 ^ (k + 1 - 1 - j)
    by_cases h : j = k
    · subst h
      rw [us_s, h0, E_ext (g := f) j (fun i hi => us_n (by omega)), show j + 1 - 1 - j = 0 by omega]
      simp
    · rw [ih (by omega), us_n (by omega), show k + 1 - 1 - j = (k - 1 - j) + 1 by omega, Nat.pow_succ, Nat.mul_add, ← Nat.mul_assoc v, Nat.mul_comm (v * _) 16]
      omega
theorem or_add {A B v s : Nat} (hB : B < 2 ^ s) (hv : v < 16) : (2 ^ (s + 4) * A + B) ||| (v * 2 ^ s) = 2 ^ (s + 4) * A + B + v * 2 ^ s := by
  have e1 : 2 ^ (s + 4) * A + B = 2 ^ (s + 4) * A ||| B := Nat.two_pow_add_eq_or_of_lt (Nat.lt_of_lt_of_le hB (Nat.pow_le_pow_right (by decide) (by omega))) A
  have h4 : 2 ^ (s + 4) = 2 ^ s * 16 := Nat.pow_add 2 s 4
  have e2 : 2 ^ s * v + B = 2 ^ s * v ||| B := Nat.two_pow_add_eq_or_of_lt hB v
  have hlt : 2 ^ s * v + B < 2 ^ (s + 4) := by
    rw [h4]
    have : 2 ^ s * v + 2 ^ s ≤ 2 ^ s * 16 := by rw [← Nat.mul_succ]; exact Nat.mul_le_mul_left _ hv
    omega
  have e3 : 2 ^ (s + 4) * A + (2 ^ s * v + B) = 2 ^ (s + 4) * A ||| (2 ^ s * v + B) := Nat.two_pow_add_eq_or_of_lt hlt A
  rw [e1, Nat.or_assoc, Nat.or_comm B, Nat.mul_comm v, ← e2, ← e3, ← e1]
  omega
def tz (f : Nat → Nat) : Int64 := lN (E 10 f)
theorem p16 : ∀ i : Nat, i < 10 → 2 ^ (36 - 4 * i) = 16 ^ (9 - i) := by decide
theorem E10_lt {f : Nat → Nat} (h : ∀ i, f i < 16) : E 10 f < 2 ^ 40 := E_lt 10 (fun i _ => h i)
theorem tz_or {f : Nat → Nat} {j v : Nat} (hf : ∀ i, f i < 16) (hj : j < 10) (h0 : f j = 0) (hv : v < 16) : tz f ||| lshl (lN v) (nI (36 - 4 * j)) = tz (us f j v) := by
  unfold tz
  have hs : v * 2 ^ (36 - 4 * j) < 2 ^ 64 := Nat.lt_of_lt_of_le (Nat.mul_lt_mul_of_pos_right hv (Nat.two_pow_pos _)) (by
    show 2 ^ 4 * 2 ^ (36 - 4 * j) ≤ _
    rw [← Nat.pow_add]; exact Nat.pow_le_pow_right (by decide) (by omega))
  rw [q_lshl (by omega) hs, q_lor]
  refine congrArg lN ?_
  have h1 := E_split f (j + 1) (9 - j)
  rw [show j + 1 + (9 - j) = 10 by omega] at h1
  have h2 : E (j + 1) f = 16 * E j f := by show 16 * E j f + f j = _; rw [h0]; rfl
  have e : E 10 f = 2 ^ (36 - 4 * j + 4) * E j f + E (9 - j) (fun i => f (j + 1 + i)) := by
    rw [h1, h2, ← p16 j hj, Nat.pow_add]
    show _ = 2 ^ (36 - 4 * j) * 16 * E j f + _
    rw [Nat.mul_assoc]
  have hB : E (9 - j) (fun i => f (j + 1 + i)) < 2 ^ (36 - 4 * j) := by rw [p16 j hj]; exact E_lt _ (fun i _ => hf _)
  rw [E_upd h0 10 hj, show 10 - 1 - j = 9 - j by omega, ← p16 j hj, e]
  exact or_add hB hv
theorem tz_nib {f : Nat → Nat} {i : Nat} (hf : ∀ i, f i < 16) (hi : i < 10) : lushr (tz f) (nI (36 - 4 * i)) &&& 15 = lN (f i) := by
  unfold tz
  rw [q_lushr (Nat.lt_trans (E10_lt hf) (by decide)) (by omega), q_l15, p16 i hi, E_nib hi hf]
theorem tz_img {f : Nat → Nat} {i : Nat} (hf : ∀ i, f i < 16) (hi : i < 10) : (Int64.toInt32 (lushr (tz f) (nI (36 - 4 * i)))) &&& 15 = nI (f i) := by
  unfold tz
  rw [q_lushr (Nat.lt_trans (E10_lt hf) (by decide)) (by omega), q_lto, p16 i hi, E_nib hi hf]
theorem image_eq {f : Nat → Nat} {i : Nat} (hf : ∀ i, f i < 16) (hi : i < 10) : f_X6_image (tz f) (nI i) = some (nI (f i)) := by
  unfold f_X6_image
  rw [q_36 i hi, tz_img hf hi]
theorem tz_inj {f g : Nat → Nat} (hf : ∀ i, f i < 16) (hg : ∀ i, g i < 16) : tz f = tz g ↔ ∀ i, i < 10 → f i = g i := by
  constructor
  · intro h i hi
    have h1 : E 10 f = E 10 g := (pk_lEQ (Nat.lt_trans (E10_lt hf) (by decide)) (Nat.lt_trans (E10_lt hg) (by decide))).mp h
    rw [← E_nib hi hf, ← E_nib hi hg, h1]
  · intro h
    exact congrArg lN (E_ext 10 h)
/-- the order of turns is that of their first difference -/
theorem E_lex {f g : Nat → Nat} {k m : Nat} (hf : ∀ i, f i < 16) (hg : ∀ i, g i < 16) (hk : k < m) (he : ∀ i, i < k → f i = g i) (hl : f k < g k) : E m f < E m g := by
  have h1 := E_split f (k + 1) (m - (k + 1))
  have h2 := E_split g (k + 1) (m - (k + 1))
  rw [show k + 1 + (m - (k + 1)) = m by omega] at h1 h2
  have a : E (k + 1) f + 1 ≤ E (k + 1) g := by
    show 16 * E k f + f k + 1 ≤ 16 * E k g + g k
    rw [E_ext k he]
    omega
  have b : E (m - (k + 1)) (fun i => f (k + 1 + i)) < 16 ^ (m - (k + 1)) := E_lt _ (fun i _ => hf _)
  have c : 16 ^ (m - (k + 1)) * (E (k + 1) f + 1) ≤ 16 ^ (m - (k + 1)) * E (k + 1) g := Nat.mul_le_mul_left _ a
  rw [Nat.mul_add] at c
  omega
theorem tz_lt {f g : Nat → Nat} (hf : ∀ i, f i < 16) (hg : ∀ i, g i < 16) : tz f < tz g ↔ E 10 f < E 10 g :=
  pk_lLT (Nat.lt_trans (E10_lt hf) (by decide)) (Nat.lt_trans (E10_lt hg) (by decide))
theorem tz_nn {f : Nat → Nat} (hf : ∀ i, f i < 16) : ¬ tz f < 0 := by
  have h := pk_lLT (a := E 10 f) (b := 0) (Nat.lt_trans (E10_lt hf) (by decide)) (by decide)
  intro h2
  exact Nat.not_lt_zero _ (h.mp h2)
