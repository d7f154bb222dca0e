/-! Digits of a shape -/
theorem E_inc {f : Nat → Nat} {j v : Nat} : ∀ k, j < k → E k (us f j (f j + v)) = E k f + v * 16 ^ (k - 1 - j) := by
  intro k
  induction k with
  | zero => intro h; omega
  | succ k ih =>
    intro hj
    show 16 * E k (us f j (f j + v)) + us f j (f j + v) k = 16 * E k f + f k + v * 16 ^ (k + 1 - 1 - j)
    by_cases h : j = k
    · subst h
      rw [us_s, E_ext (g := f) j (fun i hi => us_n (by omega)), show j + 1 - 1 - j = 0 by omega, Nat.pow_zero, Nat.mul_one]
      omega
    · rw [ih (by omega), us_n (by omega), show k + 1 - 1 - j = (k - 1 - j) + 1 by omega, Nat.pow_succ, Nat.mul_add, ← Nat.mul_assoc v, Nat.mul_comm (v * _) 16]
      omega
/-- how many cycles of a length -/
def cnt (p : Nat → Nat) (j : Nat) : Nat → Nat := cT (fun i => mn p i && decide (cl p i = j + 1))
section SD
variable {n : Nat} {p : Nat → Nat}
theorem SH_E (hn : n ≤ 10) (hp : IsP n p) : ∀ i, i ≤ n → SH p i = E 10 (fun k => cnt p (9 - k) i) := by
  intro i
  induction i with
  | zero => intro _; rfl
  | succ i ih =>
    intro hi
    show SH p i + (if mn p i = true then 16 ^ (cl p i - 1) else 0) = _
    rw [ih (by omega)]
    have hc := cl_spec hn hp (show i < n by omega)
    cases hm : mn p i
    · rw [if_neg (by decide)]
      refine E_ext 10 (fun k hk => ?_)
      exact (cT_f (P := fun i => mn p i && decide (cl p i = 9 - k + 1)) (by rw [hm]; rfl)).symm
    · rw [if_pos rfl]
      have := E_inc (f := fun k => cnt p (9 - k) i) (j := 10 - cl p i) (v := 1) 10 (by omega)
      rw [Nat.one_mul, show 10 - 1 - (10 - cl p i) = cl p i - 1 by omega] at this
      rw [← this]
      refine E_ext 10 (fun k hk => ?_)
      unfold us
      by_cases e : k = 10 - cl p i
      · rw [if_pos e]
        have e9 : cl p i - 1 = 9 - k := by omega
        have e8 : decide (cl p i = 9 - k + 1) = true := decide_eq_true (by omega)
        rw [e9]
        exact (cT_t (P := fun x => mn p x && decide (cl p x = 9 - k + 1)) (by rw [hm, e8]; rfl)).symm
      · rw [if_neg e]
        have e8 : decide (cl p i = 9 - k + 1) = false := decide_eq_false (by omega)
        exact (cT_f (P := fun x => mn p x && decide (cl p x = 9 - k + 1)) (by rw [e8, Bool.and_false])).symm
theorem cnt_le (j : Nat) (i : Nat) : cnt p j i ≤ i := cT_le _ _
theorem SH_nib (hn : n ≤ 10) (hp : IsP n p) {j : Nat} (hj : j < 10) : SH p n / 16 ^ j % 16 = cnt p j n := by
  rw [SH_E hn hp n (Nat.le_refl n)]
  have := E_nib (f := fun k => cnt p (9 - k) n) (i := 9 - j) (by omega) (fun k => by have := cnt_le (p := p) (9 - k) n; omega)
  rw [show 9 - (9 - j) = j by omega] at this
  exact this
theorem SH_lt (hn : n ≤ 10) (hp : IsP n p) : SH p n < 2 ^ 40 := by
  rw [SH_E hn hp n (Nat.le_refl n)]
  exact E10_lt (fun k => by have := cnt_le (p := p) (9 - k) n; omega)
theorem sm_ext {f g : Nat → Nat} : ∀ n, (∀ i, i < n → f i = g i) → sm f n = sm g n := by
  intro n
  induction n with
  | zero => intro _; rfl
  | succ n ih => intro h; show sm f n + f n = sm g n + g n; rw [ih (fun i hi => h i (by omega)), h n (by omega)]
theorem sm_add {f g : Nat → Nat} : ∀ n, sm (fun i => f i + g i) n = sm f n + sm g n := by
  intro n
  induction n with
  | zero => rfl
  | succ n ih => show sm (fun i => f i + g i) n + (f n + g n) = sm f n + f n + (sm g n + g n); rw [ih]; omega
theorem sm_one {k : Nat} : ∀ n, sm (fun j => if j = k then 1 else 0) n = if k < n then 1 else 0 := by
  intro n
  induction n with
  | zero => rfl
  | succ n ih =>
    show sm (fun j => if j = k then 1 else 0) n + (if n = k then 1 else 0) = _
    rw [ih]
    by_cases h : k < n
    · rw [if_pos h, if_neg (by omega), if_pos (by omega)]
    · rw [if_neg h]
      by_cases e : n = k
      · rw [if_pos e, if_pos (by omega)]
      · rw [if_neg e, if_neg (by omega)]
theorem sm_zero : ∀ n, sm (fun _ => 0) n = 0 := by
  intro n
  induction n with
  | zero => rfl
  | succ n ih => show sm (fun _ => 0) n + 0 = 0; rw [ih]
theorem sm_cnt (hn : n ≤ 10) (hp : IsP n p) : ∀ i, i ≤ n → sm (fun j => cnt p j i) 10 = cT (mn p) i := by
  intro i
  induction i with
  | zero => intro _; exact sm_zero 10
  | succ i ih =>
    intro hi
    have hc := cl_spec hn hp (show i < n by omega)
    cases hm : mn p i
    · rw [cT_f hm, ← ih (by omega)]
      refine sm_ext 10 (fun j hj => ?_)
      exact cT_f (P := fun x => mn p x && decide (cl p x = j + 1)) (by rw [hm]; rfl)
    · rw [cT_t hm, ← ih (by omega)]
      have e : sm (fun j => cnt p j (i + 1)) 10 = sm (fun j => cnt p j i + (if j = cl p i - 1 then 1 else 0)) 10 := sm_ext 10 (fun j hj => by
        by_cases g : j = cl p i - 1
        · rw [if_pos g]
          exact cT_t (P := fun x => mn p x && decide (cl p x = j + 1)) (by rw [hm, decide_eq_true (by omega)]; rfl)
        · rw [if_neg g]
          exact cT_f (P := fun x => mn p x && decide (cl p x = j + 1)) (by rw [decide_eq_false (by omega), Bool.and_false]))
      rw [e, sm_add, sm_one, if_pos (by omega)]
theorem p16j (j : Nat) : 2 ^ (4 * j) = 16 ^ j := by rw [Nat.pow_mul]
theorem cycles_num {t : Nat} (ht : t < 2 ^ 40) : f_X6_cycles (lN t) = some (nI (sm (fun j => t / 16 ^ j % 16) 10)) := by
  unfold f_X6_cycles
  exact for0 (fun fu z => f_X6_cycles_4 (lN t) fu z.1 z.2) (fun j => (nI (sm (fun j => t / 16 ^ j % 16) j), nI (4 * j))) 10 _ (by omega)
    (fun fu => by
      dsimp only
      rw [f_X6_cycles_4, if_pos (by decide)])
    (fun fu j hj => by
      dsimp only
      rw [f_X6_cycles_4, if_neg (by rw [show (40 : Int32) = nI 40 from rfl, q_le (by decide) (by omega)]; omega), q_lushr (by omega) (by omega), q_lto, p16j, bnd_eq, nI_add, bnd_eq, show (4 : Int32) = nI 4 from rfl, nI_add]
      rfl)
theorem cycles_eq (hn : n ≤ 10) (hp : IsP n p) : f_X6_cycles (lN (SH p n)) = some (nI (cT (mn p) n)) := by
  rw [cycles_num (SH_lt hn hp), sm_ext (g := fun j => cnt p j n) 10 (fun j hj => SH_nib hn hp hj), sm_cnt hn hp n (Nat.le_refl n)]
theorem cnt0 (hn : n ≤ 10) (hp : IsP n p) : cnt p 0 n = cT (fun i => decide (p i = i)) n := by
  refine cT_ext n (fun i hi => ?_)
  rw [Bool.eq_iff_iff, Bool.and_eq_true_iff, decide_eq_true_iff, decide_eq_true_iff]
  have hc := cl_spec hn hp hi
  constructor
  · intro ⟨_, h⟩
    have := hc.2.2.1
    rw [h] at this
    exact this
  · intro h
    have h1 : cl p i = 1 := by
      refine Classical.byContradiction fun hne => ?_
      exact hc.2.2.2 1 (by omega) (by omega) h
    refine ⟨(mn_iff hn hp hi).mpr (fun k => ?_), h1⟩
    rw [pw_mod hn hp hi k, h1, Nat.mod_one]
    exact Nat.le_refl i
theorem staying_eq (hn : n ≤ 10) (hp : IsP n p) : f_X6_staying (lN (SH p n)) = some (nI (cT (fun i => decide (p i = i)) n)) := by
  unfold f_X6_staying
  have := SH_nib hn hp (j := 0) (by decide)
  rw [Nat.pow_zero, Nat.div_one] at this
  rw [q_lto, this, cnt0 hn hp]
theorem isEven_eq (hn : n ≤ 10) (hp : IsP n p) : f_X6_isEven (tn n p) (nI n) = some (decide ((n - cT (mn p) n) % 2 = 0)) := by
  unfold f_X6_isEven
  have hle := cT_le (mn p) n
  rw [ob (shape_eq hn hp), ob (cycles_eq hn hp), pk_sub hle, q_and1 (by omega)]
  by_cases h : (n - cT (mn p) n) % 2 = 0
  · rw [h, if_pos (show nI 0 = 0 from rfl)]; rfl
  · rw [if_neg (nI_ne0 (by omega) (by omega)), decide_eq_false h]
theorem isEven8_eq {I : MI} {L : ML} {a : Nat} (hn : n ≤ 10) (hp : IsP n p) (h43 : I 43 2 = nI n) (hr : Row I a 0 p) : f_X8_isEven a I L = some (decide ((n - cT (mn p) n) % 2 = 0)) := by
  unfold f_X8_isEven
  have hle := cT_le (mn p) n
  rw [ob (cycles8_eq hn hp h43 hr), chk_pos (by decide), h43, pk_sub hle, show irem (nI (n - cT (mn p) n)) 2 = nI ((n - cT (mn p) n) % 2) from pk_rem (d := 2) (by omega) (by decide) (by decide)]
  by_cases h : (n - cT (mn p) n) % 2 = 0
  · rw [h, if_pos (show nI 0 = 0 from rfl)]; rfl
  · rw [if_neg (nI_ne0 (by omega) (by omega)), decide_eq_false h]
theorem moved_eq (hn : n ≤ 10) (hp : IsP n p) : f_X6_moved (tn n p) (nI n) = some (nI (oS (fun i => decide (p i ≠ i)) n)) := by
  unfold f_X6_moved
  exact for0 (fun fu z => f_X6_moved_5 (tn n p) (nI n) fu z.1 z.2) (fun i => (nI (oS (fun i => decide (p i ≠ i)) i), nI i)) n _ (by omega)
    (fun fu => by
      dsimp only
      rw [f_X6_moved_5, if_pos (by rw [q_le (by omega) (by omega)]; omega)])
    (fun fu i hi => by
      dsimp only
      have := hp.1 i hi
      rw [f_X6_moved_5, if_neg (by rw [q_le (by omega) (by omega)]; omega), ob (tn_img hn hp hi), ifc (q_eq (by omega) (by omega))]
      by_cases g : p i = i
      · rw [if_pos g, bnd_eq, nI_1, oS_f (P := fun i => decide (p i ≠ i)) (decide_eq_false (fun h => h g))]
      · rw [if_neg g, bnd_eq, q_shl1 (by omega), q_or, bnd_eq, nI_1, oS_t (P := fun i => decide (p i ≠ i)) (decide_eq_true g)])
theorem about111_eq {I : MI} {L : ML} (hn : n ≤ 10) (hp : IsP n p) (h43 : I 43 2 = nI n) (hr : Row I 46 0 p) : f_X8_about_111 I L FU 0 0 = some (nI (oS (fun i => decide (p i ≠ i)) n), I, L) :=
  for0 (fun fu z => f_X8_about_111 I L fu z.1 z.2) (fun i => (nI (oS (fun i => decide (p i ≠ i)) i), nI i)) n _ (by omega)
    (fun fu => by
      dsimp only
      rw [f_X8_about_111, h43, if_pos (by rw [q_le (by omega) (by omega)]; omega)])
    (fun fu i hi => by
      dsimp only
      have := hp.1 i hi
      rw [f_X8_about_111, h43, if_neg (by rw [q_le (by omega) (by omega)]; omega), q_chk (by omega) (by decide), q_ix (by omega), Row0 hr (by omega), ifc (q_eq (by omega) (by omega))]
      by_cases g : p i = i
      · rw [if_pos g, bnd_eq, bnd_eq, nI_1, oS_f (P := fun i => decide (p i ≠ i)) (decide_eq_false (fun h => h g)), show (0 : Int32) = nI 0 from rfl, q_or, Nat.or_zero]
      · rw [if_neg g, bnd_eq, q_shl1 (by omega), q_or, bnd_eq, nI_1, oS_t (P := fun i => decide (p i ≠ i)) (decide_eq_true g)])
end SD
/-! Common divisors and orders -/
theorem gcd_st (a b : Nat) : Nat.gcd a b = Nat.gcd b (a % b) := (Nat.gcd_comm a b).trans ((Nat.gcd_rec b a).trans (Nat.gcd_comm _ _))
theorem q_irem {a b : Nat} (ha : a < 2 ^ 31) (h0 : 0 < b) (hb : b < 2 ^ 31) : irem (nI a) (nI b) = nI (a % b) := pk_rem ha h0 hb
theorem gcdC_l : ∀ j fu a b it, b < 2 ^ j → it + (2 * j + 1) ≤ 64 → 2 * j + 1 < fu → a < 2 ^ 31 → b < 2 ^ 31 → f_X6_commonDivisor_7 fu (nI a) (nI b) (nI it) = some (nI (Nat.gcd a b)) := by
  have z : ∀ fu a it, it < 64 → f_X6_commonDivisor_7 (fu + 1) (nI a) (nI 0) (nI it) = some (nI (Nat.gcd a 0)) := fun fu a it h => by
    rw [f_X6_commonDivisor_7, if_neg (by rw [show (64 : Int32) = nI 64 from rfl, q_le (by decide) (by omega)]; omega), if_pos (show nI 0 = 0 from rfl), Nat.gcd_zero_right]
  have s : ∀ fu a b it, it < 64 → 0 < b → a < 2 ^ 31 → b < 2 ^ 31 → f_X6_commonDivisor_7 (fu + 1) (nI a) (nI b) (nI it) = f_X6_commonDivisor_7 fu (nI b) (nI (a % b)) (nI (it + 1)) := fun fu a b it h h0 ha hb => by
    rw [f_X6_commonDivisor_7, if_neg (by rw [show (64 : Int32) = nI 64 from rfl, q_le (by decide) (by omega)]; omega), if_neg (nI_ne0 h0 hb), chk_pos (decide_eq_true (nI_ne0 h0 hb)), bnd_eq, bnd_eq, nI_1, q_irem ha h0 hb]
  intro j
  induction j with
  | zero =>
    intro fu a b it hb h1 h2 ha hb2
    obtain ⟨fu, rfl⟩ : ∃ m, fu = m + 1 := ⟨fu - 1, by omega⟩
    have e : b = 0 := by have : 2 ^ 0 = 1 := rfl; omega
    subst e
    exact z fu a it (by omega)
  | succ j ih =>
    intro fu a b it hb h1 h2 ha hb2
    obtain ⟨fu, rfl⟩ : ∃ m, fu = m + 2 := ⟨fu - 2, by omega⟩
    rcases Nat.eq_zero_or_pos b with g | g
    · subst g; exact z (fu + 1) a it (by omega)
    · rw [s (fu + 1) a b it (by omega) g ha hb2, gcd_st a b]
      have hr := Nat.mod_lt a g
      rcases Nat.eq_zero_or_pos (a % b) with g2 | g2
      · rw [g2]; exact z fu b (it + 1) (by omega)
      · rw [s fu b (a % b) (it + 1) (by omega) g2 hb2 (by omega), gcd_st b (a % b)]
        have hr2 := Nat.mod_lt b g2
        have hdm := Nat.div_add_mod b (a % b)
        have hq : 1 ≤ b / (a % b) := Nat.div_pos (Nat.le_of_lt hr) g2
        have hq2 : a % b * 1 ≤ a % b * (b / (a % b)) := Nat.mul_le_mul_left _ hq
        have hp2 : 2 ^ (j + 1) = 2 * 2 ^ j := by rw [Nat.pow_succ, Nat.mul_comm]
        exact ih fu (a % b) (b % (a % b)) (it + 1 + 1) (by omega) (by omega) (by omega) (by omega) (by omega)
theorem gcdC {a b : Nat} (ha : a < 2 ^ 31) (hb : b < 2 ^ 31) : f_X6_commonDivisor (nI a) (nI b) = some (nI (Nat.gcd a b)) := by
  unfold f_X6_commonDivisor
  have := gcdC_l 31 FU a b 0 hb (by decide) (by unfold FU; omega) ha hb
  rw [nI_0] at this
  exact this
theorem gcdR_l : ∀ b fu a, b < fu → a < 2 ^ 31 → b < 2 ^ 31 → f_X8_common_4 fu (nI a) (nI b) = some (nI (Nat.gcd a b)) := by
  intro b
  induction b using Nat.strongRecOn with
  | ind b ih =>
    intro fu a hf ha hb
    obtain ⟨fu, rfl⟩ : ∃ m, fu = m + 1 := ⟨fu - 1, by omega⟩
    rw [f_X8_common_4]
    rcases Nat.eq_zero_or_pos b with g | g
    · subst g; rw [if_pos (show nI 0 = 0 from rfl), Nat.gcd_zero_right]
    · have hr := Nat.mod_lt a g
      rw [if_neg (nI_ne0 g hb), chk_pos (decide_eq_true (nI_ne0 g hb)), bnd_eq, q_irem ha g hb, gcd_st a b]
      exact ih (a % b) hr fu b (by omega) hb (by omega)
theorem gcdR {a b : Nat} (ha : a < 2 ^ 31) (hb : b < 1000000000) : f_X8_common (nI a) (nI b) = some (nI (Nat.gcd a b)) := by
  unfold f_X8_common
  exact gcdR_l b FU a (by unfold FU; omega) ha (by omega)
/-- the reference's order of one -/
def lcf (p : Nat → Nat) : Nat → Nat
  | 0 => 1
  | i + 1 => if mn p i = true then Nat.lcm (lcf p i) (cl p i) else lcf p i
def pf (t : Nat) : Nat → Nat
  | 0 => 1
  | k + 1 => if t / 16 ^ (k + 1) % 16 ≠ 0 then Nat.lcm (pf t k) (k + 2) else pf t k
section OD
variable {n : Nat} {p : Nat → Nat}
theorem lcm_dv {a b d : Nat} : Nat.lcm a b ∣ d ↔ (a ∣ d ∧ b ∣ d) := ⟨fun h => ⟨Nat.dvd_trans (Nat.dvd_lcm_left a b) h, Nat.dvd_trans (Nat.dvd_lcm_right a b) h⟩, fun h => Nat.lcm_dvd h.1 h.2⟩
theorem lcf_dv {d : Nat} : ∀ i, lcf p i ∣ d ↔ ∀ x, x < i → mn p x = true → cl p x ∣ d := by
  intro i
  induction i with
  | zero => exact ⟨fun _ x hx => by omega, fun _ => Nat.one_dvd d⟩
  | succ i ih =>
    show (if mn p i = true then Nat.lcm (lcf p i) (cl p i) else lcf p i) ∣ d ↔ _
    by_cases hm : mn p i = true
    · rw [if_pos hm, lcm_dv, ih]
      constructor
      · intro ⟨h1, h2⟩ x hx hmx
        by_cases e : x = i
        · rw [e]; exact h2
        · exact h1 x (by omega) hmx
      · intro h; exact ⟨fun x hx => h x (by omega), h i (by omega) hm⟩
    · rw [if_neg hm, ih]
      constructor
      · intro h x hx hmx
        by_cases e : x = i
        · rw [e] at hmx; exact absurd hmx hm
        · exact h x (by omega) hmx
      · intro h x hx; exact h x (by omega)
theorem pf_dv {t d : Nat} : ∀ k, pf t k ∣ d ↔ ∀ j, j < k → t / 16 ^ (j + 1) % 16 ≠ 0 → j + 2 ∣ d := by
  intro k
  induction k with
  | zero => exact ⟨fun _ x hx => by omega, fun _ => Nat.one_dvd d⟩
  | succ k ih =>
    show (if t / 16 ^ (k + 1) % 16 ≠ 0 then Nat.lcm (pf t k) (k + 2) else pf t k) ∣ d ↔ _
    by_cases hm : t / 16 ^ (k + 1) % 16 ≠ 0
    · rw [if_pos hm, lcm_dv, ih]
      constructor
      · intro ⟨h1, h2⟩ x hx hmx
        by_cases e : x = k
        · rw [e]; exact h2
        · exact h1 x (by omega) hmx
      · intro h; exact ⟨fun x hx => h x (by omega), h k (by omega) hm⟩
    · rw [if_neg hm, ih]
      constructor
      · intro h x hx hmx
        by_cases e : x = k
        · rw [e] at hmx; exact absurd hmx hm
        · exact h x (by omega) hmx
      · intro h x hx; exact h x (by omega)
theorem pf_le (t : Nat) {k : Nat} (hk : k ≤ 9) : pf t k ∣ 2520 := (pf_dv k).mpr (fun j hj _ => by
  have : ∀ j : Nat, j < 9 → j + 2 ∣ 2520 := by decide
  exact this j (by omega))
theorem lcf_le (hn : n ≤ 10) (hp : IsP n p) {i : Nat} (hi : i ≤ n) : lcf p i ∣ 2520 := (lcf_dv i).mpr (fun x hx _ => by
  have hc := cl_spec hn hp (show x < n by omega)
  have : ∀ j : Nat, j < 11 → 1 ≤ j → j ∣ 2520 := by decide
  exact this _ (by omega) hc.1)
theorem dv_rng {a : Nat} (h : a ∣ 2520) : 0 < a ∧ a ≤ 2520 := ⟨Nat.pos_of_dvd_of_pos h (by decide), Nat.le_of_dvd (by decide) h⟩
theorem pf_lcf (hn : n ≤ 10) (hp : IsP n p) : pf (SH p n) 9 = lcf p n := by
  have key : ∀ d, pf (SH p n) 9 ∣ d ↔ lcf p n ∣ d := fun d => by
    rw [pf_dv, lcf_dv]
    constructor
    · intro h x hx hm
      have hc := cl_spec hn hp hx
      by_cases e : cl p x = 1
      · rw [e]; exact Nat.one_dvd d
      · have := h (cl p x - 2) (by omega) (by
          rw [show cl p x - 2 + 1 = cl p x - 1 by omega, SH_nib hn hp (by omega)]
          have : cT (fun i => mn p i && decide (cl p i = cl p x - 1 + 1)) x < cT (fun i => mn p i && decide (cl p i = cl p x - 1 + 1)) n := cT_lt _ hx (by rw [hm, decide_eq_true (by omega)]; rfl)
          unfold cnt
          omega)
        rwa [show cl p x - 2 + 2 = cl p x by omega] at this
    · intro h j hj hne
      rw [SH_nib hn hp (by omega)] at hne
      obtain ⟨i, hi, hP, _⟩ := cT_nth _ n 0 (Nat.pos_of_ne_zero hne)
      obtain ⟨a, b⟩ := Bool.and_eq_true_iff.mp hP
      have := h i hi a
      rwa [of_decide_eq_true b] at this
  exact Nat.dvd_antisymm ((key _).mpr (Nat.dvd_refl _)) ((key _).mp (Nat.dvd_refl _))
theorem period_num {t : Nat} (ht : t < 2 ^ 40) : f_X6_period (lN t) = some (nI (pf t 9)) := by
  unfold f_X6_period
  exact for0 (fun fu z => f_X6_period_4 (lN t) fu z.1 z.2) (fun k => (nI (pf t k), nI (k + 2))) 9 _ (by omega)
    (fun fu => by
      dsimp only
      rw [f_X6_period_4, if_pos (by decide)])
    (fun fu k hk => by
      dsimp only
      obtain ⟨d1, d2⟩ := dv_rng (pf_le t (show k ≤ 9 by omega))
      rw [f_X6_period_4, if_neg (by rw [show (10 : Int32) = nI 10 from rfl, q_lt (by decide) (by omega)]; omega), show (4 : Int32) * nI (k + 2) - 4 = nI (4 * (k + 1)) by rw [show (4 : Int32) = nI 4 from rfl, pk_mul, pk_sub (by omega), show 4 * (k + 2) - 4 = 4 * (k + 1) by omega], q_lushr (by omega) (by omega), q_l15, p16j, ifc (q_cmp0 _ _)]
      have hm := Nat.mod_lt (t / 16 ^ (k + 1)) (show 16 > 0 by decide)
      by_cases g : t / 16 ^ (k + 1) % 16 = 0
      · have e1 : pf t (k + 1) = pf t k := if_neg (fun h => h g)
        rw [if_pos (by rw [g]; rfl), bnd_eq, nI_1, e1]
      · have e1 : pf t (k + 1) = Nat.lcm (pf t k) (k + 2) := if_pos g
        have hne : ¬ lN (t / 16 ^ (k + 1) % 16) = 0 := fun h => g ((pk_lEQ (b := 0) (by omega) (by decide)).mp h)
        have hg : 0 < Nat.gcd (pf t k) (k + 2) := Nat.gcd_pos_of_pos_left _ d1
        have hg2 : Nat.gcd (pf t k) (k + 2) ≤ k + 2 := Nat.le_of_dvd (by omega) (Nat.gcd_dvd_right _ _)
        rw [if_neg hne, ob (gcdC (by omega) (by omega)), if_neg (nI_nle hg (by omega)), chk_pos (decide_eq_true (nI_ne0 hg (by omega))), bnd_eq, pk_div (by omega) hg (by omega), pk_mul, bnd_eq, nI_1, e1]
        unfold Nat.lcm
        rw [Nat.mul_div_assoc _ (Nat.gcd_dvd_right _ _)])
theorem period_eq (hn : n ≤ 10) (hp : IsP n p) : f_X6_period (lN (SH p n)) = some (nI (lcf p n)) := by
  rw [period_num (SH_lt hn hp), pf_lcf hn hp]
theorem orderOf__eq {I : MI} {L : ML} {a : Nat} (hn : n ≤ 10) (hp : IsP n p) (h43 : I 43 2 = nI n) (hr : Row I a 0 p) : f_X8_orderOf_ a I L = some (nI (lcf p n)) := by
  unfold f_X8_orderOf_
  exact for0 (fun fu z => f_X8_orderOf__4 a I L fu z.1 z.2) (fun i => (nI (lcf p i), nI i)) n _ (by omega)
    (fun fu => by
      dsimp only
      rw [f_X8_orderOf__4, h43, if_pos (by rw [q_le (by omega) (by omega)]; omega)])
    (fun fu i hi => by
      dsimp only
      obtain ⟨d1, d2⟩ := dv_rng (lcf_le hn hp (show i ≤ n by omega))
      have hc := cl_spec hn hp hi
      rw [f_X8_orderOf__4, h43, if_neg (by rw [q_le (by omega) (by omega)]; omega), ob (cycleFrom_eq hn hp hr hi)]
      cases hm : mn p i
      · have e1 : lcf p (i + 1) = lcf p i := if_neg (by rw [hm]; decide)
        rw [if_neg (show ¬ false = true by decide), if_pos (show nI 0 = 0 from rfl), bnd_eq, nI_1, e1]
      · have e1 : lcf p (i + 1) = Nat.lcm (lcf p i) (cl p i) := if_pos hm
        have hg : 0 < Nat.gcd (lcf p i) (cl p i) := Nat.gcd_pos_of_pos_left _ d1
        have hg2 : Nat.gcd (lcf p i) (cl p i) ≤ cl p i := Nat.le_of_dvd (by omega) (Nat.gcd_dvd_right _ _)
        rw [if_pos rfl, if_neg (nI_ne0 (by omega) (by omega)), ob (gcdR (by omega) (by omega)), chk_pos (decide_eq_true (nI_ne0 hg (by omega))), bnd_eq, pk_div (by omega) hg (by omega), pk_mul, bnd_eq, nI_1, e1]
        unfold Nat.lcm
        rw [Nat.mul_comm (lcf p i), Nat.mul_div_assoc _ (Nat.gcd_dvd_left _ _), Nat.mul_comm])
theorem typeOf25 {I : MI} {L : ML} {a c : Nat} {v2 : Int64} {v4 : Int32} (hc : c ≤ 10) (k0 : Int64 → Option Int64) : f_X8_typeOf_25 a v2 v4 I L k0 FU 1 (nI c) = k0 (lN (16 ^ (c - 1))) := by
  have := for0 (fun fu z => f_X8_typeOf_25 a v2 v4 I L k0 fu z.1 z.2) (fun t => (lN (16 ^ t), nI (c - t))) (c - 1) (k0 (lN (16 ^ (c - 1)))) (by omega)
    (fun fu => by
      dsimp only
      rw [f_X8_typeOf_25, if_pos (by rw [show (1 : Int32) = nI 1 from rfl, q_le (by omega) (by decide)]; omega)])
    (fun fu t ht => by
      dsimp only
      rw [f_X8_typeOf_25, if_neg (by rw [show (1 : Int32) = nI 1 from rfl, q_le (by omega) (by decide)]; omega), bnd_eq, show (16 : Int64) = lN 16 from rfl, lN_mul, bnd_eq, show c - t = (c - (t + 1)) + 1 by omega, pk_m1, Nat.pow_succ])
  exact this
theorem typeOf_eq {I : MI} {L : ML} {a : Nat} (hn : n ≤ 10) (hp : IsP n p) (h43 : I 43 2 = nI n) (hr : Row I a 0 p) : f_X8_typeOf a I L = some (lN (SH p n)) := by
  unfold f_X8_typeOf
  exact for0 (fun fu z => f_X8_typeOf_5 a I L fu z.1 z.2) (fun i => (lN (SH p i), nI i)) n _ (by omega)
    (fun fu => by
      dsimp only
      rw [f_X8_typeOf_5, h43, if_pos (by rw [q_le (by omega) (by omega)]; omega)])
    (fun fu i hi => by
      dsimp only
      have hc := cl_spec hn hp hi
      rw [f_X8_typeOf_5, h43, if_neg (by rw [q_le (by omega) (by omega)]; omega), ob (cycleFrom_eq hn hp hr hi), typeOf25 (by split <;> omega), ob (cycleFrom_eq hn hp hr hi)]
      have e0 : SH p (i + 1) = SH p i + (if mn p i = true then 16 ^ (cl p i - 1) else 0) := rfl
      rw [e0]
      cases hm : mn p i
      · rw [if_neg (show ¬ false = true by decide), if_pos (by decide), bnd_eq, bnd_eq, nI_1, if_neg (show ¬ false = true by decide), show (0 : Int64) = lN 0 from rfl, lN_add]
      · rw [if_pos rfl, if_neg (nI_nle (by omega) (by omega)), bnd_eq, bnd_eq, nI_1, if_pos rfl, lN_add])
/-- the order is a power that stays -/
theorem pw_lcf (hn : n ≤ 10) (hp : IsP n p) {i : Nat} (hi : i < n) : pw p (lcf p n) i = i := by
  obtain ⟨j, hj, hm, k, hk⟩ := mn_ex hn hp hi
  obtain ⟨q, hq⟩ := (lcf_dv n).mp (Nat.dvd_refl (lcf p n)) j hj hm
  have hc := (cl_spec hn hp hj).2.2.1
  rw [← hk, hq, ← pw_ad, Nat.add_comm, pw_ad, Nat.mul_comm, pw_mul hc]
end OD
