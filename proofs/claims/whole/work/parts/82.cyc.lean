/-! Cycles -/
/-- the first index below n that P has, else n -/
def ls1 (P : Nat → Bool) : Nat → Nat
  | 0 => 0
  | k + 1 => if ls1 P k < k then ls1 P k else if P k = true then k else k + 1
theorem ls1_spec (P : Nat → Bool) : ∀ n, ls1 P n ≤ n ∧ (ls1 P n < n → P (ls1 P n) = true) ∧ ∀ j, j < ls1 P n → P j = false := by
  intro n
  induction n with
  | zero => exact ⟨Nat.le_refl _, fun h => absurd h (Nat.lt_irrefl _), fun j h => absurd h (Nat.not_lt_zero j)⟩
  | succ n ih =>
    obtain ⟨a, b, c⟩ := ih
    show (if ls1 P n < n then ls1 P n else if P n = true then n else n + 1) ≤ n + 1 ∧ ((if ls1 P n < n then ls1 P n else if P n = true then n else n + 1) < n + 1 → P (if ls1 P n < n then ls1 P n else if P n = true then n else n + 1) = true) ∧ ∀ j, j < (if ls1 P n < n then ls1 P n else if P n = true then n else n + 1) → P j = false
    by_cases h : ls1 P n < n
    · rw [if_pos h]; exact ⟨by omega, fun _ => b h, c⟩
    · rw [if_neg h]
      have e : ls1 P n = n := by omega
      rw [e] at c
      by_cases hP : P n = true
      · rw [if_pos hP]; exact ⟨by omega, fun _ => hP, c⟩
      · rw [if_neg hP]
        refine ⟨Nat.le_refl _, fun h => absurd h (Nat.lt_irrefl _), fun j hj => ?_⟩
        by_cases ej : j = n
        · rw [ej]; simpa using hP
        · exact c j (by omega)
theorem ls1_eq {P : Nat → Bool} {n k : Nat} (hk : k ≤ n) (h1 : k < n → P k = true) (h2 : ∀ j, j < k → P j = false) : ls1 P n = k := by
  obtain ⟨a, b, c⟩ := ls1_spec P n
  rcases Nat.lt_trichotomy (ls1 P n) k with g | g | g
  · have := h2 _ g; rw [b (by omega)] at this; cases this
  · exact g
  · have := c k g; rw [h1 (by omega)] at this; cases this
theorem ls1_ext {P Q : Nat → Bool} {n : Nat} (h : ∀ i, i < n → P i = Q i) : ls1 P n = ls1 Q n := by
  obtain ⟨a, b, c⟩ := ls1_spec Q n
  exact ls1_eq a (fun g => by rw [h _ g]; exact b g) (fun j hj => by rw [h j (by omega)]; exact c j hj)
def cl (p : Nat → Nat) (i : Nat) : Nat := ls1 (fun k => decide (pw p (k + 1) i = i)) 10 + 1
def mn (p : Nat → Nat) (i : Nat) : Bool := (List.range 10).all (fun k => decide (i ≤ pw p k i))
section CY
variable {n : Nat} {p : Nat → Nat}
theorem pw_s (k i : Nat) : pw p (k + 1) i = p (pw p k i) := rfl
theorem pw_ad (k m i : Nat) : pw p (k + m) i = pw p m (pw p k i) := congrFun (pw_add p k m) i
theorem pw_lt (hp : IsP n p) {i : Nat} (hi : i < n) (k : Nat) : pw p k i < n := (IsP_pw hp k).1 i hi
theorem pw_ret (hn : n ≤ 10) (hp : IsP n p) {i : Nat} (hi : i < n) : ∃ k, 1 ≤ k ∧ k ≤ n ∧ pw p k i = i := by
  refine Classical.byContradiction fun hno => ?_
  have : n + 1 ≤ n := le_of_inj (fun t => pw p t i) (fun t _ => pw_lt hp hi t) (fun a b ha hb h => by
    have key : ∀ a b, a < b → b < n + 1 → pw p a i = pw p b i → False := fun a b hab hb h => by
      have e : pw p b i = pw p a (pw p (b - a) i) := by rw [← pw_ad, show b - a + a = b by omega]
      rw [e] at h
      exact hno ⟨b - a, by omega, by omega, ((IsP_pw hp a).2.2 _ _ h).symm⟩
    rcases Nat.lt_trichotomy a b with g | g | g
    · exact (key a b g hb h).elim
    · exact g
    · exact (key b a g ha h.symm).elim)
  omega
theorem cl_spec (hn : n ≤ 10) (hp : IsP n p) {i : Nat} (hi : i < n) : 1 ≤ cl p i ∧ cl p i ≤ n ∧ pw p (cl p i) i = i ∧ ∀ t, 1 ≤ t → t < cl p i → pw p t i ≠ i := by
  obtain ⟨k, k1, k2, k3⟩ := pw_ret hn hp hi
  obtain ⟨a, b, c⟩ := ls1_spec (fun k => decide (pw p (k + 1) i = i)) 10
  have hle : ls1 (fun k => decide (pw p (k + 1) i = i)) 10 ≤ k - 1 := by
    refine Nat.le_of_not_lt fun hlt => ?_
    have := c (k - 1) hlt
    rw [show k - 1 + 1 = k by omega, decide_eq_true k3] at this
    cases this
  unfold cl
  refine ⟨by omega, by omega, of_decide_eq_true (b (by omega)), fun t h1 h2 h3 => ?_⟩
  have := c (t - 1) (by omega)
  rw [show t - 1 + 1 = t by omega, decide_eq_true h3] at this
  cases this
theorem pw_mul {i c : Nat} (h : pw p c i = i) : ∀ q, pw p (q * c) i = i := by
  intro q
  induction q with
  | zero => rw [Nat.zero_mul]; rfl
  | succ q ih => rw [Nat.succ_mul, pw_ad, ih, h]
theorem pw_mod (hn : n ≤ 10) (hp : IsP n p) {i : Nat} (hi : i < n) (k : Nat) : pw p k i = pw p (k % cl p i) i := by
  have hc := (cl_spec hn hp hi).2.2.1
  have e : k = k / cl p i * cl p i + k % cl p i := by rw [Nat.mul_comm]; exact (Nat.div_add_mod k _).symm
  have e2 : pw p k i = pw p (k / cl p i * cl p i + k % cl p i) i := by rw [← e]
  rw [e2, pw_ad, pw_mul hc]
theorem cl_dvd (hn : n ≤ 10) (hp : IsP n p) {i : Nat} (hi : i < n) {k : Nat} (h : pw p k i = i) : cl p i ∣ k := by
  obtain ⟨a, _, _, d⟩ := cl_spec hn hp hi
  rw [pw_mod hn hp hi k] at h
  have hlt := Nat.mod_lt k (show cl p i > 0 by omega)
  by_cases g : k % cl p i = 0
  · exact Nat.dvd_of_mod_eq_zero g
  · exact absurd h (d _ (by omega) hlt)
theorem cl_inj (hn : n ≤ 10) (hp : IsP n p) {i : Nat} (hi : i < n) {a b : Nat} (ha : a < cl p i) (hb : b < cl p i) (h : pw p a i = pw p b i) : a = b := by
  have key : ∀ a b, a < b → b < cl p i → pw p a i = pw p b i → False := fun a b hab hb h => by
    have e : pw p b i = pw p a (pw p (b - a) i) := by rw [← pw_ad, show b - a + a = b by omega]
    rw [e] at h
    exact (cl_spec hn hp hi).2.2.2 (b - a) (by omega) (by omega) ((IsP_pw hp a).2.2 _ _ h).symm
  rcases Nat.lt_trichotomy a b with g | g | g
  · exact (key a b g hb h).elim
  · exact g
  · exact (key b a g ha h.symm).elim
/-- back along the cycle -/
theorem pw_back (hn : n ≤ 10) (hp : IsP n p) {i : Nat} (hi : i < n) (k : Nat) : ∃ m, pw p m (pw p k i) = i := by
  obtain ⟨a, _, c, _⟩ := cl_spec hn hp hi
  refine ⟨(k + 1) * cl p i - k, ?_⟩
  have hge : k ≤ (k + 1) * cl p i := Nat.le_trans (Nat.le_succ k) (Nat.le_mul_of_pos_right _ a)
  rw [← pw_ad, show k + ((k + 1) * cl p i - k) = (k + 1) * cl p i by omega, pw_mul c]
theorem mn_iff (hn : n ≤ 10) (hp : IsP n p) {i : Nat} (hi : i < n) : mn p i = true ↔ ∀ k, i ≤ pw p k i := by
  unfold mn
  rw [List.all_eq_true]
  constructor
  · intro h k
    rw [pw_mod hn hp hi k]
    have := cl_spec hn hp hi
    exact of_decide_eq_true (h _ (List.mem_range.mpr (by have := Nat.mod_lt k (show cl p i > 0 by omega); omega)))
  · intro h k _
    exact decide_eq_true (h k)
/-- the least of a cycle -/
theorem mn_ex (hn : n ≤ 10) (hp : IsP n p) {i : Nat} (hi : i < n) : ∃ j, j < n ∧ mn p j = true ∧ ∃ k, pw p k j = i := by
  obtain ⟨j, h1, ⟨k, h2⟩, h3⟩ := least_ex (fun j => ∃ k, pw p k i = j) i ⟨0, rfl⟩
  have hj : j < n := by omega
  refine ⟨j, hj, (mn_iff hn hp hj).mpr (fun t => Nat.le_of_not_lt fun hlt => ?_), ?_⟩
  · exact h3 _ hlt ⟨k + t, by rw [pw_ad, h2]⟩
  · obtain ⟨m, hm⟩ := pw_back hn hp hi k
    exact ⟨m, by rw [← h2]; exact hm⟩
/-- the reference: a cycle from its least point -/
theorem cycleFrom_eq {I : MI} {L : ML} {a i : Nat} (hn : n ≤ 10) (hp : IsP n p) (hr : Row I a 0 p) (hi : i < n) : f_X8_cycleFrom a (nI i) I L = some (nI (if mn p i = true then cl p i else 0)) := by
  obtain ⟨c1, c2, c3, c4⟩ := cl_spec hn hp hi
  unfold f_X8_cycleFrom
  rw [q_chk (by omega) (by decide), bnd_eq, q_ix (by omega), Row0 hr (by omega)]
  have step : ∀ fu t, t + 1 < cl p i → i ≤ pw p (t + 1) i → f_X8_cycleFrom_6 a (nI i) I L (fu + 1) (nI (t + 1)) (nI (pw p (t + 1) i)) = f_X8_cycleFrom_6 a (nI i) I L fu (nI (t + 1 + 1)) (nI (pw p (t + 1 + 1) i)) := fun fu t h1 h2 => by
    have hl := pw_lt hp hi (t + 1)
    rw [f_X8_cycleFrom_6, if_neg (by rw [q_eq (by omega) (by omega)]; exact c4 (t + 1) (by omega) h1), if_pos (by rw [q_le (by omega) (by omega)]; exact h2), bnd_eq, nI_1, q_chk (by omega) (by decide), bnd_eq, q_ix (by omega), Row0 hr (by omega)]
    rfl
  by_cases hm : mn p i = true
  · rw [if_pos hm]
    have hm2 := (mn_iff hn hp hi).mp hm
    have := for0 (fun fu z => f_X8_cycleFrom_6 a (nI i) I L fu z.1 z.2) (fun t => (nI (t + 1), nI (pw p (t + 1) i))) (cl p i - 1) (some (nI (cl p i))) (by omega)
      (fun fu => by
        dsimp only
        rw [show cl p i - 1 + 1 = cl p i by omega, f_X8_cycleFrom_6, c3, if_pos rfl])
      (fun fu t ht => step fu t (by omega) (hm2 (t + 1)))
    exact this
  · rw [if_neg hm]
    have hm2 : ∃ k, pw p k i < i := Classical.byContradiction fun hno => hm ((mn_iff hn hp hi).mpr (fun k => Nat.le_of_not_lt fun h => hno ⟨k, h⟩))
    obtain ⟨k, hk, hk2⟩ := pk_least (fun k => pw p k i < i) hm2
    have hk0 : 1 ≤ k := by
      rcases Nat.eq_zero_or_pos k with g | g
      · subst g; exact absurd hk (Nat.lt_irrefl i)
      · exact g
    have hkc : k < cl p i := by
      refine Nat.lt_of_not_le fun hle => ?_
      have := Nat.mod_lt k (show cl p i > 0 by omega)
      exact hk2 (k % cl p i) (by omega) (by rw [← pw_mod hn hp hi]; exact hk)
    have := for0 (fun fu z => f_X8_cycleFrom_6 a (nI i) I L fu z.1 z.2) (fun t => (nI (t + 1), nI (pw p (t + 1) i))) (k - 1) (some (nI 0)) (by omega)
      (fun fu => by
        dsimp only
        have hl := pw_lt hp hi k
        rw [show k - 1 + 1 = k by omega, f_X8_cycleFrom_6, if_neg (by rw [q_eq (by omega) (by omega)]; omega), if_neg (by rw [q_le (by omega) (by omega)]; omega)]
        rfl)
      (fun fu t ht => step fu t (by omega) (Nat.le_of_not_lt (hk2 (t + 1) (by omega))))
    exact this
theorem cycles8_eq {I : MI} {L : ML} {a : Nat} (hn : n ≤ 10) (hp : IsP n p) (h43 : I 43 2 = nI n) (hr : Row I a 0 p) : f_X8_cycles a I L = some (nI (cT (mn p) n)) := by
  unfold f_X8_cycles
  exact for0 (fun fu z => f_X8_cycles_4 a I L fu z.1 z.2) (fun x => (nI (cT (mn p) x), nI x)) n _ (by omega)
    (fun fu => by
      dsimp only
      rw [f_X8_cycles_4, h43, if_pos (by rw [q_le (by omega) (by omega)]; omega)])
    (fun fu x hx => by
      dsimp only
      have hc := cl_spec hn hp hx
      rw [f_X8_cycles_4, h43, if_neg (by rw [q_le (by omega) (by omega)]; omega), ob (cycleFrom_eq hn hp hr hx)]
      cases hm : mn p x
      · rw [if_neg (show ¬ false = true by decide), if_pos (by decide), bnd_eq, bnd_eq, nI_1, cT_f hm, show (0 : Int32) = nI 0 from rfl, nI_add]
        rfl
      · rw [if_pos rfl, if_neg (nI_nle (by omega) (by omega)), bnd_eq, nI_1, bnd_eq, nI_1, cT_t hm])
theorem staying8_eq {I : MI} {L : ML} {a : Nat} (hn : n ≤ 10) (hp : IsP n p) (h43 : I 43 2 = nI n) (hr : Row I a 0 p) : f_X8_staying a I L = some (nI (cT (fun i => decide (p i = i)) n)) := by
  unfold f_X8_staying
  exact for0 (fun fu z => f_X8_staying_4 a I L fu z.1 z.2) (fun x => (nI (cT (fun i => decide (p i = i)) x), nI x)) n _ (by omega)
    (fun fu => by
      dsimp only
      rw [f_X8_staying_4, h43, if_pos (by rw [q_le (by omega) (by omega)]; omega)])
    (fun fu x hx => by
      dsimp only
      have := hp.1 x hx
      rw [f_X8_staying_4, h43, if_neg (by rw [q_le (by omega) (by omega)]; omega), q_chk (by omega) (by decide), q_ix (by omega), Row0 hr (by omega), ifc (q_eq (by omega) (by omega))]
      by_cases g : p x = x
      · rw [if_pos g, bnd_eq, nI_1, bnd_eq, nI_1, cT_t (P := fun i => decide (p i = i)) (decide_eq_true g)]
      · rw [if_neg g, bnd_eq, bnd_eq, nI_1, cT_f (P := fun i => decide (p i = i)) (decide_eq_false g), show (0 : Int32) = nI 0 from rfl, nI_add]
        rfl)
/-! The class's shape -/
def SH (p : Nat → Nat) : Nat → Nat := sm (fun i => if mn p i = true then 16 ^ (cl p i - 1) else 0)
/-- points in cycles that begin below i -/
def seB (p : Nat → Nat) (i : Nat) : Nat → Bool := fun x => (List.range i).any (fun j => (List.range 10).any (fun k => decide (pw p k j = x)))
theorem seB_iff (hn : n ≤ 10) (hp : IsP n p) {i x : Nat} (hi : i ≤ n) : seB p i x = true ↔ ∃ j k, j < i ∧ pw p k j = x := by
  unfold seB
  rw [List.any_eq_true]
  constructor
  · intro ⟨j, hj, h⟩
    obtain ⟨k, _, h2⟩ := List.any_eq_true.mp h
    exact ⟨j, k, List.mem_range.mp hj, of_decide_eq_true h2⟩
  · intro ⟨j, k, hj, h⟩
    have hjn : j < n := by omega
    have hc := cl_spec hn hp hjn
    refine ⟨j, List.mem_range.mpr hj, List.any_eq_true.mpr ⟨k % cl p j, List.mem_range.mpr (by have := Nat.mod_lt k (show cl p j > 0 by omega); omega), decide_eq_true ?_⟩⟩
    rw [← pw_mod hn hp hjn]; exact h
theorem seB_mn (hn : n ≤ 10) (hp : IsP n p) {i : Nat} (hi : i < n) : seB p i i = false ↔ mn p i = true := by
  constructor
  · intro h
    refine (mn_iff hn hp hi).mpr (fun k => Nat.le_of_not_lt fun hlt => ?_)
    obtain ⟨m, hm⟩ := pw_back hn hp hi k
    have := (seB_iff hn hp (Nat.le_of_lt hi)).mpr ⟨pw p k i, m, hlt, hm⟩
    rw [h] at this; cases this
  · intro h
    cases hb : seB p i i
    · rfl
    · obtain ⟨j, k, hj, e⟩ := (seB_iff hn hp (Nat.le_of_lt hi)).mp hb
      obtain ⟨m, hm⟩ := pw_back hn hp (show j < n by omega) k
      rw [e] at hm
      have := (mn_iff hn hp hi).mp h m
      omega
theorem shape37 {v3 : Int64} {i : Nat} (hn : n ≤ 10) (hp : IsP n p) (hi : i < n) (hm : mn p i = true) (k0 : Int32 → Int32 → Option Int64) : f_X6_shape_37 (tn n p) (nI n) v3 (nI i) k0 FU (nI (oS (seB p i) n)) 0 (nI i) 0 = k0 (nI (oS (seB p (i + 1)) n)) (nI (cl p i)) := by
  obtain ⟨c1, c2, c3, c4⟩ := cl_spec hn hp hi
  have hse : ∀ x, x < n → (seB p (i + 1) x = true ↔ (seB p i x = true ∨ ∃ k, k < cl p i ∧ pw p k i = x)) := fun x hx => by
    rw [seB_iff hn hp (show i + 1 ≤ n by omega), seB_iff hn hp (Nat.le_of_lt hi)]
    constructor
    · intro ⟨j, k, hj, h⟩
      by_cases e : j = i
      · subst e
        right
        exact ⟨k % cl p j, Nat.mod_lt k c1, by rw [← pw_mod hn hp hi]; exact h⟩
      · left; exact ⟨j, k, by omega, h⟩
    · intro h
      rcases h with ⟨j, k, hj, h⟩ | ⟨k, _, h⟩
      · exact ⟨j, k, by omega, h⟩
      · exact ⟨i, k, by omega, h⟩
  have h10 : 2 ^ n ≤ 2 ^ 10 := Nat.pow_le_pow_right (by decide) hn
  have key := loop0 (fun fu z => f_X6_shape_37 (tn n p) (nI n) v3 (nI i) k0 fu z.1 z.2.1 z.2.2.1 z.2.2.2)
    (fun t z => t ≤ cl p i ∧ (∃ s, z.1 = nI s ∧ s < 2 ^ n ∧ ∀ x, s.testBit x = true ↔ (x < n ∧ (seB p i x = true ∨ ∃ k, k < t ∧ pw p k i = x))) ∧ z.2.1 = nI t ∧ z.2.2.1 = nI (pw p t i) ∧ z.2.2.2 = nI t)
    (fun o => o = k0 (nI (oS (seB p (i + 1)) n)) (nI (cl p i))) (cl p i) (by omega) (nI (oS (seB p i) n), nI 0, nI i, nI 0) ⟨Nat.zero_le _, ⟨_, rfl, oS_lt _ n, fun x => by
      rw [oS_tb]
      constructor
      · intro h
        obtain ⟨a, b⟩ := Bool.and_eq_true_iff.mp h
        exact ⟨of_decide_eq_true a, Or.inl b⟩
      · intro ⟨a, b⟩
        rcases b with b | ⟨k, hk, _⟩
        · rw [decide_eq_true a, b]; rfl
        · omega⟩, rfl, rfl, rfl⟩
    (fun fu t z ht hP => by
      obtain ⟨z1, z2, z3, z4⟩ := z
      obtain ⟨_, ⟨s, p1, p2, p3⟩, p4, p5, p6⟩ := hP
      dsimp only at p1 p4 p5 p6 ⊢
      subst p1 p4 p5 p6
      have hl := pw_lt hp hi t
      have fin : t = cl p i → k0 (nI s) (nI t) = k0 (nI (oS (seB p (i + 1)) n)) (nI (cl p i)) := fun e => by
        subst e
        have : oS (seB p (i + 1)) n = s := oS_eq (fun x => by
          rw [Bool.eq_iff_iff, p3 x, Bool.and_eq_true_iff]
          constructor
          · intro ⟨a, b⟩; exact ⟨decide_eq_true a, (hse x a).mpr b⟩
          · intro ⟨a, b⟩; exact ⟨of_decide_eq_true a, (hse x (of_decide_eq_true a)).mp b⟩)
        rw [this]
      rw [f_X6_shape_37, ifc (q_le (by omega) (by omega))]
      by_cases g1 : n ≤ t
      · left; rw [if_pos g1]; exact fin (by omega)
      · rw [if_neg g1, ifc (q_bit0 (by omega) (by omega))]
        by_cases g2 : t = cl p i
        · left
          have hb : s.testBit (pw p t i) = true := (p3 _).mpr ⟨hl, Or.inr ⟨0, by omega, by rw [g2, c3]; rfl⟩⟩
          rw [if_neg (by rw [hb]; decide)]; exact fin g2
        · right
          have hb : s.testBit (pw p t i) = false := by
            cases hb : s.testBit (pw p t i)
            · rfl
            · obtain ⟨_, h⟩ := (p3 _).mp hb
              rcases h with h | ⟨k, hk, h⟩
              · obtain ⟨j, k, hj, e⟩ := (seB_iff hn hp (Nat.le_of_lt hi)).mp h
                obtain ⟨m, hmm⟩ := pw_back hn hp hi t
                have := (seB_mn hn hp hi).mpr hm
                rw [(seB_iff hn hp (Nat.le_of_lt hi)).mpr ⟨j, k + m, hj, by rw [pw_ad, e]; exact hmm⟩] at this
                cases this
              · have := cl_inj hn hp hi (by omega) (by omega) h; omega
          refine ⟨by omega, ?_⟩
          rw [if_pos hb, bnd_eq, q_shl1 (by omega), q_or, ob (tn_img hn hp hl), bnd_eq, nI_1, bnd_eq]
          refine ⟨(nI (s ||| 2 ^ pw p t i), nI (t + 1), nI (p (pw p t i)), nI (t + 1)), rfl, by omega, ⟨_, rfl, Nat.or_lt_two_pow p2 (Nat.pow_lt_pow_right (by decide) hl), fun x => ?_⟩, rfl, rfl, rfl⟩
          rw [Nat.testBit_or, Bool.or_eq_true, p3 x, Nat.testBit_two_pow, decide_eq_true_iff]
          constructor
          · intro h
            rcases h with ⟨a, b | ⟨k, hk, b⟩⟩ | h
            · exact ⟨a, Or.inl b⟩
            · exact ⟨a, Or.inr ⟨k, by omega, b⟩⟩
            · exact ⟨by omega, Or.inr ⟨t, by omega, h⟩⟩
          · intro ⟨a, h⟩
            rcases h with b | ⟨k, hk, b⟩
            · exact Or.inl ⟨a, Or.inl b⟩
            · by_cases e : k = t
              · right; rw [← e]; exact b
              · exact Or.inl ⟨a, Or.inr ⟨k, by omega, b⟩⟩)
  rw [nI_0] at key
  exact key
theorem shape_eq (hn : n ≤ 10) (hp : IsP n p) : f_X6_shape (tn n p) (nI n) = some (lN (SH p n)) := by
  unfold f_X6_shape
  have h10 : 2 ^ n ≤ 2 ^ 10 := Nat.pow_le_pow_right (by decide) hn
  have e0 : oS (seB p 0) n = 0 := oS_eq (fun j => by rw [Nat.zero_testBit, show seB p 0 j = false from rfl, Bool.and_false])
  have := for0 (fun fu z => f_X6_shape_8 (tn n p) (nI n) fu z.1 z.2.1 z.2.2) (fun i => (lN (SH p i), nI (oS (seB p i) n), nI i)) n (some (lN (SH p n))) (by omega)
    (fun fu => by
      dsimp only
      rw [f_X6_shape_8, if_pos (by rw [q_le (by omega) (by omega)]; omega)])
    (fun fu i hi => by
      dsimp only
      have hlt := oS_lt (seB p i) n
      rw [f_X6_shape_8, if_neg (by rw [q_le (by omega) (by omega)]; omega), ifc (q_bit0 (by omega) (by omega)), oS_tb, decide_eq_true hi, Bool.true_and]
      cases hb : seB p i i
      · have hm := (seB_mn hn hp hi).mp hb
        have hc := cl_spec hn hp hi
        rw [if_pos rfl, shape37 hn hp hi hm, bnd_eq, bnd_eq, nI_1]
        have e1 : (4 * nI (cl p i)) - 4 = nI (4 * (cl p i - 1)) := by
          rw [show (4 : Int32) = nI 4 from rfl, pk_mul, pk_sub (by omega), show 4 * cl p i - 4 = 4 * (cl p i - 1) by omega]
        have e2 : lshl 1 (nI (4 * (cl p i - 1))) = lN (16 ^ (cl p i - 1)) := by
          have h16 : 2 ^ (4 * (cl p i - 1)) = 16 ^ (cl p i - 1) := by rw [Nat.pow_mul]
          have h40 : 2 ^ (4 * (cl p i - 1)) < 2 ^ 64 := Nat.pow_lt_pow_right (by decide) (by omega)
          have := q_lshl (t := 1) (k := 4 * (cl p i - 1)) (by omega) (by omega)
          rw [Nat.one_mul, h16] at this
          exact this
        rw [e1, e2, lN_add]
        have e3 : SH p (i + 1) = SH p i + 16 ^ (cl p i - 1) := by
          show SH p i + (if mn p i = true then 16 ^ (cl p i - 1) else 0) = _
          rw [if_pos hm]
        rw [e3]
      · have hm : mn p i = false := by
          cases hm : mn p i
          · rfl
          · rw [(seB_mn hn hp hi).mpr hm] at hb; cases hb
        have e3 : SH p (i + 1) = SH p i := by
          show SH p i + (if mn p i = true then 16 ^ (cl p i - 1) else 0) = _
          rw [if_neg (by rw [hm]; decide)]; rfl
        have e4 : oS (seB p (i + 1)) n = oS (seB p i) n := oS_ext (fun x hx => by
          rw [Bool.eq_iff_iff, seB_iff hn hp (show i + 1 ≤ n by omega), seB_iff hn hp (Nat.le_of_lt hi)]
          constructor
          · intro ⟨j, k, hj, h⟩
            by_cases e : j = i
            · subst e
              obtain ⟨j2, k2, h2, h3⟩ := (seB_iff hn hp (Nat.le_of_lt hi)).mp hb
              exact ⟨j2, k2 + k, h2, by rw [pw_ad, h3]; exact h⟩
            · exact ⟨j, k, by omega, h⟩
          · intro ⟨j, k, hj, h⟩; exact ⟨j, k, by omega, h⟩)
        rw [if_neg (by decide), bnd_eq, nI_1, e3, e4])
  rw [e0, nI_0] at this
  exact this
end CY
