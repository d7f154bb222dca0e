/-! Numbers that tell arrangements -/
def NV (p : Nat → Nat) : Nat → Nat
  | 0 => 0
  | i + 1 => 10 * NV p i + p i
theorem toNumber_eq {n : Nat} {p : Nat → Nat} (hn : n ≤ 10) (hp : IsP n p) : f_X6_toNumber (tn n p) (nI n) = some (lN (NV p n)) := by
  unfold f_X6_toNumber
  exact for0 (fun fu s => f_X6_toNumber_5 (tn n p) (nI n) fu s.1 s.2) (fun x => (lN (NV p x), nI x)) n _ (by omega)
    (fun fu => by
      dsimp only
      rw [f_X6_toNumber_5, if_pos (by rw [q_le (by omega) (by omega)]; omega)])
    (fun fu x hx => by
      dsimp only
      have h1 := hp.1 x hx
      rw [f_X6_toNumber_5, if_neg (by rw [q_le (by omega) (by omega)]; omega), ob (tn_img hn hp hx), bnd_eq, bnd_eq, nI_l (by omega), show (10 : Int64) = lN 10 from rfl, lN_mul, lN_add, nI_1, Nat.mul_comm]
      rfl)
theorem told_eq {n a : Nat} {p : Nat → Nat} {I : MI} {L : ML} (hn : n ≤ 10) (hp : IsP n p) (h43 : I 43 2 = nI n) (hr : Row I a 0 p) : f_X8_told a I L = some (lN (NV p n)) := by
  unfold f_X8_told
  exact for0 (fun fu s => f_X8_told_5 a I L fu s.1 s.2) (fun x => (lN (NV p x), nI x)) n _ (by omega)
    (fun fu => by
      dsimp only
      rw [f_X8_told_5, h43, if_pos (by rw [q_le (by omega) (by omega)]; omega)])
    (fun fu x hx => by
      dsimp only
      have h1 := hp.1 x hx
      rw [f_X8_told_5, h43, if_neg (by rw [q_le (by omega) (by omega)]; omega), q_chk (by omega) (by decide), q_ix (by omega), Row0 hr (by omega), bnd_eq, bnd_eq, nI_l (by omega), show (10 : Int64) = lN 10 from rfl, lN_mul, lN_add, nI_1]
      rfl)
/-- the s-th digit from behind -/
def qd (k s : Nat) : Nat := k / 10 ^ s % 10
def okd (k n s : Nat) : Prop := ∀ t, t < s → qd k t < n ∧ ∀ u, u < t → qd k u ≠ qd k t
def sS (k : Nat) : Nat → Nat
  | 0 => 0
  | s + 1 => sS k s ||| 2 ^ qd k s
theorem qd_lt (k s : Nat) : qd k s < 10 := Nat.mod_lt _ (by decide)
theorem sS_tb (k j : Nat) : ∀ s, (sS k s).testBit j = true ↔ ∃ t, t < s ∧ qd k t = j := by
  intro s
  induction s with
  | zero => show (0 : Nat).testBit j = true ↔ _; rw [Nat.zero_testBit]; exact ⟨(fun h => by cases h), fun ⟨t, h, _⟩ => by omega⟩
  | succ s ih =>
    show (sS k s ||| 2 ^ qd k s).testBit j = true ↔ _
    rw [Nat.testBit_or, Bool.or_eq_true, ih, Nat.testBit_two_pow, decide_eq_true_iff]
    constructor
    · intro h
      rcases h with ⟨t, h1, h2⟩ | h
      · exact ⟨t, by omega, h2⟩
      · exact ⟨s, by omega, h⟩
    · intro ⟨t, h1, h2⟩
      by_cases e : t = s
      · right; rw [← e]; exact h2
      · left; exact ⟨t, by omega, h2⟩
theorem sS_lt (k : Nat) : ∀ s, sS k s < 2 ^ 10 := by
  intro s
  induction s with
  | zero => show 0 < 2 ^ 10; decide
  | succ s ih => exact Nat.or_lt_two_pow ih (Nat.pow_lt_pow_right (by decide) (qd_lt k s))
theorem l10 : (10 : Int64) = lN 10 := rfl
theorem q_ldv {k : Nat} (h : k < 2 ^ 63) : lN k / 10 = lN (k / 10) := by
  rw [l10]; exact pk_lDiv h (by decide) (by decide)
theorem q_lrm {k : Nat} (h : k < 2 ^ 63) : (lrem (lN k) 10).toInt32 = nI (k % 10) := by
  rw [l10, show lrem (lN k) (lN 10) = lN (k % 10) from pk_lRem h (by decide) (by decide), lN_i]
theorem q_cmpn (k : Nat) (h : k < 2 ^ 63) : ¬ lg_cmp (lN k) 0 < 0 := by
  unfold lg_cmp
  by_cases h1 : lN k > 0
  · rw [if_pos h1]; decide
  · rw [if_neg h1]
    by_cases h2 : lN k = 0
    · rw [if_pos h2]; decide
    · exfalso
      rcases Nat.eq_zero_or_pos k with h3 | h3
      · exact h2 (by rw [h3]; rfl)
      · exact h1 ((pk_lLT (a := 0) (b := k) (by decide) h).mpr h3)
theorem q_cmpn' (k : Nat) (h : k < 2 ^ 63) : 0 ≤ lg_cmp (lN k) 0 := Int32.not_lt.mp (q_cmpn k h)
theorem q_cmpm {x : Int64} (h : x < 0) : lg_cmp x 0 < 0 := by
  unfold lg_cmp
  rw [if_neg (fun g => Int64.lt_irrefl (Int64.lt_trans h g)), if_neg (fun g => by rw [g] at h; exact Int64.lt_irrefl h)]
  decide
def ftz (k n s : Nat) : Nat → Nat := fun i => if n ≤ i + s ∧ i < n then qd k (n - 1 - i) else 0
theorem from_l {k n : Nat} (hn : n ≤ 10) (hk : k < 2 ^ 63) (k0 : Int64 → Int64 → Option Int64) : ∀ d fu s, s + d = n → d < fu → okd k n s → (okd k n n → f_X6_fromNumber_27 (nI n) k0 fu (tz (ftz k n s)) (lN (k / 10 ^ s)) (nI (sS k s)) (nI (n - s) + (-1)) = k0 (tz (ftz k n n)) (lN (k / 10 ^ n))) ∧ (¬ okd k n n → f_X6_fromNumber_27 (nI n) k0 fu (tz (ftz k n s)) (lN (k / 10 ^ s)) (nI (sS k s)) (nI (n - s) + (-1)) = some (-1)) := by
  intro d
  induction d with
  | zero =>
    intro fu s h1 h2 hok
    obtain ⟨fu, rfl⟩ : ∃ m, fu = m + 1 := ⟨fu - 1, by omega⟩
    have e : s = n := by omega
    subst e
    refine ⟨fun _ => ?_, fun g => absurd hok g⟩
    rw [f_X6_fromNumber_27, Nat.sub_self, nI_m1, if_pos (by decide)]
  | succ d ih =>
    intro fu s h1 h2 hok
    obtain ⟨fu, rfl⟩ : ∃ m, fu = m + 1 := ⟨fu - 1, by omega⟩
    have hks : k / 10 ^ s < 2 ^ 63 := Nat.lt_of_le_of_lt (Nat.div_le_self _ _) hk
    have hq := qd_lt k s
    have hsS := sS_lt k s
    have e0 : f_X6_fromNumber_27 (nI n) k0 (fu + 1) (tz (ftz k n s)) (lN (k / 10 ^ s)) (nI (sS k s)) (nI (n - s) + (-1)) = if n ≤ qd k s then some (-1) else if (sS k s).testBit (qd k s) = false then f_X6_fromNumber_27 (nI n) k0 fu (tz (ftz k n (s + 1))) (lN (k / 10 ^ (s + 1))) (nI (sS k (s + 1))) (nI (n - (s + 1)) + (-1)) else some (-1) := by
      rw [f_X6_fromNumber_27, show n - s = (n - (s + 1)) + 1 by omega, pk_m1, if_neg (nI_pos (by omega)), chk_pos (by decide), bnd_eq, q_lrm hks, chk_pos (by decide), bnd_eq, q_ldv hks, show k / 10 ^ s % 10 = qd k s from rfl, ifc (q_le (by omega) (by omega))]
      by_cases h3 : n ≤ qd k s
      · rw [if_pos h3, if_pos h3]
      · rw [if_neg h3, if_neg h3, ifc (q_bit0 (by omega) (by omega))]
        cases h4 : (sS k s).testBit (qd k s)
        · rw [if_pos rfl, if_pos rfl, bnd_eq, q_shl1 (by omega), q_or, bnd_eq, nI_l (by omega), q_36 _ (by omega), bnd_eq, Nat.div_div_eq_div_mul, ← Nat.pow_succ]
          have hlt : ∀ i, ftz k n s i < 16 := fun i => by
            unfold ftz; split
            · have := qd_lt k (n - 1 - i); omega
            · decide
          rw [tz_or hlt (by omega) (if_neg (by omega)) (by omega)]
          have e5 : tz (us (ftz k n s) (n - (s + 1)) (qd k s)) = tz (ftz k n (s + 1)) := by
            refine congrArg lN (E_ext 10 (fun i hi => ?_))
            unfold us ftz
            by_cases e6 : i = n - (s + 1)
            · rw [if_pos e6, if_pos (by omega), show n - 1 - i = s by omega]
            · rw [if_neg e6]
              by_cases e7 : n ≤ i + s ∧ i < n
              · rw [if_pos e7, if_pos (by omega)]
              · rw [if_neg e7, if_neg (by omega)]
          rw [e5]
          rfl
        · rw [if_neg (by decide), if_neg (by decide)]
    have hoks : okd k n (s + 1) ↔ (¬ n ≤ qd k s ∧ (sS k s).testBit (qd k s) = false) := by
      constructor
      · intro h
        obtain ⟨a, b⟩ := h s (by omega)
        refine ⟨by omega, ?_⟩
        cases h4 : (sS k s).testBit (qd k s)
        · rfl
        · obtain ⟨t, t1, t2⟩ := (sS_tb k _ s).mp h4
          exact absurd t2 (b t t1)
      · intro ⟨h3, h4⟩ t ht
        by_cases e : t = s
        · subst e
          refine ⟨by omega, fun u hu hne => ?_⟩
          have : (sS k t).testBit (qd k t) = true := (sS_tb k _ t).mpr ⟨u, hu, hne⟩
          rw [this] at h4; cases h4
        · exact hok t (by omega)
    rw [e0]
    by_cases ho : okd k n (s + 1)
    · obtain ⟨h3, h4⟩ := hoks.mp ho
      rw [if_neg h3, if_pos h4]
      exact ih fu (s + 1) (by omega) (by omega) ho
    · refine ⟨fun g => absurd (fun t ht => g t (by omega)) ho, fun _ => ?_⟩
      by_cases h3 : n ≤ qd k s
      · rw [if_pos h3]
      · rw [if_neg h3, if_neg (fun h4 => ho (hoks.mpr ⟨h3, h4⟩))]
def rdp (k n : Nat) : Nat → Nat := fun i => if i < n then qd k (n - 1 - i) else i
theorem okd_P {k n : Nat} (h : okd k n n) : IsP n (rdp k n) := by
  refine ⟨fun i hi => ?_, fun i hi => if_neg (by omega), fun i j e => ?_⟩
  · unfold rdp; rw [if_pos hi]; exact (h _ (by omega)).1
  · unfold rdp at e
    by_cases hi : i < n
    · rw [if_pos hi] at e
      by_cases hj : j < n
      · rw [if_pos hj] at e
        rcases Nat.lt_trichotomy i j with g | g | g
        · exact absurd e.symm ((h (n - 1 - i) (by omega)).2 (n - 1 - j) (by omega))
        · exact g
        · exact absurd e ((h (n - 1 - j) (by omega)).2 (n - 1 - i) (by omega))
      · rw [if_neg hj] at e
        have := (h (n - 1 - i) (by omega)).1
        omega
    · rw [if_neg hi] at e
      by_cases hj : j < n
      · rw [if_pos hj] at e
        have := (h (n - 1 - j) (by omega)).1
        omega
      · rw [if_neg hj] at e; exact e
theorem ftz_tn {k n : Nat} : tz (ftz k n n) = tn n (rdp k n) := by
  refine congrArg lN (E_ext 10 (fun i hi => ?_))
  unfold ftz cn rdp
  by_cases h : i < n
  · rw [if_pos ⟨by omega, h⟩, if_pos h, if_pos h]
  · rw [if_neg (fun g => h g.2), if_neg h]
/-- the class reads a number -/
theorem from_eq {k n : Nat} (hn : n ≤ 10) (hk : k < 2 ^ 63) (h0 : 0 < n) : (okd k n n ∧ k / 10 ^ n = 0 → f_X6_fromNumber (lN k) (nI n) = some (tn n (rdp k n))) ∧ (¬ (okd k n n ∧ k / 10 ^ n = 0) → f_X6_fromNumber (lN k) (nI n) = some (-1)) := by
  have hl := from_l hn hk (fun (v3_12 : Int64) (v5_13 : Int64) => if (lg_cmp v5_13 0) = 0 then some v3_12 else some (-1)) n FU 0 (by omega) (by unfold FU; omega) (fun t ht => by omega)
  have z0 : tz (ftz k n 0) = 0 := by
    have : tz (ftz k n 0) = tz (fun _ => 0) := congrArg lN (E_ext 10 (fun i hi => if_neg (by omega)))
    rw [this]; rfl
  rw [z0, Nat.pow_zero, Nat.div_one, show nI (sS k 0) = 0 from rfl, show n - 0 = (n - 1) + 1 by omega, pk_m1] at hl
  have hu : f_X6_fromNumber (lN k) (nI n) = f_X6_fromNumber_27 (nI n) (fun (v3_12 : Int64) (v5_13 : Int64) => if (lg_cmp v5_13 0) = 0 then some v3_12 else some (-1)) FU 0 (lN k) 0 (nI (n - 1)) := by
    unfold f_X6_fromNumber
    rw [if_neg (q_cmpn k hk), if_neg (nI_ne0 h0 (by omega)), bnd_eq, show (1 : Int32) = nI 1 from rfl, pk_sub h0]
  have hkn : k / 10 ^ n < 2 ^ 63 := Nat.lt_of_le_of_lt (Nat.div_le_self _ _) hk
  rw [hu]
  by_cases ho : okd k n n
  · rw [hl.1 ho, ifc (q_cmp0 _ _), ftz_tn]
    constructor
    · intro h; rw [h.2, if_pos (show lN 0 = 0 from rfl)]
    · intro h
      have hne : ¬ lN (k / 10 ^ n) = 0 := fun g => h ⟨ho, (pk_lEQ (b := 0) hkn (by decide)).mp g⟩
      rw [if_neg hne]
  · rw [hl.2 ho]
    exact ⟨fun h => absurd h.1 ho, fun _ => rfl⟩
theorem sS_full {k n : Nat} : sS k n = 2 ^ n - 1 ↔ okd k n n := by
  constructor
  · intro h
    have ht : ∀ j, (sS k n).testBit j = decide (j < n) := fun j => by rw [h, Nat.testBit_two_pow_sub_one]
    have hlt : ∀ t, t < n → qd k t < n := fun t ht2 => by
      have := ht (qd k t)
      rw [(sS_tb k _ n).mpr ⟨t, ht2, rfl⟩] at this
      exact of_decide_eq_true this.symm
    have hinj := pigeon2 n (qd k) (fun j hj => by
      have := ht j
      rw [decide_eq_true hj] at this
      exact (sS_tb k j n).mp this) hlt
    exact fun t ht2 => ⟨hlt t ht2, fun u hu e => by have := hinj u t (by omega) ht2 e; omega⟩
  · intro h
    have hinj : ∀ i j, i < n → j < n → qd k i = qd k j → i = j := fun i j hi hj e => by
      rcases Nat.lt_trichotomy i j with g | g | g
      · exact absurd e ((h j hj).2 i g)
      · exact g
      · exact absurd e.symm ((h i hi).2 j g)
    have honto := pigeon n (qd k) (fun i hi => (h i hi).1) hinj
    refine Nat.eq_of_testBit_eq (fun j => ?_)
    rw [Nat.testBit_two_pow_sub_one]
    by_cases hj : j < n
    · rw [decide_eq_true hj]; exact (sS_tb k j n).mpr (honto j hj)
    · rw [decide_eq_false hj]
      cases hb : (sS k n).testBit j
      · rfl
      · obtain ⟨t, t1, t2⟩ := (sS_tb k j n).mp hb
        have := (h t t1).1
        omega
theorem wp_ext {I : MI} {a w : Nat} {f g : Nat → Nat} (h : ∀ j, j < 10 → f j = g j) : wp I a w f = wp I a w g := by
  funext c j
  unfold wp wr
  by_cases h1 : c = a ∧ w ≤ j ∧ j < w + 10
  · rw [if_pos h1, if_pos h1]
    show nI (f (j - w)) = nI (g (j - w))
    rw [h (j - w) (by omega)]
  · rw [if_neg h1, if_neg h1]
theorem wp_up {I : MI} {a w j v : Nat} {f : Nat → Nat} (hj : j < 10) : up2 (wp I a w f) a (w + j) (nI v) = wp I a w (us f j v) := by
  funext c i
  unfold up2 wp wr us
  by_cases hc : c = a
  · rw [if_pos hc]
    by_cases hi : i = w + j
    · rw [if_pos hi, if_pos ⟨hc, by omega, by omega⟩]
      show nI v = nI (if i - w = j then v else f (i - w))
      rw [if_pos (by omega)]
    · rw [if_neg hi]
      by_cases h1 : c = a ∧ w ≤ i ∧ i < w + 10
      · rw [if_pos h1, if_pos h1]
        show nI (f (i - w)) = nI (if i - w = j then v else f (i - w))
        rw [if_neg (by omega)]
      · rw [if_neg h1, if_neg h1]
  · rw [if_neg hc, if_neg (fun g => hc g.1), if_neg (fun g => hc g.1)]
theorem wp_up0 {I : MI} {a j v : Nat} {f : Nat → Nat} (hj : j < 10) : up2 (wp I a 0 f) a j (nI v) = wp I a 0 (us f j v) := by
  have := wp_up (I := I) (a := a) (w := 0) (v := v) (f := f) hj
  rwa [Nat.zero_add] at this
def lyp (k n s : Nat) : Nat → Nat := fun i => if n ≤ i + s ∧ i < n then qd k (n - 1 - i) else i
def lyI (I : MI) (a k n s : Nat) : MI := wp I a 0 (lyp k n s)
theorem lies_l {a k n : Nat} {I : MI} {L : ML} (hn : n ≤ 10) (hk : k < 2 ^ 63) {v1 : Int64} (k0 : Int32 → Int64 → MI → Option (Bool × Mm)) : ∀ d fu s, s + d = n → d < fu → f_X8_lies_18 a v1 L k0 fu (nI (sS k s)) (lN (k / 10 ^ s)) (nI (n - s) + (-1)) (lyI I a k n s) = k0 (nI (sS k n)) (lN (k / 10 ^ n)) (lyI I a k n n) := by
  intro d
  induction d with
  | zero =>
    intro fu s h1 h2
    obtain ⟨fu, rfl⟩ : ∃ m, fu = m + 1 := ⟨fu - 1, by omega⟩
    have e : s = n := by omega
    subst e
    rw [f_X8_lies_18, Nat.sub_self, nI_m1, if_pos (by decide)]
  | succ d ih =>
    intro fu s h1 h2
    obtain ⟨fu, rfl⟩ : ∃ m, fu = m + 1 := ⟨fu - 1, by omega⟩
    have hks : k / 10 ^ s < 2 ^ 63 := Nat.lt_of_le_of_lt (Nat.div_le_self _ _) hk
    have hq := qd_lt k s
    have e5 : up2 (lyI I a k n s) a (n - (s + 1)) (nI (qd k s)) = lyI I a k n (s + 1) := by
      refine (wp_up0 (by omega)).trans (wp_ext (fun j hj => ?_))
      unfold us lyp
      by_cases hj : j = n - (s + 1)
      · rw [if_pos hj, if_pos (by omega), show n - 1 - j = s by omega]
      · rw [if_neg hj]
        by_cases e7 : n ≤ j + s ∧ j < n
        · rw [if_pos e7, if_pos (by omega)]
        · rw [if_neg e7, if_neg (by omega)]
    have e6 : lyI I a k n (s + 1) a (n - (s + 1)) = nI (qd k s) := by rw [← e5]; simp [up2]
    rw [f_X8_lies_18, show n - s = (n - (s + 1)) + 1 by omega, pk_m1, if_neg (nI_pos (by omega)), chk_pos (by decide), q_chk (by omega) (by decide), bnd_eq, q_lrm hks, q_ix (by omega), show k / 10 ^ s % 10 = qd k s from rfl, e5, if_pos (q_cmpn' _ hks), q_chk (by omega) (by decide), bnd_eq, e6, q_shl1 (by omega), q_or, chk_pos (by decide), bnd_eq, q_ldv hks, bnd_eq, Nat.div_div_eq_div_mul, ← Nat.pow_succ]
    exact ih fu (s + 1) (by omega) (by omega)
theorem lies_neg {a n : Nat} {L : ML} (hn : n ≤ 10) (ha : a ≠ 43) {v1 : Int64} (k0 : Int32 → Int64 → MI → Option (Bool × Mm)) : ∀ d fu s v4 v5 I, s + d = n → d < fu → ∃ v4' v5' I', f_X8_lies_18 a v1 L k0 fu v4 v5 (nI (n - s) + (-1)) I = k0 v4' v5' I' ∧ Fr [a] I I' := by
  intro d
  induction d with
  | zero =>
    intro fu s v4 v5 I h1 h2
    obtain ⟨fu, rfl⟩ : ∃ m, fu = m + 1 := ⟨fu - 1, by omega⟩
    have e : s = n := by omega
    subst e
    rw [f_X8_lies_18, Nat.sub_self, nI_m1, if_pos (by decide)]
    exact ⟨_, _, _, rfl, Fr.refl⟩
  | succ d ih =>
    intro fu s v4 v5 I h1 h2
    obtain ⟨fu, rfl⟩ : ∃ m, fu = m + 1 := ⟨fu - 1, by omega⟩
    rw [f_X8_lies_18, show n - s = (n - (s + 1)) + 1 by omega, pk_m1, if_neg (nI_pos (by omega)), chk_pos (by decide), q_chk (by omega) (by decide), bnd_eq, q_ix (by omega), q_chk (by omega) (by decide)]
    have hfr : ∀ v, Fr [a] I (up2 I a (n - (s + 1)) v) := fun v q hq => up2_ne (fun e => hq (by rw [e]; simp))
    split
    · rw [bnd_eq, chk_pos (by decide), bnd_eq, bnd_eq]
      obtain ⟨a1, a2, a3, a4, a5⟩ := ih fu (s + 1) _ _ _ (by omega) (by omega)
      exact ⟨a1, a2, a3, a4, (hfr _).trans a5⟩
    · rw [bnd_eq, chk_pos (by decide), bnd_eq, bnd_eq]
      obtain ⟨a1, a2, a3, a4, a5⟩ := ih fu (s + 1) _ _ _ (by omega) (by omega)
      exact ⟨a1, a2, a3, a4, (hfr _).trans a5⟩
theorem lyI_0 {I : MI} {a k n : Nat} : lyI I a k n 0 = wp I a 0 idp := wp_ext (fun j hj => if_neg (by omega))
theorem lyI_n {I : MI} {a k n : Nat} : lyI I a k n n = wp I a 0 (rdp k n) := wp_ext (fun j hj => by
  unfold lyp rdp
  by_cases h2 : j < n
  · rw [if_pos ⟨by omega, h2⟩, if_pos h2]
  · rw [if_neg (fun g => h2 g.2), if_neg h2])
/-- both read a number alike -/
theorem rd {n : Nat} (hn : n ≤ 10) (x : Int64) : (∃ p, IsP n p ∧ 0 < n ∧ f_X6_fromNumber x (nI n) = some (tn n p) ∧ ∀ a I L, a ≠ 43 → I 43 2 = nI n → f_X8_lies x a I L = some (true, wp I a 0 p, L)) ∨ (f_X6_fromNumber x (nI n) = some (-1) ∧ ∀ a I L, a ≠ 43 → I 43 2 = nI n → ∃ I', f_X8_lies x a I L = some (false, I', L) ∧ Fr [a] I I') := by
  by_cases hneg : x < 0
  · right
    refine ⟨?_, fun a I L ha h43 => ?_⟩
    · unfold f_X6_fromNumber; rw [if_pos (q_cmpm hneg)]
    · unfold f_X8_lies
      rw [ob isHome_eq, bnd_eq]
      dsimp only
      rw [wp_ne (fun e => ha e.symm), h43, show (nI n - 1) = nI (n - 0) + (-1) by rw [Nat.sub_zero]; exact (Int32.sub_eq_add_neg (a := nI n) (b := 1)).trans rfl]
      obtain ⟨v4, v5, I', e1, e2⟩ := lies_neg (a := a) (L := L) (v1 := x) hn ha (fun (v4_15 : Int32) (v5_16 : Int64) (I_17 : MI) => if (I_17 43 2) ≤ 0 then some (false, I_17, L) else if (lg_cmp x 0) < 0 then some (false, I_17, L) else if (lg_cmp v5_16 0) = 0 then if v4_15 = ((shl 1 (I_17 43 2)) - 1) then some (true, I_17, L) else some (false, I_17, L) else some (false, I_17, L)) n FU 0 0 x (wp I a 0 idp) (by omega) (by unfold FU; omega)
      rw [e1]
      have hf : Fr [a] I I' := (Fr_wp (by simp)).trans e2
      refine ⟨I', ?_, hf⟩
      by_cases h1 : I' 43 2 ≤ 0
      · rw [if_pos h1]
      · rw [if_neg h1, if_pos (q_cmpm hneg)]
  · obtain ⟨k, hk, e⟩ := pk_lOf hneg
    subst e
    by_cases h0 : n = 0
    · right
      subst h0
      refine ⟨?_, fun a I L ha h43 => ?_⟩
      · unfold f_X6_fromNumber; rw [if_neg (q_cmpn k hk), if_pos nI_0]
      · have hl := lies_l (a := a) (I := I) (L := L) (v1 := lN k) (Nat.zero_le 10) hk (fun (v4_15 : Int32) (v5_16 : Int64) (I_17 : MI) => if (I_17 43 2) ≤ 0 then some (false, I_17, L) else if (lg_cmp (lN k) 0) < 0 then some (false, I_17, L) else if (lg_cmp v5_16 0) = 0 then if v4_15 = ((shl 1 (I_17 43 2)) - 1) then some (true, I_17, L) else some (false, I_17, L) else some (false, I_17, L)) 0 FU 0 (by omega) (by unfold FU; omega)
        rw [lyI_0, Nat.pow_zero, Nat.div_one, show nI (sS k 0) = 0 from rfl] at hl
        unfold f_X8_lies
        rw [ob isHome_eq, bnd_eq]
        dsimp only
        rw [wp_ne (fun e => ha e.symm), h43, show (nI 0 - 1) = nI (0 - 0) + (-1) by decide, hl, if_pos (by rw [wp_ne (fun e => ha e.symm), h43]; decide)]
        exact ⟨_, rfl, Fr_wp (by simp)⟩
    · have h0 : 0 < n := by omega
      have hr : ∀ a I L, a ≠ 43 → I 43 2 = nI n → (okd k n n ∧ k / 10 ^ n = 0 → f_X8_lies (lN k) a I L = some (true, wp I a 0 (rdp k n), L)) ∧ (¬ (okd k n n ∧ k / 10 ^ n = 0) → f_X8_lies (lN k) a I L = some (false, wp I a 0 (rdp k n), L)) := fun a I L ha h43 => by
        have hl := lies_l (a := a) (I := I) (L := L) (v1 := lN k) hn hk (fun (v4_15 : Int32) (v5_16 : Int64) (I_17 : MI) => if (I_17 43 2) ≤ 0 then some (false, I_17, L) else if (lg_cmp (lN k) 0) < 0 then some (false, I_17, L) else if (lg_cmp v5_16 0) = 0 then if v4_15 = ((shl 1 (I_17 43 2)) - 1) then some (true, I_17, L) else some (false, I_17, L) else some (false, I_17, L)) n FU 0 (by omega) (by unfold FU; omega)
        rw [lyI_0, Nat.pow_zero, Nat.div_one, show nI (sS k 0) = 0 from rfl, lyI_n] at hl
        have hkn : k / 10 ^ n < 2 ^ 63 := Nat.lt_of_le_of_lt (Nat.div_le_self _ _) hk
        have h2n : 2 ^ n ≤ 2 ^ 10 := Nat.pow_le_pow_right (by decide) hn
        have h2p := Nat.two_pow_pos n
        have hss := sS_lt k n
        unfold f_X8_lies
        rw [ob isHome_eq, bnd_eq]
        dsimp only
        rw [wp_ne (fun e => ha e.symm), h43, show (nI n - 1) = nI (n - 0) + (-1) by rw [Nat.sub_zero]; exact (Int32.sub_eq_add_neg (a := nI n) (b := 1)).trans rfl, hl, wp_ne (fun e => ha e.symm), h43, if_neg (nI_nle h0 (by omega)), if_neg (q_cmpn k hk), ifc (q_cmp0 _ _), q_shl1 (by omega), show (1 : Int32) = nI 1 from rfl, pk_sub (by omega)]
        by_cases hz : k / 10 ^ n = 0
        · rw [if_pos (by rw [hz]; rfl)]
          by_cases ho : okd k n n
          · rw [if_pos ((q_eq (by omega) (by omega)).mpr (sS_full.mpr ho))]
            exact ⟨fun _ => rfl, fun g => absurd ⟨ho, hz⟩ g⟩
          · rw [if_neg (fun g => ho (sS_full.mp ((q_eq (by omega) (by omega)).mp g)))]
            exact ⟨fun g => absurd g.1 ho, fun _ => rfl⟩
        · have hne : ¬ lN (k / 10 ^ n) = 0 := fun g => hz ((pk_lEQ (b := 0) hkn (by decide)).mp g)
          rw [if_neg hne]
          exact ⟨fun g => absurd g.2 hz, fun _ => rfl⟩
      obtain ⟨f1, f2⟩ := from_eq hn hk h0
      by_cases hg : okd k n n ∧ k / 10 ^ n = 0
      · exact Or.inl ⟨rdp k n, okd_P hg.1, h0, f1 hg, fun a I L ha h43 => (hr a I L ha h43).1 hg⟩
      · exact Or.inr ⟨f2 hg, fun a I L ha h43 => ⟨_, (hr a I L ha h43).2 hg, Fr_wp (by simp)⟩⟩
