/-! Powers -/
theorem isIn_eq (a b c : Int32) : f_X8_isIn a.toInt64 b.toInt64 c.toInt64 = some (decide (b.toInt ≤ a.toInt ∧ a.toInt ≤ c.toInt)) := by
  have key : ∀ x y : Int32, (lg_cmp x.toInt64 y.toInt64 < 0) = (x.toInt < y.toInt) ∧ (0 < lg_cmp x.toInt64 y.toInt64) = (y.toInt < x.toInt) := fun x y => by
    unfold lg_cmp
    have e1 : (x.toInt64 > y.toInt64) = (y.toInt < x.toInt) := propext (by rw [show (x.toInt64 > y.toInt64) = (y.toInt64 < x.toInt64) from rfl, Int64.lt_iff_toInt_lt, Int32.toInt_toInt64, Int32.toInt_toInt64])
    have e2 : (x.toInt64 = y.toInt64) = (x.toInt = y.toInt) := propext (by rw [← Int64.toInt_inj, Int32.toInt_toInt64, Int32.toInt_toInt64])
    rw [ifc e1, ifc e2]
    by_cases h1 : y.toInt < x.toInt
    · rw [if_pos h1]
      exact ⟨(eq_false (by decide)).trans (eq_false (by omega)).symm, (eq_true (by decide)).trans (eq_true h1).symm⟩
    · rw [if_neg h1]
      by_cases h2 : x.toInt = y.toInt
      · rw [if_pos h2]
        exact ⟨(eq_false (by decide)).trans (eq_false (by omega)).symm, (eq_false (by decide)).trans (eq_false (by omega)).symm⟩
      · rw [if_neg h2]
        exact ⟨(eq_true (by decide)).trans (eq_true (by omega)).symm, (eq_false (by decide)).trans (eq_false (by omega)).symm⟩
  unfold f_X8_isIn
  rw [ifc (key a b).1, ifc (key a c).2]
  by_cases h1 : a.toInt < b.toInt
  · rw [if_pos h1, decide_eq_false (by omega)]
  · rw [if_neg h1]
    by_cases h2 : c.toInt < a.toInt
    · rw [if_pos h2, decide_eq_false (by omega)]
    · rw [if_neg h2, decide_eq_true (by omega)]
set_option maxRecDepth 100000 in
theorem fmod_p : ∀ j : Nat, j < 1001 → ∀ c : Nat, c < 11 → 1 ≤ c → f_J9_floorMod_7cf53 (nI j) (nI c) = some (nI (j % c)) := by decide +kernel
set_option maxRecDepth 100000 in
theorem fmod_n : ∀ j : Nat, j < 1001 → ∀ c : Nat, c < 11 → 1 ≤ c → f_J9_floorMod_7cf53 (-(nI j)) (nI c) = some (nI ((c - j % c) % c)) := by decide +kernel
section PW
variable {n : Nat} {p : Nat → Nat}
theorem imageOfPower_l {k : Int32} {i r : Nat} (hn : n ≤ 10) (hp : IsP n p) (hi : i < n) (hr : f_J9_floorMod_7cf53 k (nI (cl p i)) = some (nI r)) (hr2 : r < 1000) : f_X6_imageOfPower (tn n p) (nI i) k = some (nI (pw p r i)) := by
  obtain ⟨c1, c2, c3, c4⟩ := cl_spec hn hp hi
  have h2 : f_X6_imageOfPower_66 (tn n p) (nI r) FU (nI i) 0 = some (nI (pw p r i)) := by
    have := for0 (fun fu z => f_X6_imageOfPower_66 (tn n p) (nI r) fu z.1 z.2) (fun t => (nI (pw p t i), nI t)) r (some (nI (pw p r i))) (by omega)
      (fun fu => by
        dsimp only
        rw [f_X6_imageOfPower_66, if_pos (by rw [q_le (by omega) (by omega)]; omega)])
      (fun fu t ht => by
        dsimp only
        rw [f_X6_imageOfPower_66, if_neg (by rw [q_le (by omega) (by omega)]; omega), ob (tn_img hn hp (pw_lt hp hi t)), bnd_eq, nI_1]
        rfl)
    exact this
  unfold f_X6_imageOfPower
  rw [ob (tn_img hn hp hi)]
  have := for0 (fun fu z => f_X6_imageOfPower_13 (tn n p) (nI i) k (fun (v4_11 : Int32) => bnd ((fun (s0_13 : Int32) => f_X6_imageOfPower_66 (tn n p) s0_13 FU (nI i) 0) : Int32 → Option Int32) (fun j58_12 => if v4_11 ≤ 0 then (j58_12 0) else Option.bind (f_J9_floorMod_7cf53 k v4_11) (fun q_12 => (j58_12 q_12)))) fu z.1 z.2.1 z.2.2) (fun t => (nI (t + 1), nI (pw p (t + 1) i), nI t)) (cl p i - 1) (some (nI (pw p r i))) (by omega)
    (fun fu => by
      dsimp only
      rw [f_X6_imageOfPower_13, show cl p i - 1 + 1 = cl p i by omega, if_neg (ge10 (by omega)), c3, if_pos rfl, bnd_eq, if_neg (by rw [show (0 : Int32) = nI 0 from rfl, q_le (by omega) (by omega)]; omega), ob hr]
      exact h2)
    (fun fu t ht => by
      dsimp only
      have hl := pw_lt hp hi (t + 1)
      rw [f_X6_imageOfPower_13, if_neg (ge10 (by omega)), if_neg (by rw [q_eq (by omega) (by omega)]; exact c4 (t + 1) (by omega) (by omega)), ob (tn_img hn hp hl), bnd_eq, nI_1, bnd_eq, nI_1]
      rfl)
  exact this
theorem imageOfPower_p {i j : Nat} (hn : n ≤ 10) (hp : IsP n p) (hi : i < n) (hj : j < 1001) : f_X6_imageOfPower (tn n p) (nI i) (nI j) = some (nI (pw p j i)) := by
  have hc := cl_spec hn hp hi
  rw [imageOfPower_l hn hp hi (fmod_p j hj (cl p i) (by omega) hc.1) (by have := Nat.mod_lt j (show cl p i > 0 by omega); omega), ← pw_mod hn hp hi]
theorem pw_iv (hn : n ≤ 10) (hp : IsP n p) : ∀ j i, pw p j (pw (iv p) j i) = i := by
  intro j
  induction j with
  | zero => intro i; rfl
  | succ j ih =>
    intro i
    rw [Nat.add_comm, pw_ad, Nat.add_comm]
    show pw p j (p (iv p (pw (iv p) j i))) = i
    rw [iv_r hn hp]; exact ih i
theorem imageOfPower_n {i j : Nat} (hn : n ≤ 10) (hp : IsP n p) (hi : i < n) (hj : j < 1001) : f_X6_imageOfPower (tn n p) (nI i) (-(nI j)) = some (nI (pw (iv p) j i)) := by
  have hc := cl_spec hn hp hi
  have hm := Nat.mod_lt j (show cl p i > 0 by omega)
  have hm2 := Nat.mod_lt (cl p i - j % cl p i) (show cl p i > 0 by omega)
  rw [imageOfPower_l hn hp hi (fmod_n j hj (cl p i) (by omega) hc.1) (by omega)]
  refine congrArg (fun x => some (nI x)) ((IsP_pw hp j).2.2 _ _ ?_)
  rw [pw_iv hn hp, ← pw_ad, pw_mod hn hp hi]
  have e : ((cl p i - j % cl p i) % cl p i + j) % cl p i = 0 := by
    rw [Nat.mod_add_mod]
    have hd := Nat.div_add_mod j (cl p i)
    rw [show cl p i - j % cl p i + j = cl p i * (j / cl p i) + cl p i by omega, ← Nat.mul_succ, Nat.mul_mod_right]
  rw [e]; rfl
theorem raise_eq {k : Int32} {q : Nat → Nat} (hn : n ≤ 10) (hq : IsP n q) (h : ∀ i, i < n → f_X6_imageOfPower (tn n p) (nI i) k = some (nI (q i))) : f_X6_raise (tn n p) k (nI n) = some (tn n q) := by
  unfold f_X6_raise
  have := for0 (fun fu z => f_X6_raise_6 (tn n p) k (nI n) fu z.1 z.2) (fun i => (tz (pt n idp q i), nI i)) n (some (tn n q)) (by omega)
    (fun fu => by
      dsimp only
      rw [f_X6_raise_6, if_pos (by rw [q_le (by omega) (by omega)]; omega), pt_end hn (IsP_id n)])
    (fun fu i hi => by
      dsimp only
      have hqi := hq.1 i hi
      rw [f_X6_raise_6, if_neg (by rw [q_le (by omega) (by omega)]; omega), ob (h i hi), bnd_eq, nI_l (by omega), q_36 i (by omega), pt_step (j := i) (v := q i) hn (IsP_id n) hq hi rfl rfl, bnd_eq, nI_1])
  rw [pt_0] at this
  exact this
theorem powers16 {I : MI} {L : ML} {a b : Nat} {c : Nat → Nat} {v2 v4 : Int32} (hp : IsP 10 p) (hc : IsP 10 c) (ha : Row I a 0 p) (hab : a ≠ b) (k0 : MI → Option Mm) : f_X8_powers_16 a b v2 v4 L k0 FU 0 (wp I b 0 c) = k0 (wp I b 0 (cp c p)) := by
  have := for0 (fun fu z => f_X8_powers_16 a b v2 v4 L k0 fu z.1 z.2) (fun x => (nI x, wp I b 0 (fun i => if i < x then p (c i) else c i))) 10 (k0 (wp I b 0 (cp c p))) (by decide)
    (fun fu => by
      dsimp only
      rw [f_X8_powers_16, if_pos (by decide)]
      exact congrArg k0 (wp_ext (fun j hj => if_pos hj)))
    (fun fu x hx => by
      dsimp only
      have h1 : wp I b 0 (fun i => if i < x then p (c i) else c i) b x = nI (c x) := by
        have := Row0 (Row_wp (I := I) (to := b) (wh := 0) (p := fun i => if i < x then p (c i) else c i)) hx
        rw [this, if_neg (by omega)]
      have hcx := hc.1 x hx
      rw [f_X8_powers_16, if_neg (ge10 hx), q_chk (by omega) (by decide), q_ix (by omega), h1, q_chk (by omega) (by decide), q_chk (by omega) (by decide), bnd_eq, q_ix (by omega), wp_ne hab, Row0 ha hcx, bnd_eq, nI_1, wp_up0 hx]
      refine congrArg (fun z => f_X8_powers_16 a b v2 v4 L k0 fu (nI (x + 1)) z) (wp_ext (fun j hj => ?_))
      unfold us
      by_cases e : j = x
      · rw [if_pos e, if_pos (by omega), e]
      · rw [if_neg e]
        dsimp only
        by_cases g : j < x
        · rw [if_pos g, if_pos (by omega)]
        · rw [if_neg g, if_neg (by omega)])
  have e0 : wp I b 0 (fun i => if i < 0 then p (c i) else c i) = wp I b 0 c := wp_ext (fun j hj => if_neg (by omega))
  rw [e0, nI_0] at this
  exact this
theorem powers_eq {I : MI} {L : ML} {a b k : Nat} (hp : IsP 10 p) (ha : Row I a 0 p) (hab : a ≠ b) (hk : k < 10000) : f_X8_powers a (nI k) b I L = some (wp I b 0 (pw p k), L) := by
  unfold f_X8_powers
  rw [ob isHome_eq]
  have := for0 (fun fu z => f_X8_powers_7 a b (nI k) L fu z.1 z.2) (fun t => (nI t, wp I b 0 (pw p t))) k (some (wp I b 0 (pw p k), L)) (by omega)
    (fun fu => by
      dsimp only
      rw [f_X8_powers_7, if_pos (by rw [q_le (by omega) (by omega)]; omega)])
    (fun fu t ht => by
      dsimp only
      rw [f_X8_powers_7, if_neg (by rw [q_le (by omega) (by omega)]; omega), powers16 hp (IsP_pw hp t) ha hab, bnd_eq, nI_1]
      rfl)
  exact this
end PW
