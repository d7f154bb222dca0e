/-! Orders, from the class's chain -/
theorem bitCount_all : ∀ s : Nat, s < 1024 → f_J6_bitCount_0f7a4 (nI s) = some (nI (cT (fun i => s.testBit i) 10)) := by decide +kernel
theorem cT_more {P : Nat → Bool} {n : Nat} : ∀ m, n ≤ m → (∀ i, n ≤ i → P i = false) → cT P m = cT P n := by
  intro m
  induction m with
  | zero => intro h _; rw [show n = 0 by omega]
  | succ m ih =>
    intro h hP
    by_cases e : n = m + 1
    · rw [e]
    · show cT P m + (P m).toNat = _
      rw [hP m (by omega), ih (by omega) hP]; rfl
theorem bitCount_R {rb : Nat → Nat} {n k : Nat} {th : Nat → Nat → Nat → Nat} (hn : n ≤ 10) (hk : k < n) (hb : rb k < 2 ^ 10) (hT : TabOK n (RB (tbR rb)) th) : f_J6_bitCount_0f7a4 (nI (rb k)) = some (nI (cT (tbR rb k) n)) := by
  rw [bitCount_all (rb k) hb]
  refine congrArg (fun x => some (nI x)) (cT_more (P := tbR rb k) 10 hn (fun i hi => ?_))
  cases h : tbR rb k i
  · rfl
  · have := ((hT k hk).2 i h).1
    omega
def fac : Nat → Nat
  | 0 => 1
  | d + 1 => (d + 1) * fac d
section SZ
variable {I : MI} {L : ML} {cb n : Nat} {rb : Nat → Nat} {th : Nat → Nat → Nat → Nat}
theorem w_le {R : Nat → Nat → Bool} {T : Nat → Nat → Nat → Nat} (hT : TabOK n (RB R) T) {k : Nat} (hk : k < n) : cT (R k) n ≤ n - k := by
  have : cT (R k) n ≤ cT (fun _ => true) (n - k) := cT_bij (fun i => i - k) (fun i hi h => by
    have := TabOK_ge hT hk (show RB R k i from h)
    exact ⟨by omega, rfl⟩) (fun i j hi hj h1 h2 e => by
    have a := TabOK_ge hT hk (show RB R k i from h1)
    have b := TabOK_ge hT hk (show RB R k j from h2)
    have e : i - k = j - k := e
    omega)
  exact Nat.le_trans this (cT_le _ _)
theorem sz_le {R : Nat → Nat → Bool} {T : Nat → Nat → Nat → Nat} (hT : TabOK n (RB R) T) : ∀ d, d ≤ n → sz R n d ≤ fac d := by
  intro d
  induction d with
  | zero => intro _; exact Nat.le_refl _
  | succ d ih =>
    intro hd
    have h1 := w_le hT (k := n - (d + 1)) (by omega)
    exact Nat.mul_le_mul (by omega) (ih (by omega))
theorem fac_le : ∀ d, d < 11 → fac d ≤ 3628800 := by decide
theorem sz_lt {R : Nat → Nat → Bool} {T : Nat → Nat → Nat → Nat} (hn : n ≤ 10) (hT : TabOK n (RB R) T) {d : Nat} (hd : d ≤ n) : sz R n d ≤ 3628800 := Nat.le_trans (sz_le hT d hd) (fac_le d (by omega))
end SZ
