/-! Orders, from the class's chain -/
theorem bitCount_all : ∀ s : Nat, s < 1024 → f_J6_bitCount_0f7a4 (nI s) = some (nI (cT (fun i => s.testBit i) 10)) := by decide +kernel
theorem cT_more {P : Nat → Bool} {n : Nat} : ∀ m, n ≤ m → (∀ i, n ≤ i → P i = false) → cT P m = cT P n := by
  intro m
  induction m with
  | zero => intro h _; rw [show n = 0 by omega]
  | succ m ih =>
    intro h hP
    by_cases e : n = m + 1
    · rw [e]
    · show cT P m + (P m).toNat = _
      rw [hP m (by omega), ih (by omega) hP]; rfl
theorem bitCount_R {rb : Nat → Nat} {n k : Nat} {th : Nat → Nat → Nat → Nat} (hn : n ≤ 10) (hk : k < n) (hb : rb k < 2 ^ 10) (hT : TabOK n (RB (tbR rb)) th) : f_J6_bitCount_0f7a4 (nI (rb k)) = some (nI (cT (tbR rb k) n)) := by
  rw [bitCount_all (rb k) hb]
  refine congrArg (fun x => some (nI x)) (cT_more (P := tbR rb k) 10 hn (fun i hi => ?_))
  cases h : tbR rb k i
  · rfl
  · have := ((hT k hk).2 i h).1
    omega
