/-! A row of arrangements, none in the group of those ahead of it, has at most fifteen -/
theorem lag {n c : Nat} {m : Nat → Nat → Nat} (hn : n ≤ 10) (hP : ∀ i, i < c → IsP n (m i)) (h : ∀ i, i < c → ¬ Gen n (fun s => ∃ i', i' < i ∧ s = m i') (m i)) : c ≤ 15 := by
  sorry
