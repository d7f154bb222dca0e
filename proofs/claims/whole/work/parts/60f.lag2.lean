theorem least_ex (P : Nat → Prop) : ∀ y, P y → ∃ x, x ≤ y ∧ P x ∧ ∀ z, z < x → ¬ P z := by
  intro y hy
  obtain ⟨x, h1, h2⟩ := pk_least P ⟨y, hy⟩
  refine ⟨x, Nat.le_of_not_lt (fun h => h2 y h hy), h1, h2⟩
theorem lagr {n a b : Nat} {H K : PS} (hn : n ≤ 10) (hH : Sub n H) (hK : Sub n K) (h : ∀ p, H p → K p) (eH : En H a) (eK : En K b) : ∃ c, b = c * a := by
  obtain ⟨e, e1, e2, e3⟩ := eH
  obtain ⟨f, f1, f2, f3⟩ := eK
  have hapos : 0 < a := by
    obtain ⟨i, hi, _⟩ := e3 idp hH.2.1
    omega
  have hB : ∀ x, ∃ t : Bool, t = true ↔ ∀ y, y < x → ¬ H (cp (f y) (iv (f x))) := fun x => by
    by_cases g : ∀ y, y < x → ¬ H (cp (f y) (iv (f x)))
    · exact ⟨true, fun _ => g, fun _ => rfl⟩
    · exact ⟨false, (fun t => by cases t), fun t => absurd t g⟩
  have sB : ∀ x, Classical.choose (hB x) = true ↔ ∀ y, y < x → ¬ H (cp (f y) (iv (f x))) := fun x => Classical.choose_spec (hB x)
  generalize (fun x => Classical.choose (hB x)) = B0 at *
  sorry
