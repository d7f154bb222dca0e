/-! A row of arrangements, none in the group of those ahead of it, has at most fifteen -/
theorem lag {n c : Nat} {m : Nat → Nat → Nat} (hn : n ≤ 10) (hP : ∀ i, i < c → IsP n (m i)) (h : ∀ i, i < c → ¬ Gen n (fun s => ∃ i', i' < i ∧ s = m i') (m i)) : c ≤ 15 := by
  have hS : ∀ i, i ≤ c → Sub n (Gen n (fun s => ∃ i', i' < i ∧ s = m i')) := fun i hi => Gen_Sub hn (fun a ⟨j, hj, e⟩ => by rw [e]; exact hP j (by omega))
  have hN : ∀ i, ∃ N, i ≤ c → En (Gen n (fun s => ∃ i', i' < i ∧ s = m i')) N := fun i => by
    by_cases hi : i ≤ c
    · obtain ⟨N, hN⟩ := En_ex hn (hS i hi)
      exact ⟨N, fun _ => hN⟩
    · exact ⟨0, fun g => absurd g hi⟩
  obtain ⟨N, hN⟩ := Classical.axiomOfChoice hN
  have hdv : ∀ i, i ≤ c → N i ∣ 3628800 := fun i hi => by
    obtain ⟨q, hq⟩ := lagr (Nat.le_refl 10) (Sub_10 hn (hS i hi)) (Sub_all (Nat.le_refl 10)) (fun p hp => IsP_mono ((hS i hi).1 p hp) hn) (hN i hi) En_S10
    exact ⟨q, by rw [hq, Nat.mul_comm]⟩
  have key : ∀ i, i ≤ c → i ≤ om (N i) := by
    intro i
    induction i with
    | zero => intro _; exact Nat.zero_le _
    | succ i ih =>
      intro hi
      have h1 := ih (by omega)
      have hsub : ∀ p, Gen n (fun s => ∃ i', i' < i ∧ s = m i') p → Gen n (fun s => ∃ i', i' < i + 1 ∧ s = m i') p := fun p hp => Gen_mono (fun a ⟨j, hj, e⟩ => Gen_in ⟨j, by omega, e⟩) p hp
      obtain ⟨q, hq⟩ := lagr hn (hS i (by omega)) (hS (i + 1) hi) hsub (hN i (by omega)) (hN (i + 1) hi)
      have hq2 : 2 ≤ q := by
        refine Nat.le_of_not_lt (fun hlt => ?_)
        have hc : q = 0 ∨ q = 1 := by omega
        rcases hc with hc | hc
        · obtain ⟨e, e1, e2, e3⟩ := hN (i + 1) hi
          obtain ⟨x, hx, _⟩ := e3 idp (hS (i + 1) hi).2.1
          rw [hq, hc, Nat.zero_mul] at hx
          omega
        · rw [hc, Nat.one_mul] at hq
          have hE := hN (i + 1) hi
          rw [hq] at hE
          exact h i (by omega) (En_eq (hN i (by omega)) hE hsub (m i) (Gen_in ⟨i, by omega, rfl⟩))
      have h2 := om_lt (d := N i) hq2 (by rw [Nat.mul_comm, ← hq]; exact hdv (i + 1) hi)
      rw [Nat.mul_comm, ← hq] at h2
      omega
  exact Nat.le_trans (key c (Nat.le_refl c)) (cT_le _ _)
