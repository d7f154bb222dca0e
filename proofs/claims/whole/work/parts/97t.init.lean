/-! The beginning -/
theorem tn_00 : tn 0 idp = 0 := by decide +kernel
theorem PR_inith : PR_init Inv := by
  have mk : ∀ I0 : MI, (∀ p j, p ≠ 1 → p ≠ 43 → I0 p j = 0) → (∀ j, j ≠ 14 → j ≠ 15 → I0 1 j = 0) → (∀ j, j ≠ 31 → j ≠ 32 → I0 43 j = 0) → I0 1 14 = -1 → I0 1 15 = -1 → I0 43 31 = -1 → I0 43 32 = -1 → ∃ (I2 : MI) (L2 : ML), Option.bind (f_X8_isHome 46 I0 (fun _ _ => 0)) (fun q1 => Option.bind (f_X8_copies 46 10 0 44 71 1 q1.1 q1.2) (fun q2 => some (q2.1, q2.2))) = some (I2, L2) ∧ Inv I2 L2 0 := fun I0 z0 z1 z43 a14 a15 a31 a32 => by
    have cpy : f_X8_copies 46 10 0 44 71 1 (wp I0 46 0 idp) (fun _ _ => 0) = some (wp (wp I0 46 0 idp) 44 1 idp, fun _ _ => 0) := copies0y (I := wp I0 46 0 idp) (L := fun _ _ => 0) (a := 46) (an := 10) (b := 44) (bn := 71) (y := 1) Row_wp (by decide) (by decide) (by decide) (by decide) (by decide)
    refine ⟨wp (wp I0 46 0 idp) 44 1 idp, fun _ _ => 0, by rw [ob isHome_eq, ob cpy], ?_⟩
    have e : ∀ p, p ≠ 44 → p ≠ 46 → wp (wp I0 46 0 idp) 44 1 idp p = I0 p := fun p h1 h2 => by rw [wp_ne h1, wp_ne h2]
    have e0 : ∀ p j, p ≠ 44 → p ≠ 46 → p ≠ 1 → p ≠ 43 → wp (wp I0 46 0 idp) 44 1 idp p j = 0 := fun p j h1 h2 h3 h4 => by rw [e p h1 h2]; exact z0 p j h3 h4
    have hGe : ∀ (S T : PS), (∀ a, ¬ S a) → (∀ a, ¬ T a) → Gen 0 S = Gen 0 T := fun S T hS hT => by
      have : S = T := by
        funext a
        apply propext
        exact ⟨fun h => absurd h (hS a), fun h => absurd h (hT a)⟩
      rw [this]
    refine ⟨0, 0, fun _ => idp, idp, ⟨by decide, by decide, fun i hi => by omega, IsP_id 0⟩, ⟨e0 6 0 (by decide) (by decide) (by decide) (by decide), e0 6 1 (by decide) (by decide) (by decide) (by decide), fun i hi => by omega, tn_00.symm, ?_, ⟨0, e0 6 4 (by decide) (by decide) (by decide) (by decide), by decide, (fun t ht => by rw [Nat.zero_testBit] at ht; cases ht), rfl⟩, fun s _ => Or.inl (e0 29 s (by decide) (by decide) (by decide) (by decide)), Or.inl (e0 30 4 (by decide) (by decide) (by decide) (by decide)), Or.inl (e0 33 4 (by decide) (by decide) (by decide) (by decide)), ⟨by decide, fun h => absurd rfl h, Or.inl (e0 6 11 (by decide) (by decide) (by decide) (by decide))⟩⟩, ⟨?_, ⟨?_, by decide, fun i hi => by omega, Row_wp⟩, Or.inl ?_⟩, ⟨0, fun _ => 0, fun _ _ => idp, fun _ => idp, by decide, e0 37 0 (by decide) (by decide) (by decide) (by decide), ?_, fun i hi => by omega⟩, ⟨0, by decide, ?_, ?_, fun j hj => by omega⟩, ⟨0, by decide, e0 0 4 (by decide) (by decide) (by decide) (by decide), ?_, fun j hj => by omega⟩, ⟨?_, ?_⟩, ?_⟩
    · refine ⟨fun _ => 0, fun _ _ => idp, fun _ => 0, fun _ _ => idp, fun _ _ => 0, ⟨⟨e0 8 0 (by decide) (by decide) (by decide) (by decide), tn_00.symm, fun k hk => by omega, fun k j hk => by omega⟩, ⟨fun k hk => by omega, fun k i hk => by omega, fun k j hk => by omega⟩, ⟨fun k hk => by omega, fun k i hk => by omega, fun k j hk => by omega, fun k s ⟨hk, _⟩ => by omega, fun k j i hk => by omega, fun k i hk => by omega, fun k j hk => by omega⟩⟩, fun k j _ hk => by omega, hGe _ _ (fun a ⟨t, ht, _⟩ => by omega) (fun a ⟨hk, _⟩ => by omega)⟩
    · rw [e 43 (by decide) (by decide)]; exact z43 2 (by decide) (by decide)
    · unfold wp; rw [wr_out (by omega), wr_ne (by decide)]; exact z0 44 0 (by decide) (by decide)
    · rw [e 43 (by decide) (by decide)]; exact z43 20 (by decide) (by decide)
    · rw [e 43 (by decide) (by decide)]; exact z43 3 (by decide) (by decide)
    · rw [e 1 (by decide) (by decide)]; exact z1 1 (by decide) (by decide)
    · rw [e 43 (by decide) (by decide)]; exact z43 30 (by decide) (by decide)
    · rw [e 43 (by decide) (by decide)]; exact z43 28 (by decide) (by decide)
    · rw [e 1 (by decide) (by decide), e 43 (by decide) (by decide), a14, a31]
    · rw [e 1 (by decide) (by decide), e 43 (by decide) (by decide), a15, a32]
    · rw [e 43 (by decide) (by decide), z43 0 (by decide) (by decide)]; exact e0 0 6 (by decide) (by decide) (by decide) (by decide)
  exact mk _ (fun p j h1 h43 => by rw [up2_ne h43, up2_ne h43, up2_ne h1, up2_ne h1]) (fun j h14 h15 => by rw [up2_ne (by decide), up2_ne (by decide), up2_n h15, up2_n h14]) (fun j h31 h32 => by rw [up2_n h32, up2_n h31, up2_ne (by decide), up2_ne (by decide)]) (by rw [up2_ne (by decide), up2_ne (by decide), up2_n (by decide), up2_s]) (by rw [up2_ne (by decide), up2_ne (by decide), up2_s]) (by rw [up2_n (by decide), up2_s]) up2_s
