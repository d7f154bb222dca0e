/-! The makers of a chain, named -/
section MKK
variable {n : Nat} {I : MI} {L : ML}
theorem ChK_mk {cb c0 : Nat} {mk0 : Nat → Nat → Nat} {G : PS} (hn : n ≤ 10) (h0 : 0 < n) (h : ChK I L cb n c0 mk0 G) : c0 ≤ 15 ∧ f_X0_countMakers cb I L = some (nI c0) ∧ (∀ i, i < c0 → IsP n (mk0 i) ∧ f_X0_maker cb (nI i) I L = some (tn n (mk0 i))) ∧ Gen n (MKs c0 mk0) = G := by
  obtain ⟨rb, th, mc, mk, tr, ⟨_, hM, hGI⟩, hCp, hH, ec, ek⟩ := id h
  subst ec ek
  have hmc : mc 0 ≤ 15 := lag hn (fun i hi => (hGI.2.1 0 i h0 hi).1) (fun i hi => hGI.2.2.2.2.2.1 0 i h0 hi)
  refine ⟨hmc, ?_, fun i hi => ⟨(hGI.2.1 0 i h0 hi).1, ?_⟩, ?_⟩
  · unfold f_X0_countMakers
    rw [show (0 : Int32) = nI 0 from rfl, q_chk (by decide) (by decide), q_ix (by decide), hM.1 0 h0]
  · unfold f_X0_maker
    have e1 := hM.2.1 0 i h0 hi
    rw [Nat.mul_zero, Nat.zero_add] at e1
    rw [if_neg (Int32.not_lt.mpr (nI_pos' (by omega))), show (16 : Int32) = nI 16 from rfl, if_neg (by rw [q_le (by decide) (by omega)]; omega), q_chk (by omega) (by decide), q_ix (by omega), e1]
  · rw [hH]
    have : MKs (mc 0) (mk 0) = SK n mc mk 0 := by
      funext s
      apply propext
      exact ⟨fun g => ⟨h0, g⟩, fun g => g.2⟩
    rw [this]
end MKK
