/-! The makers of a chain -/
section MKR
variable {n : Nat} {I : MI} {L : ML}
def MKs (c : Nat) (mk : Nat → Nat → Nat) : PS := fun s => ∃ i, i < c ∧ s = mk i
theorem ChG_mk {cb : Nat} {G : PS} (hn : n ≤ 10) (h0 : 0 < n) (h : ChG I L cb n G) : ∃ c mk, c ≤ 15 ∧ f_X0_countMakers cb I L = some (nI c) ∧ (∀ i, i < c → IsP n (mk i) ∧ f_X0_maker cb (nI i) I L = some (tn n (mk i))) ∧ Gen n (MKs c mk) = G := by
  obtain ⟨rb, th, mc, mk, tr, ⟨_, hM, hGI⟩, hCp, hH⟩ := id h
  have hmc : mc 0 ≤ 15 := lag hn (fun i hi => (hGI.2.1 0 i h0 hi).1) (fun i hi => hGI.2.2.2.2.2.1 0 i h0 hi)
  refine ⟨mc 0, mk 0, hmc, ?_, fun i hi => ⟨(hGI.2.1 0 i h0 hi).1, ?_⟩, ?_⟩
  · unfold f_X0_countMakers
    rw [show (0 : Int32) = nI 0 from rfl, q_chk (by decide) (by decide), q_ix (by decide), hM.1 0 h0]
  · unfold f_X0_maker
    have e1 := hM.2.1 0 i h0 hi
    rw [Nat.mul_zero, Nat.zero_add] at e1
    rw [if_neg (Int32.not_lt.mpr (nI_pos' (by omega))), show (16 : Int32) = nI 16 from rfl, if_neg (by rw [q_le (by decide) (by omega)]; omega), q_chk (by omega) (by decide), q_ix (by omega), e1]
  · rw [hH]
    have : MKs (mc 0) (mk 0) = SK n mc mk 0 := by
      funext s
      apply propext
      exact ⟨fun g => ⟨h0, g⟩, fun g => g.2⟩
    rw [this]
theorem takeM_eq {db cb : Nat} {G : PS} (hn : n ≤ 10) (h0 : 0 < n) (h : ChG I L cb n G) (hd : db ≠ cb ∧ db ≠ cb + 4 ∧ db ≠ cb + 5) (hd2 : db + 2 ≠ cb ∧ db + 2 ≠ cb + 4) : ∃ c mk I' L', f_X1_takeMakers db cb I L = some (I', L') ∧ c ≤ 15 ∧ I' db 2 = nI c ∧ (∀ i, i < c → IsP n (mk i) ∧ L' (db + 2) i = tn n (mk i)) ∧ Gen n (MKs c mk) = G ∧ (∀ p, p ≠ db → I' p = I p) ∧ (∀ j, j ≠ 2 → I' db j = I db j) ∧ (∀ p, p ≠ db + 2 → L' p = L p) := by
  obtain ⟨c, mk, c1, c2, c3, c4⟩ := ChG_mk hn h0 h
  unfold f_X1_takeMakers
  rw [ob c2, show imin (nI c) 16 = nI c from if_neg (by rw [show (16 : Int32) = nI 16 from rfl, q_lt (by decide) (by omega)]; omega), bnd_eq]
  have mkr : ∀ i, i < c → ∀ M : ML, (∀ p, p ≠ db + 2 → M p = L p) → f_X0_maker cb (nI i) (up2 I db 2 (nI c)) M = some (tn n (mk i)) := fun i hi M hM => by
    have := (c3 i hi).2
    unfold f_X0_maker at this ⊢
    rw [hM cb (fun g => hd2.1 g.symm), hM (cb + 4) (fun g => hd2.2 g.symm)]
    exact this
  have := loop0 (fun fu (z : Int32 × ML) => f_X1_takeMakers_18 db cb (up2 I db 2 (nI c)) fu z.1 z.2) (fun i z => i ≤ c ∧ z.1 = nI i ∧ (∀ p, p ≠ db + 2 → z.2 p = L p) ∧ (∀ t, t < i → z.2 (db + 2) t = tn n (mk t))) (fun o => ∃ M, o = some (up2 I db 2 (nI c), M) ∧ (∀ p, p ≠ db + 2 → M p = L p) ∧ (∀ t, t < c → M (db + 2) t = tn n (mk t))) c (by omega) (nI 0, L) ⟨Nat.zero_le _, rfl, fun _ _ => rfl, fun t ht => by omega⟩
    (fun fu i z hi hP => by
      obtain ⟨z1, M⟩ := z
      obtain ⟨_, p1, p2, p3⟩ := hP
      dsimp only at p1 p2 p3 ⊢
      subst p1
      rw [f_X1_takeMakers_18, up2_s, ifc (q_le (by omega) (by omega))]
      by_cases d1 : c ≤ i
      · left
        rw [if_pos d1]
        exact ⟨M, rfl, p2, fun t ht => p3 t (by omega)⟩
      · right
        refine ⟨by omega, (nI (i + 1), up2 M (db + 2) i (tn n (mk i))), ?_, by omega, rfl, fun p hp => by dsimp only; rw [up2_ne hp]; exact p2 p hp, fun t ht => ?_⟩
        · rw [if_neg d1, ob (mkr i (by omega) M p2), q_chk (by omega) (by decide), bnd_eq, bnd_eq, q_ix (by omega), nI_1]
        · dsimp only
          by_cases e1 : t = i
          · rw [e1, up2_s]
          · rw [up2_n e1]; exact p3 t (by omega))
  rw [nI_0] at this
  obtain ⟨M, m1, m2, m3⟩ := this
  exact ⟨c, mk, _, M, m1, c1, up2_s, fun i hi => ⟨(c3 i hi).1, m3 i hi⟩, c4, fun p hp => up2_ne hp, fun j hj => up2_n hj, m2⟩
end MKR
