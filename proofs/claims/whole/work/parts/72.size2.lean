section SZ2
variable {I : MI} {L : ML} {cb n : Nat} {rb : Nat → Nat} {th : Nat → Nat → Nat → Nat}
theorem sizeFrom_l (hn : n ≤ 10) (hC : ChT I L cb n rb th) (hT : TabOK n (RB (tbR rb)) th) : ∀ d fu a, d ≤ n → d < fu → f_X0_sizeFrom_4 cb I L fu (nI a) (nI (n - d)) = some (nI (a * sz (tbR rb) n d)) := by
  intro d
  induction d with
  | zero =>
    intro fu a _ h2
    obtain ⟨fu, rfl⟩ : ∃ m, fu = m + 1 := ⟨fu - 1, by omega⟩
    rw [f_X0_sizeFrom_4, hC.1, if_pos (by rw [q_le (by omega) (by omega)]; omega)]
    show some (nI a) = some (nI (a * 1))
    rw [Nat.mul_one]
  | succ d ih =>
    intro fu a hd h2
    obtain ⟨fu, rfl⟩ : ∃ m, fu = m + 1 := ⟨fu - 1, by omega⟩
    obtain ⟨c1, c2⟩ := hC.2.2.1 (n - (d + 1)) (by omega)
    rw [f_X0_sizeFrom_4, hC.1, if_neg (by rw [q_le (by omega) (by omega)]; omega), q_chk (by omega) (by decide), q_ix (by omega), c1, ob (bitCount_R hn (by omega) c2 hT), bnd_eq, bnd_eq, pk_mul, nI_1, show n - (d + 1) + 1 = n - d by omega, ih fu _ (by omega) (by omega), Nat.mul_assoc]
    rfl
theorem sizeFrom_eq (hn : n ≤ 10) (hC : ChT I L cb n rb th) (hT : TabOK n (RB (tbR rb)) th) {l : Nat} (hl : l ≤ n) : f_X0_sizeFrom cb (nI l) I L = some (nI (sz (tbR rb) n (n - l))) := by
  unfold f_X0_sizeFrom
  have := sizeFrom_l hn hC hT (n - l) FU 1 (by omega) (by unfold FU; omega)
  rw [show n - (n - l) = l by omega, Nat.one_mul] at this
  exact this
theorem size_eq (hn : n ≤ 10) (hC : ChT I L cb n rb th) (hT : TabOK n (RB (tbR rb)) th) : f_X0_size cb I L = some (nI (sz (tbR rb) n n)) := by
  unfold f_X0_size
  have := sizeFrom_eq hn hC hT (Nat.zero_le n)
  rw [nI_0] at this
  rw [ob this]; rfl
end SZ2
/-- the reference's widths and orders -/
theorem widthAt_eq {I : MI} {L : ML} {s k : Nat} (hs : s < 4) (hk : k < 10) : f_X8_widthAt (nI s) (nI k) I L = some (nI (cT (RT I s k) 10)) := by
  unfold f_X8_widthAt
  have := for0 (fun fu x => f_X8_widthAt_5 (nI s) (nI k) I L fu x.1 x.2) (fun i => (nI (cT (RT I s k) i), nI i)) 10 (some (nI (cT (RT I s k) 10))) (by decide)
    (fun fu => by
      dsimp only
      rw [f_X8_widthAt_5, if_pos (by decide)])
    (fun fu i hi => by
      dsimp only
      rw [f_X8_widthAt_5, if_neg (ge10 hi), ad_100, q_chk (by omega) (by decide), q_ix (by omega)]
      have e : cT (RT I s k) (i + 1) = cT (RT I s k) i + (RT I s k i).toNat := rfl
      rw [RT_in hi] at e
      by_cases h : I 52 (100 * s + 10 * k + i) = 0
      · rw [if_pos h, bnd_eq, bnd_eq, nI_1, e, decide_eq_false (fun g => g h), show (0 : Int32) = nI 0 from rfl, nI_add]
        rfl
      · rw [if_neg h, bnd_eq, bnd_eq, nI_1, nI_1, e, decide_eq_true h]
        rfl)
  exact this
theorem orderFrom_l {I : MI} {L : ML} {s : Nat} (hs : s < 4) : ∀ d fu a, d ≤ 10 → d < fu → f_X8_orderFrom_5 (nI s) I L fu (nI a) (nI (10 - d)) = some (nI (a * sz (RT I s) 10 d)) := by
  intro d
  induction d with
  | zero =>
    intro fu a _ h2
    obtain ⟨fu, rfl⟩ : ∃ m, fu = m + 1 := ⟨fu - 1, by omega⟩
    rw [f_X8_orderFrom_5, show 10 - 0 = 10 from rfl, if_pos (by decide)]
    show some (nI a) = some (nI (a * 1))
    rw [Nat.mul_one]
  | succ d ih =>
    intro fu a hd h2
    obtain ⟨fu, rfl⟩ : ∃ m, fu = m + 1 := ⟨fu - 1, by omega⟩
    rw [f_X8_orderFrom_5, if_neg (ge10 (by omega)), ob (widthAt_eq hs (by omega)), bnd_eq, bnd_eq, pk_mul, nI_1, show 10 - (d + 1) + 1 = 10 - d by omega, ih fu _ (by omega) (by omega), Nat.mul_assoc]
    rfl
theorem orderFrom_eq {I : MI} {L : ML} {s l : Nat} (hs : s < 4) (hl : l ≤ 10) : f_X8_orderFrom (nI s) (nI l) I L = some (nI (sz (RT I s) 10 (10 - l))) := by
  unfold f_X8_orderFrom
  have := orderFrom_l (I := I) (L := L) hs (10 - l) FU 1 (by omega) (by unfold FU; omega)
  rw [show 10 - (10 - l) = l by omega, Nat.one_mul] at this
  exact this
