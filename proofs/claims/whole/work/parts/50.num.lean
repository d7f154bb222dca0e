/-! THE PURE LAYER. Numbers: an int that is a small natural number is nI k, a long lN k. -/
theorem q_inb {k n : Nat} (h : k < 2 ^ 31) : inb (nI k) n = decide (k < n) := by
  unfold inb
  rw [nI_toInt h]
  rw [Bool.eq_iff_iff]
  simp
theorem q_ix {k : Nat} (h : k < 2 ^ 31) : ix (nI k) = k := nI_clamp h
theorem q_inbT {k n : Nat} (h : k < n) (hn : n < 2 ^ 31) : inb (nI k) n = true := by
  rw [q_inb (by omega)]; exact decide_eq_true h
theorem chk_pos {β : Type} {c : Bool} {x : Option β} (h : c = true) : chk c x = x := if_pos h
theorem q_chk {β : Type} {k n : Nat} {x : Option β} (h : k < n) (hn : n < 2 ^ 31) : chk (inb (nI k) n) x = x := chk_pos (q_inbT h hn)
theorem bnd_eq {α β : Type} (a : α) (f : α → β) : bnd a f = f a := rfl
theorem q_and31 : ∀ k : Nat, k < 32 → (nI k &&& 31) = nI k := by decide +kernel
theorem q_smod : ∀ k : Nat, k < 32 → ((nI k).toBitVec.smod 32).toNat = k := by decide +kernel
theorem q_shr {s k : Nat} (hs : s < 2 ^ 31) (hk : k < 32) : shr (nI s) (nI k) = nI (s / 2 ^ k) := by
  unfold shr
  rw [q_and31 k hk]
  exact pk_shrN hs _ k (q_smod k hk)
theorem q_shl {s k : Nat} (hk : k < 32) (h : s * 2 ^ k < 2 ^ 32) : shl (nI s) (nI k) = nI (s * 2 ^ k) := by
  unfold shl
  rw [q_and31 k hk]
  exact pk_shlN _ k (q_smod k hk) h
theorem q_shl1 {k : Nat} (hk : k < 32) : shl 1 (nI k) = nI (2 ^ k) := by
  have := q_shl (s := 1) hk (by rw [Nat.one_mul]; exact Nat.pow_lt_pow_right (by decide) hk)
  rw [Nat.one_mul] at this
  exact this
theorem q_and1 {s : Nat} (hs : s < 2 ^ 32) : nI s &&& 1 = nI (s % 2) := pk_andN hs 1 rfl
theorem q_tb (s k : Nat) : s / 2 ^ k % 2 = (s.testBit k).toNat := by
  rw [Nat.testBit_eq_decide_div_mod_eq]
  have : s / 2 ^ k % 2 < 2 := Nat.mod_lt _ (by decide)
  by_cases h : s / 2 ^ k % 2 = 1
  · rw [h]; rfl
  · rw [decide_eq_false h]
    show s / 2 ^ k % 2 = 0
    omega
theorem q_bit {s k : Nat} (hs : s < 2 ^ 31) (hk : k < 32) : (shr (nI s) (nI k) &&& 1) = nI (s.testBit k).toNat := by
  rw [q_shr hs hk, q_and1 (Nat.lt_of_le_of_lt (Nat.div_le_self _ _) (by omega)), q_tb]
theorem q_bit0 {s k : Nat} (hs : s < 2 ^ 31) (hk : k < 32) : ((shr (nI s) (nI k) &&& 1) = 0) = (s.testBit k = false) := by
  rw [q_bit hs hk]
  cases s.testBit k
  · exact eq_true (show nI 0 = 0 from rfl) |>.trans (eq_true rfl).symm
  · exact (eq_false (show ¬ nI 1 = 0 by decide +kernel)).trans (eq_false (by decide)).symm
theorem q_or (a b : Nat) : nI a ||| nI b = nI (a ||| b) := by
  apply Int32.toBitVec_inj.mp
  show BitVec.ofNat 32 a ||| BitVec.ofNat 32 b = BitVec.ofNat 32 (a ||| b)
  apply BitVec.eq_of_toNat_eq
  simp [BitVec.toNat_or, BitVec.toNat_ofNat, Nat.or_mod_two_pow]
theorem q_and (a b : Nat) : nI a &&& nI b = nI (a &&& b) := by
  apply Int32.toBitVec_inj.mp
  show BitVec.ofNat 32 a &&& BitVec.ofNat 32 b = BitVec.ofNat 32 (a &&& b)
  apply BitVec.eq_of_toNat_eq
  simp [BitVec.toNat_and, BitVec.toNat_ofNat, Nat.and_mod_two_pow]
theorem q_lor (a b : Nat) : lN a ||| lN b = lN (a ||| b) := by
  apply Int64.toBitVec_inj.mp
  show BitVec.ofNat 64 a ||| BitVec.ofNat 64 b = BitVec.ofNat 64 (a ||| b)
  apply BitVec.eq_of_toNat_eq
  simp [BitVec.toNat_or, BitVec.toNat_ofNat, Nat.or_mod_two_pow]
theorem q_land (a b : Nat) : lN a &&& lN b = lN (a &&& b) := by
  apply Int64.toBitVec_inj.mp
  show BitVec.ofNat 64 a &&& BitVec.ofNat 64 b = BitVec.ofNat 64 (a &&& b)
  apply BitVec.eq_of_toNat_eq
  simp [BitVec.toNat_and, BitVec.toNat_ofNat, Nat.and_mod_two_pow]
theorem q_l63 : ∀ k : Nat, k < 64 → ((nI k).toInt64 &&& 63) = lN k := by decide +kernel
theorem q_lsm : ∀ k : Nat, k < 64 → ((lN k).toBitVec.smod 64).toNat = k := by decide +kernel
theorem q_lu63 : ∀ k : Nat, k < 64 → (((nI k).toInt64.toUInt64 &&& Int64.toUInt64 63).toBitVec % 64).toNat = k := by decide +kernel
theorem q_lnat {n : Nat} (h : n < 2 ^ 64) : (lN n).toBitVec.toNat = n := by
  show (BitVec.ofNat 64 n).toNat = n
  rw [BitVec.toNat_ofNat]; exact Nat.mod_eq_of_lt h
theorem q_lushr {t k : Nat} (ht : t < 2 ^ 64) (hk : k < 64) : lushr (lN t) (nI k) = lN (t / 2 ^ k) := by
  apply Int64.toBitVec_inj.mp
  apply BitVec.eq_of_toNat_eq
  have e : (lushr (lN t) (nI k)).toBitVec = (lN t).toBitVec >>> k := by
    have h : (lushr (lN t) (nI k)).toBitVec = (lN t).toBitVec >>> (((nI k).toInt64.toUInt64 &&& Int64.toUInt64 63).toBitVec % 64).toNat := UInt64.toBitVec_shiftRight _ _
    rw [q_lu63 k hk] at h
    exact h
  rw [e, BitVec.toNat_ushiftRight, Nat.shiftRight_eq_div_pow, q_lnat ht, q_lnat (Nat.lt_of_le_of_lt (Nat.div_le_self _ _) ht)]
theorem q_lshl {t k : Nat} (hk : k < 64) (ht : t * 2 ^ k < 2 ^ 64) : lshl (lN t) (nI k) = lN (t * 2 ^ k) := by
  have ht2 : t < 2 ^ 64 := Nat.lt_of_le_of_lt (Nat.le_mul_of_pos_right t (Nat.two_pow_pos k)) ht
  apply Int64.toBitVec_inj.mp
  apply BitVec.eq_of_toNat_eq
  have e : (lshl (lN t) (nI k)).toBitVec = (lN t).toBitVec <<< k := by
    unfold lshl
    rw [q_l63 k hk, Int64.toBitVec_shiftLeft]
    rw [BitVec.shiftLeft_eq', q_lsm k hk]
  rw [e, BitVec.toNat_shiftLeft, Nat.shiftLeft_eq, q_lnat ht2, q_lnat ht]
  exact Nat.mod_eq_of_lt ht
theorem q_lto (t : Nat) : Int64.toInt32 (lN t) &&& 15 = nI (t % 16) := by
  rw [lN_i]
  have h : (15 : Int32).toBitVec.toNat = 2 ^ 4 - 1 := rfl
  rw [pk_and (nI t) 4 h]
  show nI ((BitVec.ofNat 32 t).toNat % 16) = _
  rw [BitVec.toNat_ofNat, Nat.mod_mod_of_dvd _ (by decide)]
theorem q_l15 (t : Nat) : lN t &&& 15 = lN (t % 16) := by
  rw [show (15 : Int64) = lN 15 from rfl, q_land]
  exact congrArg lN (Nat.and_two_pow_sub_one_eq_mod t 4)
theorem q_36 : ∀ i : Nat, i < 10 → (36 : Int32) - 4 * nI i = nI (36 - 4 * i) := by decide +kernel
theorem q_cmp0 (a b : Int64) : (lg_cmp a b = 0) = (a = b) := by
  unfold lg_cmp
  by_cases h : a > b
  · rw [if_pos h]
    have hne : a ≠ b := fun e => by rw [e] at h; exact absurd h (Int64.lt_irrefl)
    exact (eq_false (by decide)).trans (eq_false hne).symm
  · rw [if_neg h]
    by_cases e : a = b
    · rw [if_pos e]; exact (eq_true rfl).trans (eq_true e).symm
    · rw [if_neg e]; exact (eq_false (by decide)).trans (eq_false e).symm
