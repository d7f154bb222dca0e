/-! Holding a set of points: the relabelling, and the class's packing of it -/
section HO
variable {n m rm : Nat} {mv : Nat → Nat → Nat} {st : Nat → Nat} {I : MI} {L : ML}
theorem l_clr {a c : Int64} (h : a &&& c = 0) : a &&& (c ^^^ (-1)) = a := by
  apply Int64.toBitVec_inj.mp
  have e1 : (a &&& (c ^^^ (-1))).toBitVec = a.toBitVec &&& (c.toBitVec ^^^ BitVec.allOnes 64) := rfl
  have e2 : a.toBitVec &&& c.toBitVec = 0#64 := by
    have := congrArg Int64.toBitVec h
    exact this
  rw [e1]
  refine BitVec.eq_of_getLsbD_eq (fun i hi => ?_)
  have e3 : (a.toBitVec &&& c.toBitVec).getLsbD i = false := by rw [e2]; exact BitVec.getLsbD_zero
  rw [BitVec.getLsbD_and] at e3
  rw [BitVec.getLsbD_and, BitVec.getLsbD_xor, BitVec.getLsbD_allOnes, decide_eq_true hi]
  cases ha : a.toBitVec.getLsbD i
  · rfl
  · rw [ha] at e3
    cases hc : c.toBitVec.getLsbD i
    · rfl
    · rw [hc] at e3; cases e3
theorem with_eq {f : Nat → Nat} {i v : Nat} (hf : ∀ i, f i < 16) (hi : i < 10) (h0 : f i = 0) (hv : v < 16) : f_X6_with (tz f) (nI i) (nI v) = some (tz (us f i v)) := by
  unfold f_X6_with
  rw [bnd_eq, q_36 i hi]
  have e15 : lshl 15 (nI (36 - 4 * i)) = lN (15 * 2 ^ (36 - 4 * i)) := q_lshl (t := 15) (by omega) (by
    have : 2 ^ (36 - 4 * i) ≤ 2 ^ 36 := Nat.pow_le_pow_right (by decide) (by omega)
    omega)
  have hE : E 10 f < 2 ^ 40 := by
    have := E_lt (f := f) 10 (fun i _ => hf i)
    have e9 : (16 : Nat) ^ 10 = 2 ^ 40 := (by decide)
    omega
  have hnib := tz_nib hf hi
  rw [h0] at hnib
  have hz : tz f &&& lshl 15 (nI (36 - 4 * i)) = 0 := by
    rw [e15]
    unfold tz at hnib ⊢
    rw [q_lushr (by omega) (by omega), q_l15] at hnib
    have h1 : E 10 f / 2 ^ (36 - 4 * i) % 16 = 0 := by
      have := congrArg (fun x : Int64 => x.toBitVec.toNat) hnib
      have : (lN (E 10 f / 2 ^ (36 - 4 * i) % 16)).toBitVec.toNat = (lN 0).toBitVec.toNat := this
      rw [q_lnat (by omega), q_lnat (by decide)] at this
      exact this
    rw [q_land]
    have h2 : E 10 f &&& 15 * 2 ^ (36 - 4 * i) = 0 := by
      refine Nat.eq_of_testBit_eq (fun b => ?_)
      rw [Nat.testBit_and, Nat.zero_testBit, Nat.mul_comm, Nat.testBit_two_pow_mul]
      by_cases c : 36 - 4 * i ≤ b
      · rw [decide_eq_true c, Bool.true_and]
        by_cases c2 : b - (36 - 4 * i) < 4
        · have h3 : (E 10 f / 2 ^ (36 - 4 * i) % 2 ^ 4).testBit (b - (36 - 4 * i)) = false := by
            rw [show (2 : Nat) ^ 4 = 16 from rfl, h1, Nat.zero_testBit]
          rw [Nat.testBit_mod_two_pow, decide_eq_true c2, Bool.true_and, Nat.testBit_div_two_pow, show b - (36 - 4 * i) + (36 - 4 * i) = b by omega] at h3
          rw [h3]; rfl
        · have h4 : (15 : Nat).testBit (b - (36 - 4 * i)) = false := Nat.testBit_lt_two_pow (Nat.lt_of_lt_of_le (show 15 < 2 ^ 4 by decide) (Nat.pow_le_pow_right (by decide) (by omega)))
          rw [h4, Bool.and_false]
      · rw [decide_eq_false c, Bool.false_and, Bool.and_false]
    rw [h2]; rfl
  rw [l_clr hz, nI_l (by omega), tz_or hf hi h0 hv]
/-- the points of a set first, in their order, then the others -/
def hg (s n : Nat) (x : Nat) : Nat := if x < n then (if s.testBit x = true then cT (fun i => s.testBit i) x else cT (fun i => s.testBit i) n + cT (fun i => !s.testBit i) x) else x
theorem hg_P (s : Nat) : IsP n (hg s n) := by
  have ht : ∀ x, x < n → s.testBit x = true → hg s n x = cT (fun i => s.testBit i) x := fun x hx hb => by unfold hg; rw [if_pos hx, if_pos hb]
  have hf : ∀ x, x < n → s.testBit x = false → hg s n x = cT (fun i => s.testBit i) n + cT (fun i => !s.testBit i) x := fun x hx hb => by unfold hg; rw [if_pos hx, if_neg (by rw [hb]; decide)]
  have hn := cT_not (fun i => s.testBit i) n
  have hlt : ∀ x, x < n → hg s n x < n := fun x hx => by
    cases hb : s.testBit x
    · rw [hf x hx hb]
      have := cT_lt (fun i => !s.testBit i) hx (by rw [hb]; rfl)
      omega
    · rw [ht x hx hb]
      have := cT_lt (fun i => s.testBit i) hx hb
      have := cT_le (fun i => s.testBit i) n
      omega
  refine ⟨hlt, fun x hx => by unfold hg; rw [if_neg (by omega)], fun x y e => ?_⟩
  by_cases hx : x < n
  · by_cases hy : y < n
    · cases hb : s.testBit x
      · cases hc : s.testBit y
        · rw [hf x hx hb, hf y hy hc] at e
          exact cT_inj (fun i => !s.testBit i) (by rw [hb]; rfl) (by rw [hc]; rfl) (by omega)
        · rw [hf x hx hb, ht y hy hc] at e
          have := cT_lt (fun i => s.testBit i) hy hc
          omega
      · cases hc : s.testBit y
        · rw [ht x hx hb, hf y hy hc] at e
          have := cT_lt (fun i => s.testBit i) hx hb
          omega
        · rw [ht x hx hb, ht y hy hc] at e
          exact cT_inj (fun i => s.testBit i) hb hc e
    · have h1 := hlt x hx
      have h2 : hg s n y = y := by unfold hg; rw [if_neg hy]
      omega
  · have h2 : hg s n x = x := by unfold hg; rw [if_neg hx]
    by_cases hy : y < n
    · have h1 := hlt y hy; omega
    · have h3 : hg s n y = y := by unfold hg; rw [if_neg hy]
      omega
theorem ch18 {s : Nat} (hn : n ≤ 10) (hs : s < 2 ^ n) (h6 : I 6 0 = nI n) (k0 : Int64 → Option (Int32 × Mm)) : f_X2_countHolding_18 (nI s) (nI (cT (fun i => s.testBit i) n)) I L k0 FU 0 0 (nI (cT (fun i => s.testBit i) n)) 0 = k0 (tn n (hg s n)) := by
  have h2n := (two_n hn).2
  have hP := hg_P (n := n) s
  have hcn := cT_le (fun i => s.testBit i) n
  have hf : ∀ i x, (fun x => if x < i then cn n (hg s n) x else 0) x < 16 := fun i x => by
    dsimp only
    split
    · unfold cn
      split
      · have := hP.1 x (by assumption); omega
      · omega
    · omega
  have := for0 (fun fu (z : Int64 × Int32 × Int32 × Int32) => f_X2_countHolding_18 (nI s) (nI (cT (fun i => s.testBit i) n)) I L k0 fu z.1 z.2.1 z.2.2.1 z.2.2.2) (fun i => (tz (fun x => if x < i then cn n (hg s n) x else 0), nI (cT (fun i => s.testBit i) i), nI (cT (fun i => s.testBit i) n + cT (fun i => !s.testBit i) i), nI i)) n (k0 (tn n (hg s n))) (by omega)
    (fun fu => by
      dsimp only
      rw [f_X2_countHolding_18, h6, if_pos (by rw [q_le (by omega) (by omega)]; omega)]
      have : (fun x => if x < n then cn n (hg s n) x else 0) = cn n (hg s n) := by
        funext x
        by_cases hx : x < n
        · rw [if_pos hx]
        · rw [if_neg hx]; unfold cn; rw [if_neg hx]
      rw [this]
      rfl)
    (fun fu i hi => by
      dsimp only
      have hgi := hP.1 i hi
      have e0 : (fun x => if x < i then cn n (hg s n) x else 0) i = 0 := if_neg (Nat.lt_irrefl i)
      have eu : us (fun x => if x < i then cn n (hg s n) x else 0) i (hg s n i) = (fun x => if x < i + 1 then cn n (hg s n) x else 0) := by
        funext x
        by_cases hx : x = i
        · subst hx
          rw [us_s, if_pos (by omega)]
          unfold cn
          rw [if_pos hi]
        · rw [us_n hx]
          by_cases h1 : x < i
          · rw [if_pos h1, if_pos (by omega)]
          · rw [if_neg h1, if_neg (by omega)]
      have wv : ∀ v, v = hg s n i → f_X6_with (tz (fun x => if x < i then cn n (hg s n) x else 0)) (nI i) (nI v) = some (tz (fun x => if x < i + 1 then cn n (hg s n) x else 0)) := fun v hv => by
        rw [hv, with_eq (hf i) (by omega) e0 (by omega), eu]
      rw [f_X2_countHolding_18, h6, if_neg (by rw [q_le (by omega) (by omega)]; omega), bnd_eq]
      dsimp only
      rw [ifc (q_bit0 (by omega) (by omega))]
      cases hb : s.testBit i
      · have hv : cT (fun i => s.testBit i) n + cT (fun i => !s.testBit i) i = hg s n i := by unfold hg; rw [if_pos hi, if_neg (by rw [hb]; decide)]
        rw [if_pos rfl, bnd_eq, bnd_eq]
        dsimp only
        rw [if_pos b2i_f, ob (wv _ hv), bnd_eq]
        dsimp only
        rw [if_pos b2i_f, bnd_eq, if_pos b2i_f, bnd_eq, bnd_eq, nI_1, nI_1, show b2i false = nI 0 from rfl, nI_add, cT_f (P := fun i => s.testBit i) hb, cT_t (P := fun i => !s.testBit i) (by rw [hb]; rfl)]
        rfl
      · have hv : cT (fun i => s.testBit i) i = hg s n i := by unfold hg; rw [if_pos hi, if_pos hb]
        rw [if_neg (by decide), bnd_eq, bnd_eq]
        dsimp only
        rw [if_neg b2i_t, ob (wv _ hv), bnd_eq]
        dsimp only
        rw [if_neg b2i_t, bnd_eq, if_neg b2i_t, bnd_eq, bnd_eq, nI_1, show b2i true = nI 1 from rfl, nI_add, show (0 : Int32) = nI 0 from rfl, nI_add, cT_t (P := fun i => s.testBit i) hb, cT_f (P := fun i => !s.testBit i) (by rw [hb]; rfl)]
        rfl)
  have e1 : tz (fun x => if x < 0 then cn n (hg s n) x else 0) = 0 := by
    have : (fun x => if x < 0 then cn n (hg s n) x else 0) = (fun _ => 0) := by funext x; rw [if_neg (by omega)]
    rw [this]; decide +kernel
  rw [e1, nI_0] at this
  exact this
end HO
