/-! Sets of points -/
section ST
variable {n m N rm : Nat} {mv : Nat → Nat → Nat} {st : Nat → Nat} {I : MI} {L : ML} {e : Nat → Nat → Nat} {p : Nat → Nat}
def sB (a : Int32) (n : Nat) : Bool := decide (1 ≤ a.toInt ∧ a.toInt < 2 ^ n)
theorem sB_t {a : Int32} (hn : n ≤ 10) (h : sB a n = true) : ∃ s, 1 ≤ s ∧ s < 2 ^ n ∧ a = nI s := by
  have h := of_decide_eq_true h
  have hg : ¬ a < 0 := fun g => by have := lt0 g; omega
  obtain ⟨j, hj, rfl⟩ := nI_of hg
  rw [nI_toInt hj] at h
  exact ⟨j, by omega, by exact_mod_cast h.2, rfl⟩
theorem two_n (hn : n ≤ 10) : 1 ≤ 2 ^ n ∧ 2 ^ n ≤ 1024 := ⟨Nat.two_pow_pos n, (Nat.pow_le_pow_right (by decide) hn : 2 ^ n ≤ 2 ^ 10)⟩
theorem isSet_eq (h43 : I 43 2 = nI n) (hn : n ≤ 10) (a : Int32) : f_X8_isSet a I L = some (sB a n) := by
  obtain ⟨h1, h2⟩ := two_n hn
  unfold f_X8_isSet
  rw [h43, q_shl1 (by omega), show (1 : Int64) = (1 : Int32).toInt64 by decide, isIn_eq, show (1 : Int32) = nI 1 from rfl, pk_sub (by omega), nI_toInt (by decide), nI_toInt (by omega), obs]
  unfold sB
  congr 1
  have : ((2 ^ n - 1 : Nat) : Int) = (2 : Int) ^ n - 1 := by
    have : ((2 ^ n : Nat) : Int) = (2 : Int) ^ n := by norm_cast
    omega
  rw [this]
  congr 1
  apply propext
  omega
theorem msk {a : Int32} (hn : n ≤ 10) : (a &&& (nI (2 ^ n - 1) ^^^ (-1))) = 0 ↔ a.toBitVec.toNat < 2 ^ n := by
  have e1 : (a &&& (nI (2 ^ n - 1) ^^^ (-1))).toBitVec = a.toBitVec &&& (BitVec.ofNat 32 (2 ^ n - 1) ^^^ BitVec.allOnes 32) := rfl
  have hb : ∀ i, (a.toBitVec &&& (BitVec.ofNat 32 (2 ^ n - 1) ^^^ BitVec.allOnes 32)).getLsbD i = (a.toBitVec.toNat.testBit i && (decide (i < 32) && !decide (i < n))) := fun i => by
    rw [BitVec.getLsbD_and, BitVec.getLsbD_xor, BitVec.getLsbD_ofNat, BitVec.getLsbD_allOnes, Nat.testBit_two_pow_sub_one]
    show (a.toBitVec.toNat.testBit i && _) = _
    by_cases h1 : i < 32 <;> by_cases h2 : i < n <;> simp [h1, h2]
  constructor
  · intro h
    have h0 : a.toBitVec &&& (BitVec.ofNat 32 (2 ^ n - 1) ^^^ BitVec.allOnes 32) = 0#32 := by rw [← e1, h]; rfl
    refine Nat.lt_pow_two_of_testBit _ (fun i hi => ?_)
    have := hb i
    rw [h0, BitVec.getLsbD_zero, decide_eq_false (by omega : ¬ i < n)] at this
    by_cases h32 : i < 32
    · rw [decide_eq_true h32] at this
      simpa using this.symm
    · exact Nat.testBit_lt_two_pow (Nat.lt_of_lt_of_le a.toBitVec.isLt (Nat.pow_le_pow_right (by decide) (by omega)))
  · intro h
    apply Int32.toBitVec_inj.mp
    rw [e1]
    refine BitVec.eq_of_getLsbD_eq (fun i hi => ?_)
    rw [hb i, show (Int32.toBitVec 0) = 0#32 from rfl, BitVec.getLsbD_zero]
    by_cases h1 : i < n
    · rw [decide_eq_true h1]; simp
    · rw [Nat.testBit_lt_two_pow (Nat.lt_of_lt_of_le h (Nat.pow_le_pow_right (by decide) (by omega)))]; rfl
theorem neg_nat {a : Int32} (h : a < 0) : 2 ^ 31 ≤ a.toBitVec.toNat := by
  have h1 := lt0 h
  have h2 : a.toInt = a.toBitVec.toInt := rfl
  rw [h2, BitVec.toInt_eq_toNat_cond] at h1
  have := a.toBitVec.isLt
  split at h1 <;> omega
theorem hasSet_eq (h6 : I 6 0 = nI n) (hn : n ≤ 10) (a : Int32) : f_X2_hasSet a I L = some (sB a n) := by
  obtain ⟨h1, h2⟩ := two_n hn
  unfold f_X2_hasSet sB
  have e9 : nI (2 ^ n) - 1 = nI (2 ^ n - 1) := pk_sub (b := 1) h1
  rw [h6, q_shl1 (by omega), e9]
  have hc : ((2 ^ n : Nat) : Int) = (2 : Int) ^ n := by norm_cast
  by_cases h0 : a = 0
  · rw [if_pos h0, decide_eq_false (by rw [h0, show (0 : Int32).toInt = 0 by decide]; omega)]
  · rw [if_neg h0]
    by_cases hneg : a < 0
    · have k1 := neg_nat hneg
      have k2 := lt0 hneg
      rw [if_neg (fun g => by have := (msk hn).mp g; omega), decide_eq_false (by omega)]
    · obtain ⟨j, hj, rfl⟩ := nI_of hneg
      have e1 : (nI j).toBitVec.toNat = j := by
        show j % 2 ^ 32 = j
        omega
      have hj0 : j ≠ 0 := fun g => h0 (by rw [g]; rfl)
      rw [nI_toInt hj]
      by_cases g : j < 2 ^ n
      · rw [if_pos ((msk hn).mpr (by rw [e1]; exact g)), decide_eq_true (by omega)]
      · rw [if_neg (fun k => by have := (msk hn).mp k; rw [e1] at this; omega), decide_eq_false (by omega)]
theorem takesInto_eq {s t : Nat} {c : Bool} (hn : n ≤ 10) (hp : IsP n p) (h11 : I 69 11 = nI n) (hs : s < 2 ^ n) (ht : t < 2 ^ n) (hc : c = true ↔ ∀ i, i < n → s.testBit i = true → t.testBit (p i) = true) : f_X4_takesInto rm (tn n p) (nI s) (nI t) I L = some c := by
  obtain ⟨h1, h2⟩ := two_n hn
  unfold f_X4_takesInto
  have := loop0 (fun fu z => f_X4_takesInto_3 rm (tn n p) (nI s) (nI t) I L fu z) (fun j z => j ≤ n ∧ z = nI j ∧ ∀ i, i < j → s.testBit i = true → t.testBit (p i) = true) (fun o => o = some c) n (by omega) (nI 0) ⟨Nat.zero_le _, rfl, fun i hi => by omega⟩
    (fun fu j z hj hP => by
      obtain ⟨_, p1, p2⟩ := hP
      subst p1
      rw [f_X4_takesInto_3, h11, ifc (q_le (by omega) (by omega))]
      by_cases c1 : n ≤ j
      · left
        rw [if_pos c1, hc.mpr (fun i hi => p2 i (by omega))]
      · rw [if_neg c1, ifc (q_bit0 (by omega) (by omega))]
        cases hb : s.testBit j
        · right
          refine ⟨by omega, nI (j + 1), ?_, by omega, rfl, fun i hi hs2 => ?_⟩
          · rw [if_pos rfl, bnd_eq, nI_1]
          · by_cases e1 : i = j
            · subst e1; rw [hb] at hs2; cases hs2
            · exact p2 i (by omega) hs2
        · have hpj := hp.1 j (by omega)
          rw [if_neg (by decide), ob (tn_img hn hp (show j < n by omega)), ifc (q_bit0 (by omega) (by omega))]
          cases hb2 : t.testBit (p j)
          · left
            rw [if_pos rfl]
            cases c
            · rfl
            · have := hc.mp rfl j (by omega) hb
              rw [hb2] at this; cases this
          · right
            refine ⟨by omega, nI (j + 1), ?_, by omega, rfl, fun i hi hs2 => ?_⟩
            · rw [if_neg (by decide), bnd_eq, nI_1]
            · by_cases e1 : i = j
              · subst e1; exact hb2
              · exact p2 i (by omega) hs2)
  rw [nI_0] at this
  exact this
theorem imageOf_eq {s a : Nat} (hn : n ≤ 10) (hp : IsP n p) (hr : Row I a 0 p) (hs : s < 2 ^ n) : ∃ u, f_X8_imageOf a (nI s) I L = some (nI u) ∧ u < 2 ^ n ∧ (∀ i, i < n → s.testBit i = u.testBit (p i)) ∧ cnS n u = cnS n s := by
  obtain ⟨h1, h2⟩ := two_n hn
  unfold f_X8_imageOf
  have := loop0 (fun fu z => f_X8_imageOf_4 a (nI s) I L fu z.1 z.2) (fun j z => j ≤ 10 ∧ z.2 = nI j ∧ ∃ u, z.1 = nI u ∧ u < 2 ^ n ∧ ∀ y, u.testBit y = true ↔ ∃ i, i < j ∧ s.testBit i = true ∧ p i = y) (fun o => ∃ u, o = some (nI u) ∧ u < 2 ^ n ∧ (∀ i, i < n → s.testBit i = u.testBit (p i)) ∧ cnS n u = cnS n s) 10 (by decide) (nI 0, nI 0) ⟨by decide, rfl, 0, rfl, by omega, fun y => by rw [Nat.zero_testBit]; exact ⟨(fun h => by cases h), fun ⟨i, hi, _⟩ => by omega⟩⟩
    (fun fu j z hj hP => by
      obtain ⟨z1, z2⟩ := z
      obtain ⟨_, p1, u, p2, p3, p4⟩ := hP
      dsimp only at p1 p2 ⊢
      subst p1 p2
      rw [f_X8_imageOf_4, show (10 : Int32) = nI 10 from rfl, ifc (q_le (by decide) (by omega))]
      by_cases c1 : 10 ≤ j
      · left
        rw [if_pos c1]
        have key : ∀ i, i < n → s.testBit i = u.testBit (p i) := fun i hi => by
          rw [Bool.eq_iff_iff, p4 (p i)]
          exact ⟨fun g => ⟨i, by omega, g, rfl⟩, fun ⟨i', _, g1, g2⟩ => by rw [← hp.2.2 i' i g2]; exact g1⟩
        refine ⟨u, rfl, p3, key, ?_⟩
        unfold cnS
        rw [← cT_perm (P := fun x => u.testBit x) hn hp]
        exact cT_ext n (fun i hi => (key i hi).symm)
      · right
        rw [if_neg c1, ob (bit_eq (by omega) (by omega))]
        cases hb : s.testBit j
        · refine ⟨by omega, (nI u, nI (j + 1)), ?_, by omega, rfl, u, rfl, p3, fun y => (p4 y).trans ⟨fun ⟨i, hi, g⟩ => ⟨i, by omega, g⟩, fun ⟨i, hi, g1, g2⟩ => ?_⟩⟩
          · rw [if_pos b2i_f, bnd_eq, bnd_eq, nI_1, show (0 : Int32) = nI 0 from rfl, q_or, Nat.or_zero]
          · by_cases e1 : i = j
            · subst e1; rw [hb] at g1; cases g1
            · exact ⟨i, by omega, g1, g2⟩
        · have hjn := tb_lt hs hb
          have hpj := hp.1 j hjn
          refine ⟨by omega, (nI (u ||| 2 ^ p j), nI (j + 1)), ?_, by omega, rfl, _, rfl, Nat.or_lt_two_pow p3 (Nat.pow_lt_pow_right (by decide) hpj), fun y => ?_⟩
          · rw [if_neg b2i_t, q_chk (by omega) (by decide), bnd_eq, bnd_eq, q_ix (by omega), Row0 hr (by omega), q_shl1 (by omega), q_or, nI_1]
          · rw [Nat.testBit_or, Bool.or_eq_true, p4 y, tb2p]
            constructor
            · intro g
              rcases g with ⟨i, hi, g⟩ | g
              · exact ⟨i, by omega, g⟩
              · exact ⟨j, by omega, hb, g.symm⟩
            · intro ⟨i, hi, g1, g2⟩
              by_cases e1 : i = j
              · right; rw [← g2, e1]
              · left; exact ⟨i, by omega, g1, g2⟩)
  rw [nI_0] at this
  exact this
theorem img_iff {s t u : Nat} (hn : n ≤ 10) (hp : IsP n p) (ht : t < 2 ^ n) (hu : u < 2 ^ n) (h : ∀ i, i < n → s.testBit i = u.testBit (p i)) (hc : cnS n u = cnS n s) : u = t ↔ (cnS n s = cnS n t ∧ ∀ i, i < n → s.testBit i = true → t.testBit (p i) = true) := by
  constructor
  · intro g
    subst g
    exact ⟨hc.symm, fun i hi g => by rw [← h i hi]; exact g⟩
  · intro ⟨g1, g2⟩
    refine Classical.byContradiction fun hne => ?_
    have := cnS_lt ht (s := u) (fun y hy => by
      have hy2 := tb_lt hu hy
      have e1 : p (iv p y) = y := iv_r hn hp y
      have hiv : iv p y < n := (IsP_iv hn hp).1 y hy2
      have := g2 (iv p y) hiv (by rw [h _ hiv, e1]; exact hy)
      rw [e1] at this
      exact this) hne
    omega
theorem countKeeping_eq {s : Nat} {B : Nat → Bool} (hn : n ≤ 10) (hG : Sub n (Gp n m mv)) (he : EL n (Gp n m mv) N e) (hL : Lst I L rm n N e) (hs : s < 2 ^ n) (hB : ∀ x, x < N → (B x = true ↔ ∀ i, i < n → s.testBit i = true → s.testBit (e x i) = true)) : f_X4_countKeeping rm (nI s) I L = some (nI (cT B N)) := by
  have l3 := hL.2.2.2.1
  have l4 := hL.2.2.2.2.1
  unfold f_X4_countKeeping
  have := for0 (fun fu z => f_X4_countKeeping_4 rm (nI s) I L fu z.1 z.2) (fun i => (nI (cT B i), nI i)) N (some (nI (cT B N))) (by omega)
    (fun fu => by
      dsimp only
      rw [f_X4_countKeeping_4, hL.2.1, if_pos (by rw [q_le (by omega) (by omega)]; omega)])
    (fun fu i hi => by
      dsimp only
      rw [f_X4_countKeeping_4, hL.2.1, if_neg (by rw [q_le (by omega) (by omega)]; omega), q_chk (by omega) (by omega), q_ix (by omega), hL.2.2.2.2.2 i hi, ob (takesInto_eq hn (EL_P hG he hi) hL.2.2.1 hs hs (hB i hi))]
      cases c : B i
      · rw [if_pos b2i_f, bnd_eq, nI_1, cT_f c]
      · rw [if_neg b2i_t, bnd_eq, bnd_eq, nI_1, nI_1, cT_t c])
  rw [nI_0] at this
  exact this
theorem keeps34_eq {s : Nat} {B : Nat → Bool} (hO : OKm n m mv st) (he : EL n (Gp n m mv) N e) (hN : N ≤ 5040) (hA : AD I n m mv st N e) (hs : s < 2 ^ n) (hB : ∀ x, x < N → (B x = true ↔ ∀ i, i < n → s.testBit i = true → s.testBit (e x i) = true)) : ∃ I', f_X8_keeps_34 (nI s) FU 0 0 I L = some (nI (cT B N), I', L) ∧ Fr [46] I I' := by
  have hn := hO.1
  have hG := Gp_Sub hn hO.2.2.1
  obtain ⟨t1, t2⟩ := two_n hn
  have := loop0 (fun fu (z : Int32 × Int32 × MI × ML) => f_X8_keeps_34 (nI s) fu z.1 z.2.1 z.2.2.1 z.2.2.2) (fun i z => i ≤ N ∧ z.1 = nI (cT B i) ∧ z.2.1 = nI i ∧ z.2.2.2 = L ∧ Fr [46] I z.2.2.1) (fun o => ∃ I', o = some (nI (cT B N), I', L) ∧ Fr [46] I I') N (by omega) (nI 0, nI 0, I, L) ⟨Nat.zero_le _, rfl, rfl, rfl, Fr.refl⟩
    (fun fu i z hi hP => by
      obtain ⟨z1, z2, K, M⟩ := z
      obtain ⟨_, p1, p2, p3, p4⟩ := hP
      dsimp only at p1 p2 p3 p4 ⊢
      subst p1 p2 p3
      have A := hA.fr p4 (by decide)
      rw [f_X8_keeps_34, A.2.1, ifc (q_le (by omega) (by omega))]
      by_cases c1 : N ≤ i
      · left
        rw [if_pos c1, show i = N by omega]
        exact ⟨K, rfl, p4⟩
      · right
        have eP := EL_P hG he (show i < N by omega)
        have f1 : Fr [46] I (wp K 46 0 (e i)) := p4.trans (Fr_wp (by decide))
        obtain ⟨u, u1, u2, u3, u4⟩ := imageOf_eq (I := wp K 46 0 (e i)) (L := M) (a := 46) hn eP Row_wp hs
        have hk : u = s ↔ B i = true := ((img_iff hn eP hs u2 u3 u4).trans ⟨fun g => g.2, fun g => ⟨rfl, g⟩⟩).trans (hB i (by omega)).symm
        rw [if_neg c1, ob (laysOne_eq hN A.2.2 (show i < N by omega) (by decide)), ob u1, ifc (q_eq (by omega) (by omega))]
        cases c : B i
        · refine ⟨by omega, (nI (cT B (i + 1)), nI (i + 1), wp K 46 0 (e i), M), ?_, by omega, rfl, rfl, rfl, f1⟩
          rw [if_neg (fun g => by rw [hk.mp g] at c; cases c), bnd_eq, bnd_eq, nI_1, show (0 : Int32) = nI 0 from rfl, nI_add, cT_f c]
          rfl
        · refine ⟨by omega, (nI (cT B (i + 1)), nI (i + 1), wp K 46 0 (e i), M), ?_, by omega, rfl, rfl, rfl, f1⟩
          rw [if_pos (hk.mpr c), bnd_eq, bnd_eq, nI_1, nI_1, cT_t c])
  rw [nI_0] at this
  exact this
theorem wS_2 : f_X8_whySmall 2 I L = some (2, I, L) := rfl
theorem PR_42h : PR_42 Inv := by
  intro I L rm a ⟨n, m, mv, st, h⟩
  obtain ⟨hO, hC, hR, hP, hT, hU, hF, hS⟩ := id h
  have hn := hO.1
  have hG := Gp_Sub hn hO.2.2.1
  obtain ⟨N, e, he⟩ := EL_ex hn hG
  have hu := hurdle_eq hO hC he
  cases hb : sB a n
  · refine ⟨-1, up2 I 0 6 2, L, rm, ?_, RS_r, is8 (up2 I 0 6 2) 2, L, ?_, IV_q h (Q8_is (a := 2)) (RDY_is (RDY_s hR)) is8_0⟩
    · simp (config := { decide := true }) only [f_X7_keeps, hasSet_eq hC.1 hn a, hb, obs, bnd_eq, is_0, is_1, is_2, is_3, is_4, is_5, is_6, is_9, tell_eq, refuse_eq, refuse8_eq, b2i_1, b2i_0, if_true, if_false, ↓reduceIte]
    · simp (config := { decide := true }) only [f_X8_keeps, isSet_eq (RDY_s (s := 2) hR).1 hn a, hb, wS_2, obs, bnd_eq, is_0, is_1, is_2, is_3, is_4, is_5, is_6, is_9, tell_eq, refuse_eq, refuse8_eq, b2i_1, b2i_0, if_true, if_false, ↓reduceIte]
  · have hs1 : ∀ s : Int32, f_X8_isSet a (up2 I 0 6 s) L = some true := fun s => by rw [isSet_eq (RDY_s (s := s) hR).1 hn a, hb]
    have hs2 := hasSet_eq (L := L) hC.1 hn a
    rw [hb] at hs2
    obtain ⟨s, s1, s2, rfl⟩ := sB_t hn hb
    rcases hz_3 n N with hz | hz | hz
    · obtain ⟨hN, hn0⟩ := hz_N hz
      rw [hz] at hu
      obtain ⟨I1, L1, rm1, a1, a2⟩ := all_eq hO hC he hN
      obtain ⟨B, hB⟩ := dec_ex (fun x => ∀ i, i < n → s.testBit i = true → s.testBit (e x i) = true)
      obtain ⟨J, I3, w1, w2, w3, w4, w5, _⟩ := ref_l (L := L1) hO (RDY_a (s := 0) a2 hR) he hz hN
      obtain ⟨I4, x1, x2⟩ := keeps34_eq (L := L1) hO he hN w3 s2 (fun x _ => hB x)
      have hs3 := isSet_eq (L := L1) (RDY_a (s := 0) a2 hR).1 hn (nI s)
      rw [hb] at hs3
      refine ⟨nI (cT B N), up2 I1 0 6 0, L1, rm1, ?_, a2.1, I4, L1, ?_, IV_a h a2 (w4.trans (Q8_fr x2 (by decide))) (w3.fr x2 (by decide)).1.rdy (by rw [x2 43 (by decide)]; exact w5)⟩
      · simp (config := { decide := true }) only [f_X7_keeps, hs2, hu, nI_0, a1, a2.kA, a2.kB, countKeeping_eq hn hG he a2.2.2.2.2.1 s2 (fun x _ => hB x), obs, bnd_eq, is_0, is_1, is_2, is_3, is_4, is_5, is_6, is_9, tell_eq, refuse_eq, refuse8_eq, b2i_1, b2i_0, if_true, if_false, ↓reduceIte]
      · simp (config := { decide := true }) only [f_X8_keeps, hs3, w1, w2, x1, obs, bnd_eq, is_0, is_1, is_2, is_3, is_4, is_5, is_6, is_9, tell_eq, refuse_eq, refuse8_eq, b2i_1, b2i_0, if_true, if_false, ↓reduceIte]
    · rw [hz] at hu
      obtain ⟨I2, b1, b2, b3, b4⟩ := wS (L := L) hO (RDY_s (s := 5) hR) he hz
      refine ⟨-1, up2 I 0 6 5, L, rm, ?_, RS_r, is8 I2 5, L, ?_, IV_q h (b3.trans Q8_is) (RDY_is b2) is8_0⟩
      · simp (config := { decide := true }) only [f_X7_keeps, hs2, hu, show nI 5 = 5 from rfl, obs, bnd_eq, is_0, is_1, is_2, is_3, is_4, is_5, is_6, is_9, tell_eq, refuse_eq, refuse8_eq, b2i_1, b2i_0, if_true, if_false, ↓reduceIte]
      · simp (config := { decide := true }) only [f_X8_keeps, hs1, b1, show nI 5 = 5 from rfl, obs, bnd_eq, is_0, is_1, is_2, is_3, is_4, is_5, is_6, is_9, tell_eq, refuse_eq, refuse8_eq, b2i_1, b2i_0, if_true, if_false, ↓reduceIte]
    · rw [hz] at hu
      obtain ⟨I2, b1, b2, b3, b4⟩ := wS (L := L) hO (RDY_s (s := 3) hR) he hz
      refine ⟨-1, up2 I 0 6 3, L, rm, ?_, RS_r, is8 I2 3, L, ?_, IV_q h (b3.trans Q8_is) (RDY_is b2) is8_0⟩
      · simp (config := { decide := true }) only [f_X7_keeps, hs2, hu, show nI 3 = 3 from rfl, obs, bnd_eq, is_0, is_1, is_2, is_3, is_4, is_5, is_6, is_9, tell_eq, refuse_eq, refuse8_eq, b2i_1, b2i_0, if_true, if_false, ↓reduceIte]
      · simp (config := { decide := true }) only [f_X8_keeps, hs1, b1, show nI 3 = 3 from rfl, obs, bnd_eq, is_0, is_1, is_2, is_3, is_4, is_5, is_6, is_9, tell_eq, refuse_eq, refuse8_eq, b2i_1, b2i_0, if_true, if_false, ↓reduceIte]
theorem firstBringing15 {s t : Nat} {B : Nat → Bool} (hn : n ≤ 10) (hG : Sub n (Gp n m mv)) (he : EL n (Gp n m mv) N e) (hL : Lst I L rm n N e) (hs : s < 2 ^ n) (ht : t < 2 ^ n) (hB : ∀ x, x < N → (B x = true ↔ ∀ i, i < n → s.testBit i = true → t.testBit (e x i) = true)) : ∃ r, f_X4_firstBringing_15 rm (nI s) (nI t) I L FU 0 = some r ∧ ((∃ x, x < N ∧ B x = true ∧ (∀ y, y < x → B y = false) ∧ r = nI x) ∨ ((∀ y, y < N → B y = false) ∧ r = -1)) := by
  have l3 := hL.2.2.2.1
  have l4 := hL.2.2.2.2.1
  have := loop0 (fun fu z => f_X4_firstBringing_15 rm (nI s) (nI t) I L fu z) (fun i z => i ≤ N ∧ z = nI i ∧ ∀ y, y < i → B y = false) (fun o => ∃ r, o = some r ∧ ((∃ x, x < N ∧ B x = true ∧ (∀ y, y < x → B y = false) ∧ r = nI x) ∨ ((∀ y, y < N → B y = false) ∧ r = -1))) N (by omega) (nI 0) ⟨Nat.zero_le _, rfl, fun y hy => by omega⟩
    (fun fu i z hi hP => by
      obtain ⟨_, p1, p2⟩ := hP
      subst p1
      rw [f_X4_firstBringing_15, hL.2.1, ifc (q_le (by omega) (by omega))]
      by_cases c1 : N ≤ i
      · left
        rw [if_pos c1]
        exact ⟨-1, rfl, Or.inr ⟨fun y hy => p2 y (by omega), rfl⟩⟩
      · rw [if_neg c1, q_chk (by omega) (by omega), q_ix (by omega), hL.2.2.2.2.2 i (by omega), ob (takesInto_eq hn (EL_P hG he (by omega)) hL.2.2.1 hs ht (hB i (by omega)))]
        cases c : B i
        · right
          refine ⟨by omega, nI (i + 1), ?_, by omega, rfl, fun y hy => ?_⟩
          · rw [if_pos b2i_f, bnd_eq, nI_1]
          · by_cases e1 : y = i
            · rw [e1]; exact c
            · exact p2 y (by omega)
        · left
          rw [if_neg b2i_t]
          exact ⟨_, rfl, Or.inl ⟨i, by omega, c, p2, rfl⟩⟩)
  rw [nI_0] at this
  exact this
theorem firstBringing_eq {s t : Nat} {B : Nat → Bool} (hn : n ≤ 10) (hG : Sub n (Gp n m mv)) (he : EL n (Gp n m mv) N e) (hL : Lst I L rm n N e) (hs : s < 2 ^ n) (ht : t < 2 ^ n) (hB : ∀ x, x < N → (B x = true ↔ (cnS n s = cnS n t ∧ ∀ i, i < n → s.testBit i = true → t.testBit (e x i) = true))) : ∃ r, f_X4_firstBringing rm (nI s) (nI t) I L = some r ∧ ((∃ x, x < N ∧ B x = true ∧ (∀ y, y < x → B y = false) ∧ r = nI x) ∨ ((∀ y, y < N → B y = false) ∧ r = -1)) := by
  obtain ⟨t1, t2⟩ := two_n hn
  have bc : ∀ s, s < 2 ^ n → f_J6_bitCount_0f7a4 (nI s) = some (nI (cnS n s)) := fun s hs => by
    rw [bitCount_all s (by omega)]
    unfold cnS
    rw [cT_more 10 hn (fun i hi => Nat.testBit_lt_two_pow (Nat.lt_of_lt_of_le hs (Nat.pow_le_pow_right (by decide) hi)))]
  have l1 : cnS n s ≤ n := cT_le _ _
  have l2 : cnS n t ≤ n := cT_le _ _
  unfold f_X4_firstBringing
  rw [ob (bc s hs), ob (bc t ht), ifc (q_eq (by omega) (by omega))]
  by_cases c : cnS n s = cnS n t
  · rw [if_pos c]
    exact firstBringing15 hn hG he hL hs ht (fun x hx => (hB x hx).trans ⟨fun g => g.2, fun g => ⟨c, g⟩⟩)
  · rw [if_neg c]
    refine ⟨-1, rfl, Or.inr ⟨fun y hy => ?_, rfl⟩⟩
    cases hb : B y
    · rfl
    · exact absurd ((hB y hy).mp hb).1 c
theorem brings40_eq {s t : Nat} {B : Nat → Bool} (hO : OKm n m mv st) (he : EL n (Gp n m mv) N e) (hN : N ≤ 5040) (hA : AD I n m mv st N e) (hs : s < 2 ^ n) (ht : t < 2 ^ n) (hB : ∀ x, x < N → (B x = true ↔ (cnS n s = cnS n t ∧ ∀ i, i < n → s.testBit i = true → t.testBit (e x i) = true))) (k0 : MI → ML → Option (Int32 × Mm)) : ∃ I', Fr [46] I I' ∧ ((∃ x, x < N ∧ B x = true ∧ (∀ y, y < x → B y = false) ∧ f_X8_brings_40 (nI s) (nI t) k0 FU 0 I L = some (nI x, I', L)) ∨ ((∀ y, y < N → B y = false) ∧ f_X8_brings_40 (nI s) (nI t) k0 FU 0 I L = k0 I' L)) := by
  have hn := hO.1
  have hG := Gp_Sub hn hO.2.2.1
  obtain ⟨t1, t2⟩ := two_n hn
  have := loop0 (fun fu (z : Int32 × MI × ML) => f_X8_brings_40 (nI s) (nI t) k0 fu z.1 z.2.1 z.2.2) (fun i z => i ≤ N ∧ z.1 = nI i ∧ z.2.2 = L ∧ Fr [46] I z.2.1 ∧ ∀ y, y < i → B y = false) (fun o => ∃ I', Fr [46] I I' ∧ ((∃ x, x < N ∧ B x = true ∧ (∀ y, y < x → B y = false) ∧ o = some (nI x, I', L)) ∨ ((∀ y, y < N → B y = false) ∧ o = k0 I' L))) N (by omega) (nI 0, I, L) ⟨Nat.zero_le _, rfl, rfl, Fr.refl, fun y hy => by omega⟩
    (fun fu i z hi hP => by
      obtain ⟨z1, K, M⟩ := z
      obtain ⟨_, p1, p2, p4, p5⟩ := hP
      dsimp only at p1 p2 p4 ⊢
      subst p1 p2
      have A := hA.fr p4 (by decide)
      rw [f_X8_brings_40, A.2.1, ifc (q_le (by omega) (by omega))]
      by_cases c1 : N ≤ i
      · left
        rw [if_pos c1]
        exact ⟨K, p4, Or.inr ⟨fun y hy => p5 y (by omega), rfl⟩⟩
      · have eP := EL_P hG he (show i < N by omega)
        have f1 : Fr [46] I (wp K 46 0 (e i)) := p4.trans (Fr_wp (by decide))
        obtain ⟨u, u1, u2, u3, u4⟩ := imageOf_eq (I := wp K 46 0 (e i)) (L := M) (a := 46) hn eP Row_wp hs
        have hk : u = t ↔ B i = true := (img_iff hn eP ht u2 u3 u4).trans (hB i (by omega)).symm
        rw [if_neg c1, ob (laysOne_eq hN A.2.2 (show i < N by omega) (by decide)), ob u1, ifc (q_eq (by omega) (by omega))]
        cases c : B i
        · right
          refine ⟨by omega, (nI (i + 1), wp K 46 0 (e i), M), ?_, by omega, rfl, rfl, f1, fun y hy => ?_⟩
          · rw [if_neg (fun g => by rw [hk.mp g] at c; cases c), bnd_eq, nI_1]
          · by_cases e1 : y = i
            · rw [e1]; exact c
            · exact p5 y (by omega)
        · left
          rw [if_pos (hk.mpr c)]
          exact ⟨_, f1, Or.inl ⟨i, by omega, c, p5, rfl⟩⟩)
  rw [nI_0] at this
  exact this
theorem PR_43h : PR_43 Inv := by
  intro I L rm a b ⟨n, m, mv, st, h⟩
  obtain ⟨hO, hC, hR, hP, hT, hU, hF, hS⟩ := id h
  have hn := hO.1
  have hG := Gp_Sub hn hO.2.2.1
  obtain ⟨N, e, he⟩ := EL_ex hn hG
  have hu := hurdle_eq hO hC he
  have hs2 := hasSet_eq (L := L) hC.1 hn a
  have hs4 := hasSet_eq (L := L) hC.1 hn b
  have hs1 : ∀ s : Int32, f_X8_isSet a (up2 I 0 6 s) L = some (sB a n) := fun s => isSet_eq (RDY_s (s := s) hR).1 hn a
  have hs3 : ∀ s : Int32, f_X8_isSet b (up2 I 0 6 s) L = some (sB b n) := fun s => isSet_eq (RDY_s (s := s) hR).1 hn b
  cases hb : sB a n
  · refine ⟨-1, up2 I 0 6 2, L, rm, ?_, RS_r, is8 (up2 I 0 6 2) 2, L, ?_, IV_q h (Q8_is (a := 2)) (RDY_is (RDY_s hR)) is8_0⟩
    · simp (config := { decide := true }) only [f_X7_brings, hs2, hb, obs, bnd_eq, is_0, is_1, is_2, is_3, is_4, is_5, is_6, is_9, tell_eq, refuse_eq, refuse8_eq, b2i_1, b2i_0, if_true, if_false, ↓reduceIte]
    · simp (config := { decide := true }) only [f_X8_brings, hs1, hb, wS_2, obs, bnd_eq, is_0, is_1, is_2, is_3, is_4, is_5, is_6, is_9, tell_eq, refuse_eq, refuse8_eq, b2i_1, b2i_0, if_true, if_false, ↓reduceIte]
  · cases hb2 : sB b n
    · refine ⟨-1, up2 I 0 6 2, L, rm, ?_, RS_r, is8 (up2 I 0 6 2) 2, L, ?_, IV_q h (Q8_is (a := 2)) (RDY_is (RDY_s hR)) is8_0⟩
      · simp (config := { decide := true }) only [f_X7_brings, hs2, hb, hs4, hb2, obs, bnd_eq, is_0, is_1, is_2, is_3, is_4, is_5, is_6, is_9, tell_eq, refuse_eq, refuse8_eq, b2i_1, b2i_0, if_true, if_false, ↓reduceIte]
      · simp (config := { decide := true }) only [f_X8_brings, hs1, hb, hs3, hb2, wS_2, obs, bnd_eq, is_0, is_1, is_2, is_3, is_4, is_5, is_6, is_9, tell_eq, refuse_eq, refuse8_eq, b2i_1, b2i_0, if_true, if_false, ↓reduceIte]
    · rw [hb] at hs1 hs2
      rw [hb2] at hs3 hs4
      rcases hz_3 n N with hz | hz | hz
      · obtain ⟨hN, hn0⟩ := hz_N hz
        rw [hz] at hu
        obtain ⟨I1, L1, rm1, a1, a2⟩ := all_eq hO hC he hN
        have hs5 : ∀ s : Int32, f_X8_isSet a (up2 I1 0 6 s) L1 = some true := fun s => by rw [isSet_eq (RDY_a (s := s) a2 hR).1 hn a, hb]
        have hs6 : ∀ s : Int32, f_X8_isSet b (up2 I1 0 6 s) L1 = some true := fun s => by rw [isSet_eq (RDY_a (s := s) a2 hR).1 hn b, hb2]
        obtain ⟨s, s1, s2, rfl⟩ := sB_t hn hb
        obtain ⟨t, t1, t2, rfl⟩ := sB_t hn hb2
        obtain ⟨B, hB⟩ := dec_ex (fun x => cnS n s = cnS n t ∧ ∀ i, i < n → s.testBit i = true → t.testBit (e x i) = true)
        obtain ⟨r, r1, r2⟩ := firstBringing_eq hn hG he a2.2.2.2.2.1 s2 t2 (fun x _ => hB x)
        rcases r2 with ⟨x, x1, x2, x3, x4⟩ | ⟨x1, x4⟩
        · subst x4
          obtain ⟨J, I3, w1, w2, w3, w4, w5, _⟩ := ref_l (L := L1) hO (RDY_a (s := 0) a2 hR) he hz hN
          obtain ⟨I4, y1, y2⟩ := brings40_eq (L := L1) hO he hN w3 s2 t2 (fun x _ => hB x) (fun (I_15 : MI) (L_16 : ML) => some (-1, up2 I_15 43 0 5, L_16))
          have y3 : f_X8_brings_40 (nI s) (nI t) (fun (I_15 : MI) (L_16 : ML) => some (-1, up2 I_15 43 0 5, L_16)) FU 0 I3 L1 = some (nI x, I4, L1) := by
            rcases y2 with ⟨x', z1, z2, z3, z4⟩ | ⟨z, _⟩
            · have : x' = x := by
                rcases Nat.lt_trichotomy x x' with g | g | g
                · have := z3 x g; rw [x2] at this; cases this
                · exact g.symm
                · have := x3 x' g; rw [z2] at this; cases this
              rw [this] at z4; exact z4
            · have := z x x1; rw [x2] at this; cases this
          refine ⟨nI x, up2 I1 0 6 0, L1, rm1, ?_, a2.1, I4, L1, ?_, IV_a h a2 (w4.trans (Q8_fr y1 (by decide))) (w3.fr y1 (by decide)).1.rdy (by rw [y1 43 (by decide)]; exact w5)⟩
          · simp (config := { decide := true }) only [f_X7_brings, hs2, hs4, hu, nI_0, a1, a2.kA, a2.kB, r1, nI_pos' (show x < 2 ^ 31 by omega), obs, bnd_eq, is_0, is_1, is_2, is_3, is_4, is_5, is_6, is_9, tell_eq, refuse_eq, refuse8_eq, b2i_1, b2i_0, if_true, if_false, ↓reduceIte]
          · simp (config := { decide := true }) only [f_X8_brings, hs5, hs6, w1, w2, y3, obs, bnd_eq, is_0, is_1, is_2, is_3, is_4, is_5, is_6, is_9, tell_eq, refuse_eq, refuse8_eq, b2i_1, b2i_0, if_true, if_false, ↓reduceIte]
        · subst x4
          obtain ⟨J, I3, w1, w2, w3, w4, w5, _⟩ := ref_l (L := L1) hO (RDY_a (s := 5) a2 hR) he hz hN
          obtain ⟨I4, y1, y2⟩ := brings40_eq (L := L1) hO he hN w3 s2 t2 (fun x _ => hB x) (fun (I_15 : MI) (L_16 : ML) => some (-1, up2 I_15 43 0 5, L_16))
          have y3 : f_X8_brings_40 (nI s) (nI t) (fun (I_15 : MI) (L_16 : ML) => some (-1, up2 I_15 43 0 5, L_16)) FU 0 I3 L1 = some (-1, up2 I4 43 0 5, L1) := by
            rcases y2 with ⟨x', z1, z2, z3, z4⟩ | ⟨_, z⟩
            · have := x1 x' z1; rw [z2] at this; cases this
            · exact z
          refine ⟨-1, up2 I1 0 6 5, L1, rm1, ?_, a2.1, up2 I4 43 0 5, L1, ?_, IV_a h a2 ((w4.trans (Q8_fr y1 (by decide))).trans Q8_r) (RDY_r (w3.fr y1 (by decide)).1.rdy) up2_s⟩
          · simp (config := { decide := true }) only [f_X7_brings, hs2, hs4, hu, nI_0, a1, a2.kA, a2.kB, r1, obs, bnd_eq, is_0, is_1, is_2, is_3, is_4, is_5, is_6, is_9, tell_eq, refuse_eq, refuse8_eq, b2i_1, b2i_0, if_true, if_false, ↓reduceIte]
          · simp (config := { decide := true }) only [f_X8_brings, hs5, hs6, w1, w2, y3, obs, bnd_eq, is_0, is_1, is_2, is_3, is_4, is_5, is_6, is_9, tell_eq, refuse_eq, refuse8_eq, b2i_1, b2i_0, if_true, if_false, ↓reduceIte]
      · rw [hz] at hu
        obtain ⟨I2, b1, b2, b3, b4⟩ := wS (L := L) hO (RDY_s (s := 5) hR) he hz
        refine ⟨-1, up2 I 0 6 5, L, rm, ?_, RS_r, is8 I2 5, L, ?_, IV_q h (b3.trans Q8_is) (RDY_is b2) is8_0⟩
        · simp (config := { decide := true }) only [f_X7_brings, hs2, hs4, hu, show nI 5 = 5 from rfl, obs, bnd_eq, is_0, is_1, is_2, is_3, is_4, is_5, is_6, is_9, tell_eq, refuse_eq, refuse8_eq, b2i_1, b2i_0, if_true, if_false, ↓reduceIte]
        · simp (config := { decide := true }) only [f_X8_brings, hs1, hs3, b1, show nI 5 = 5 from rfl, obs, bnd_eq, is_0, is_1, is_2, is_3, is_4, is_5, is_6, is_9, tell_eq, refuse_eq, refuse8_eq, b2i_1, b2i_0, if_true, if_false, ↓reduceIte]
      · rw [hz] at hu
        obtain ⟨I2, b1, b2, b3, b4⟩ := wS (L := L) hO (RDY_s (s := 3) hR) he hz
        refine ⟨-1, up2 I 0 6 3, L, rm, ?_, RS_r, is8 I2 3, L, ?_, IV_q h (b3.trans Q8_is) (RDY_is b2) is8_0⟩
        · simp (config := { decide := true }) only [f_X7_brings, hs2, hs4, hu, show nI 3 = 3 from rfl, obs, bnd_eq, is_0, is_1, is_2, is_3, is_4, is_5, is_6, is_9, tell_eq, refuse_eq, refuse8_eq, b2i_1, b2i_0, if_true, if_false, ↓reduceIte]
        · simp (config := { decide := true }) only [f_X8_brings, hs1, hs3, b1, show nI 3 = 3 from rfl, obs, bnd_eq, is_0, is_1, is_2, is_3, is_4, is_5, is_6, is_9, tell_eq, refuse_eq, refuse8_eq, b2i_1, b2i_0, if_true, if_false, ↓reduceIte]
end ST
