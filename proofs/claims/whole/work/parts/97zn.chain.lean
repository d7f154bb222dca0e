/-! Rows of descending groups: class and reference -/
section CA
variable {n m rm : Nat} {mv : Nat → Nat → Nat} {st : Nat → Nat} {I J : MI} {L M : ML}
theorem CI.gen2 {I' : MI} {L' : ML} (h : CI I L rm n m mv st) (hI : ∀ p, (6 ≤ p ∧ p ≤ 14) ∨ p = 29 ∨ 69 ≤ p → I' p = I p) (hL : ∀ p, p = 0 ∨ (6 ≤ p ∧ p ≤ 14) ∨ 69 ≤ p → L' p = L p) (h1 : Dsc I' 30 n (Gp n m mv) false) (h2 : Dsc I' 33 n (Gp n m mv) true) : CI I' L' rm n m mv st := by
  obtain ⟨a1, a2, a3, a4, a5, a6, a7, a8, a9, a10⟩ := h
  have h6 := hI 6 (by decide)
  refine ⟨by rw [h6]; exact a1, by rw [h6]; exact a2, fun i hi => by rw [hL 7 (by decide)]; exact a3 i hi, by rw [hL 0 (by decide)]; exact a4, a5.fr (hI 8 (by decide)) (hI 9 (by decide)) (hI 13 (by decide)) (hI 14 (by decide)) (hL 8 (by decide)) (hL 10 (by decide)) (hL 11 (by decide)) (hL 12 (by decide)), ?_, Pz_fr a7 (hI 29 (by decide)), h1, h2, a10.fr (by rw [h6]) (fun p hp => hI p (by omega)) (fun p hp => hL p (by omega))⟩
  unfold Ndd at a6 ⊢; rw [h6]; exact a6
theorem BD.fs {s : Nat} {S : List Nat} (h : BD I n m mv st) (hF : Fr S I J) (hS : 43 ∉ S ∧ 44 ∉ S) (hf : FrS s I J) (h0 : s ≠ 0) : BD J n m mv st := by
  have e := hF 43 hS.1
  exact ⟨by rw [e]; exact h.1, h.2.1.fr (hF 44 hS.2), h.2.2.1.frS hf (fun g => h0 g.symm), by rw [e]; exact h.2.2.2⟩
theorem ca12 {a2 : Bool} {s : Nat → Nat} {cnt k : Nat} (hO : OKm n m mv st) (hB : BD J n m mv st) (h1 : SlotG J 1 (Gp n m mv)) (hs1 : ∀ i, En (Hsq n (Gp n m mv) (!a2) i) (s i)) (c1 : 1 ≤ cnt) (c2 : cnt ≤ 31) (c3 : ∀ i, i + 1 < cnt → s (i + 1) < s i) (c4 : s cnt = s (cnt - 1)) (hk : k < 2 ^ 31) : ∃ J', f_X8_chainAt_12 (nI k) a2 (fun (I_13 : MI) (L_14 : ML) => Option.bind (f_X8_orderOf 1 I_13 L_14) (fun q_15 => some (q_15, I_13, L_14))) FU 0 J M = some (if k < cnt then nI (s k) else -1, J', M) ∧ BD J' n m mv st ∧ Fr CS J J' := by
  have hn := hO.1
  have hG := Gp_Sub hn hO.2.2.1
  have := loop0 (fun fu (z : Int32 × MI × ML) => f_X8_chainAt_12 (nI k) a2 (fun (I_13 : MI) (L_14 : ML) => Option.bind (f_X8_orderOf 1 I_13 L_14) (fun q_15 => some (q_15, I_13, L_14))) fu z.1 z.2.1 z.2.2) (fun i z => z.1 = nI i ∧ z.2.2 = M ∧ i ≤ k ∧ i < cnt ∧ BD z.2.1 n m mv st ∧ SlotG z.2.1 1 (Hsq n (Gp n m mv) (!a2) i) ∧ Fr CS J z.2.1) (fun o => ∃ J', o = some (if k < cnt then nI (s k) else -1, J', M) ∧ BD J' n m mv st ∧ Fr CS J J') 31 (by omega) (nI 0, J, M) ⟨rfl, rfl, Nat.zero_le _, by omega, hB, h1, Fr.refl⟩
    (fun fu i z hi hP => by
      obtain ⟨z1, J1, M1⟩ := z
      obtain ⟨p1, p2, p3, p4, p5, p6, p7⟩ := hP
      dsimp only at p1 p2 p5 p6 p7 ⊢
      subst p1 p2
      have ok := Hsq_ok (a3 := !a2) hn hG
      have b1 := En_bd hn (ok i).1 (hs1 i)
      have b2 := En_bd hn (ok (i + 1)).1 (hs1 (i + 1))
      rw [f_X8_chainAt_12, ifc (q_le (by omega) (by omega))]
      by_cases d1 : k ≤ i
      · left
        obtain rfl : k = i := by omega
        have o1 : f_X8_orderOf 1 J1 M1 = some (nI (s k)) := ord_k (k := 1) (by decide) p6 (hs1 k)
        rw [if_pos d1, ob o1, if_pos p4]
        exact ⟨J1, rfl, p5, p7⟩
      · rw [if_neg d1, bnd_eq]
        obtain ⟨J2, x1, x2, x3, x4⟩ : ∃ J2, (if (b2i a2) = 0 then f_X8_laysCommutators 1 (b2i false) 2 J1 M1 else f_X8_laysCommutators 1 (b2i true) 2 J1 M1) = some (J2, M1) ∧ SlotG J2 2 (Hsq n (Gp n m mv) (!a2) (i + 1)) ∧ FrS 2 J1 J2 ∧ Fr CS J1 J2 := by
          cases a2
          · obtain ⟨J2, y1, y2, y3, y4⟩ := laysComm_eq (L := M1) (a := 0) (by decide) (by decide) p6 p5.2.2.1 (ok i).2.2.1
            refine ⟨J2, ?_, ?_, y3, y4⟩
            · rw [if_pos b2i_f]; exact y1
            · rw [CmK_10 hn (ok i).1 hG] at y2; exact y2
          · obtain ⟨J2, y1, y2, y3, y4⟩ := laysComm_eq (L := M1) (a := 1) (by decide) (by decide) p6 p6 (fun _ h => h)
            refine ⟨J2, ?_, ?_, y3, y4⟩
            · rw [if_neg b2i_t]; exact y1
            · rw [CmK_10 hn (ok i).1 (ok i).1] at y2; exact y2
        have s1 : SlotG J2 1 (Hsq n (Gp n m mv) (!a2) i) := p6.frS x3 (by decide)
        have o1 : f_X8_orderOf 1 J2 M1 = some (nI (s i)) := ord_k (k := 1) (by decide) s1 (hs1 i)
        have o2 : f_X8_orderOf 2 J2 M1 = some (nI (s (i + 1))) := ord_k (k := 2) (by decide) x2 (hs1 (i + 1))
        have B2 := p5.fs x4 (by decide) x3 (by decide)
        obtain ⟨J3, w1, w2, w3, w4⟩ := copiesSlot_eq (L := M1) (u := 2) (v := 1) (by decide) (by decide) (by decide) x2
        have w1 : f_X8_copiesSlot 2 1 J2 M1 = some (J3, M1) := w1
        have key : (if (b2i a2) = 0 then Option.bind (f_X8_laysCommutators 1 (b2i false) 2 J1 M1) (fun q_8 => Option.bind (f_X8_orderOf 2 q_8.1 q_8.2) (fun q_9 => Option.bind (f_X8_orderOf 1 q_8.1 q_8.2) (fun q_10 => if q_9 = q_10 then some ((-1 : Int32), q_8.1, q_8.2) else Option.bind (f_X8_copiesSlot 2 1 q_8.1 q_8.2) (fun q_11 => bnd (nI i + 1 : Int32) (fun v3_12 => f_X8_chainAt_12 (nI k) a2 (fun (I_13 : MI) (L_14 : ML) => Option.bind (f_X8_orderOf 1 I_13 L_14) (fun q_15 => some (q_15, I_13, L_14))) fu v3_12 q_11.1 q_11.2))))) else Option.bind (f_X8_laysCommutators 1 (b2i true) 2 J1 M1) (fun q_8 => Option.bind (f_X8_orderOf 2 q_8.1 q_8.2) (fun q_9 => Option.bind (f_X8_orderOf 1 q_8.1 q_8.2) (fun q_10 => if q_9 = q_10 then some ((-1 : Int32), q_8.1, q_8.2) else Option.bind (f_X8_copiesSlot 2 1 q_8.1 q_8.2) (fun q_11 => bnd (nI i + 1 : Int32) (fun v3_12 => f_X8_chainAt_12 (nI k) a2 (fun (I_13 : MI) (L_14 : ML) => Option.bind (f_X8_orderOf 1 I_13 L_14) (fun q_15 => some (q_15, I_13, L_14))) fu v3_12 q_11.1 q_11.2)))))) = (if s (i + 1) = s i then some ((-1 : Int32), J2, M1) else f_X8_chainAt_12 (nI k) a2 (fun (I_13 : MI) (L_14 : ML) => Option.bind (f_X8_orderOf 1 I_13 L_14) (fun q_15 => some (q_15, I_13, L_14))) fu (nI (i + 1)) J3 M1) := by
          have gen : ∀ X : Option Mm, X = some (J2, M1) → Option.bind X (fun q_8 => Option.bind (f_X8_orderOf 2 q_8.1 q_8.2) (fun q_9 => Option.bind (f_X8_orderOf 1 q_8.1 q_8.2) (fun q_10 => if q_9 = q_10 then some ((-1 : Int32), q_8.1, q_8.2) else Option.bind (f_X8_copiesSlot 2 1 q_8.1 q_8.2) (fun q_11 => bnd (nI i + 1 : Int32) (fun v3_12 => f_X8_chainAt_12 (nI k) a2 (fun (I_13 : MI) (L_14 : ML) => Option.bind (f_X8_orderOf 1 I_13 L_14) (fun q_15 => some (q_15, I_13, L_14))) fu v3_12 q_11.1 q_11.2))))) = (if s (i + 1) = s i then some ((-1 : Int32), J2, M1) else f_X8_chainAt_12 (nI k) a2 (fun (I_13 : MI) (L_14 : ML) => Option.bind (f_X8_orderOf 1 I_13 L_14) (fun q_15 => some (q_15, I_13, L_14))) fu (nI (i + 1)) J3 M1) := fun X hX => by
            rw [ob hX]
            dsimp only
            rw [ob o2, ob o1, ifc (q_eq (by omega) (by omega)), ob w1]
            dsimp only
            rw [bnd_eq, nI_1]
          by_cases g : (b2i a2) = 0
          · rw [if_pos g] at x1 ⊢
            exact gen _ x1
          · rw [if_neg g] at x1 ⊢
            exact gen _ x1
        rw [key]
        by_cases d2 : s (i + 1) = s i
        · left
          rw [if_pos d2]
          have hc : ¬ i + 1 < cnt := fun g => by have := c3 i g; omega
          rw [if_neg (by omega)]
          exact ⟨J2, rfl, B2, p7.trans x4⟩
        · right
          have hc : i + 1 < cnt := by
            by_cases g : i + 1 < cnt
            · exact g
            · exact absurd (by rw [show i + 1 = cnt by omega, c4, show cnt - 1 = i by omega]) d2
          refine ⟨by omega, (nI (i + 1), J3, M1), ?_, rfl, rfl, by omega, hc, B2.fs w4 (by decide) w3 (by decide), w2, (p7.trans x4).trans (w4.mono (by decide))⟩
          rw [if_neg d2])
  rw [nI_0] at this
  exact this
theorem chainAt_eq {a2 : Bool} {s : Nat → Nat} {cnt k : Nat} (hO : OKm n m mv st) (hR : RDY J n m mv st) (hs1 : ∀ i, En (Hsq n (Gp n m mv) (!a2) i) (s i)) (c1 : 1 ≤ cnt) (c2 : cnt ≤ 31) (c3 : ∀ i, i + 1 < cnt → s (i + 1) < s i) (c4 : s cnt = s (cnt - 1)) (hk : k < 2 ^ 31) : ∃ J', f_X8_chainAt (nI k) a2 J M = some (if k < cnt then nI (s k) else -1, J', M) ∧ RDY J' n m mv st ∧ Q8 J J' ∧ J' 43 0 = J 43 0 := by
  obtain ⟨J1, x1, x2, x3, x4, x5⟩ := builds__eq (L := M) hO hR
  obtain ⟨J2, w1, w2, w3, w4⟩ := copiesSlot_eq (L := M) (u := 0) (v := 1) (by decide) (by decide) (by decide) x2.2.2.1
  have w1 : f_X8_copiesSlot 0 1 J1 M = some (J2, M) := w1
  have B2 := x2.fs w4 (by decide) w3 (by decide)
  obtain ⟨J3, y1, y2, y3⟩ := ca12 (M := M) (a2 := a2) hO B2 w2 hs1 c1 c2 c3 c4 hk
  refine ⟨J3, ?_, y2.rdy, ((Q8_b x3 x4).trans (Q8_fr w4 (by decide))).trans (Q8_fr y3 (by decide)), by rw [y3 43 (by decide), w4 43 (by decide), x4 0 (by decide)]⟩
  unfold f_X8_chainAt
  rw [ob x1]
  dsimp only
  rw [ob w1]
  exact y1
theorem chn_core {db : Nat} {c : Bool} (h : IV I L rm n m mv st) (h0 : 0 < n) (hdb : (db = 30 ∧ c = false) ∨ (db = 33 ∧ c = true)) : ∃ (I1 : MI) (L1 : ML) (cnt : Nat) (s : Nat → Nat), f_X1_know db 8 15 c I L = some (I1, L1) ∧ CI I1 L1 rm n m mv st ∧ CO I L I1 L1 ∧ RDY I1 n m mv st ∧ 1 ≤ cnt ∧ cnt ≤ 31 ∧ (∀ i, 0 < s i ∧ s i ≤ 3628800) ∧ I1 db 3 = nI cnt ∧ (∀ k, k < 2 ^ 31 → f_X1_sizeAt db (nI k) I1 L1 = some (if k < cnt then nI (s k) else 0)) ∧ ∀ k, k < 2 ^ 31 → ∀ (J : MI) (M : ML), RDY J n m mv st → ∃ J', f_X8_chainAt (nI k) (!c) J M = some (if k < cnt then nI (s k) else -1, J', M) ∧ RDY J' n m mv st ∧ Q8 J J' ∧ J' 43 0 = J 43 0 := by
  obtain ⟨hO, hC, hR, hP, hT, hU, hF, hS⟩ := id h
  have hn := hO.1
  have hG := Gp_Sub hn hO.2.2.1
  have hD : Dsc I db n (Gp n m mv) c := by
    rcases hdb with ⟨e1, e2⟩ | ⟨e1, e2⟩
    · rw [e1, e2]; exact hC.2.2.2.2.2.2.2.1
    · rw [e1, e2]; exact hC.2.2.2.2.2.2.2.2.1
  obtain ⟨I1, L1, x1, x2, x3, x4⟩ := know_eq (db := db) (a3 := c) hn h0 (by omega) hC.2.2.2.2.1 hD
  obtain ⟨_, H, cnt, s, y1, y2, y3, y4, y5, y6, y7, y8⟩ := x4.resolve_left (by rw [x3]; decide)
  obtain ⟨s', s1, s2, s3, s4⟩ := Hsq_s (a3 := c) hn hG
  have es : ∀ i, i ≤ cnt → s i = s' i := fun i hi => En_un (y5 i hi) (by rw [Hsq_un y1 i]; exact s1 i)
  have k1 : ∀ p, (∀ q, q = 30 ∨ q = 31 ∨ q = 33 ∨ q = 34 → p ≠ q) → ¬ (15 ≤ p ∧ p ≤ 21) → I1 p = I p := fun p a b => x2.1 p b (by rcases hdb with ⟨e, _⟩ | ⟨e, _⟩ <;> rw [e] <;> exact a _ (by decide)) (by rcases hdb with ⟨e, _⟩ | ⟨e, _⟩ <;> rw [e] <;> exact a _ (by decide))
  have l1 : ∀ p, p ≠ 32 → p ≠ 35 → ¬ (15 ≤ p ∧ p ≤ 21) → L1 p = L p := fun p a a' b => x2.2 p b (by rcases hdb with ⟨e, _⟩ | ⟨e, _⟩ <;> rw [e] <;> assumption)
  have C1 : CI I1 L1 rm n m mv st := by
    refine hC.gen2 (fun p hp => k1 p (fun q hq => by omega) (by omega)) (fun p hp => l1 p (by omega) (by omega) (by omega)) ?_ ?_
    · rcases hdb with ⟨e1, e2⟩ | ⟨e1, e2⟩
      · rw [e1, e2] at x4; exact x4
      · exact hC.2.2.2.2.2.2.2.1.fr (x2.1 30 (by decide) (by omega) (by omega)) (x2.1 31 (by decide) (by omega) (by omega))
    · rcases hdb with ⟨e1, e2⟩ | ⟨e1, e2⟩
      · exact hC.2.2.2.2.2.2.2.2.1.fr (x2.1 33 (by decide) (by omega) (by omega)) (x2.1 34 (by decide) (by omega) (by omega))
      · rw [e1, e2] at x4; exact x4
  refine ⟨I1, L1, cnt, s', x1, C1, ⟨fun p hp => k1 p (fun q hq => by omega) (by omega), fun j _ => by rw [k1 0 (fun q hq => by omega) (by omega)], l1 39 (by decide) (by decide) (by decide), l1 41 (by decide) (by decide) (by decide)⟩, hR.of (by rw [k1 43 (fun q hq => by omega) (by omega)]) (by rw [k1 43 (fun q hq => by omega) (by omega)]) (k1 44 (fun q hq => by omega) (by omega)) (k1 52 (fun q hq => by omega) (by omega)) (k1 53 (fun q hq => by omega) (by omega)), y2, y3, s2, y4, fun k hk => ?_, fun k hk J M hJ => ?_⟩
  · unfold f_X1_sizeAt
    rw [if_neg (nI_pos hk), y4, ifc (q_le (by omega) hk)]
    by_cases g : k < cnt
    · rw [if_neg (by omega), if_pos g, q_chk (by omega) (by decide), q_ix hk, y6 k g, es k (by omega)]
    · rw [if_pos (by omega), if_neg g]
  · refine chainAt_eq (a2 := !c) hO hJ (by rw [Bool.not_not]; exact s1) y2 y3 (fun i hi => ?_) ?_ hk
    · rw [← es (i + 1) (by omega), ← es i (by omega)]; exact y7 i hi
    · rw [← es cnt (Nat.le_refl _), ← es (cnt - 1) (by omega)]; exact y8
theorem i32_nn (a : Int32) (h : ¬ a < 0) : ∃ k, k < 2 ^ 31 ∧ a = nI k := by
  have h1 : rB a (2 ^ 31) = true := by
    have h2 := Int32.le_iff_toInt_le.mp (Int32.not_lt.mp h)
    have h3 := Int32.toInt_lt a
    exact decide_eq_true ⟨h2, h3⟩
  exact rB_t h1
theorem there_p {k : Nat} (hk : k < 2 ^ 31) : f_X8_there (nI k) I L = some (nI k, I, L) := by
  unfold f_X8_there
  rw [if_neg (nI_nm1 hk)]
theorem there_n : f_X8_there (-1) I L = some (-1, up2 I 43 0 5, L) := rfl
theorem PR_30h : PR_30 Inv := by
  intro I L rm a ⟨n, m, mv, st, h⟩
  obtain ⟨hO, hC, hR, hP, hT, hU, hF, hS⟩ := id h
  have hn := hO.1
  by_cases ha : a < 0
  · have ha' : ¬ 0 ≤ a := Int32.not_le.mpr ha
    refine ⟨-1, up2 I 0 6 1, L, ?_, is8 (up2 I 0 6 1) 1, L, ?_, IV_q h (Q8_is (a := 1)) (RDY_is (RDY_s hR)) is8_0⟩
    · simp (config := { decide := true }) only [f_X7_derived, ha', obs, bnd_eq, is_0, is_1, is_2, is_3, is_4, is_5, is_6, is_9, tell_eq, refuse_eq, refuse8_eq, b2i_1, b2i_0, if_true, if_false, ↓reduceIte]
    · simp (config := { decide := true }) only [f_X8_derived, ha, whyHere_1, obs, bnd_eq, is_0, is_1, is_2, is_3, is_4, is_5, is_6, is_9, tell_eq, refuse_eq, refuse8_eq, b2i_1, b2i_0, if_true, if_false, ↓reduceIte]
  · have ha' : 0 ≤ a := Int32.not_lt.mp ha
    by_cases h0 : n = 0
    · have e0 : nI n = 0 := by rw [h0]; rfl
      refine ⟨-1, up2 I 0 6 5, L, ?_, is8 (up2 I 0 6 5) 5, L, ?_, IV_q h (Q8_is (a := 5)) (RDY_is (RDY_s hR)) is8_0⟩
      · simp (config := { decide := true }) only [f_X7_derived, ha', hC.1, e0, obs, bnd_eq, is_0, is_1, is_2, is_3, is_4, is_5, is_6, is_9, tell_eq, refuse_eq, refuse8_eq, b2i_1, b2i_0, if_true, if_false, ↓reduceIte]
      · simp (config := { decide := true }) only [f_X8_derived, ha, whyHere_n (w := 0) (RDY_s (s := 5) hR).1 h0, obs, bnd_eq, is_0, is_1, is_2, is_3, is_4, is_5, is_6, is_9, tell_eq, refuse_eq, refuse8_eq, b2i_1, b2i_0, if_true, if_false, ↓reduceIte]
    · have e0 : ¬ nI n = 0 := nI_ne0 (by omega) (by omega)
      obtain ⟨k, hk, rfl⟩ := i32_nn a ha
      obtain ⟨I1, L1, cnt, s, x1, x2, x3, x4, x5, x6, x7, x8, x9, x10⟩ := chn_core (db := 30) (c := false) h (by omega) (Or.inl ⟨rfl, rfl⟩)
      have d1 : f_X2_descentByF I L = some (I1, L1) := by unfold f_X2_descentByF; rw [ob x1]
      have x9 := x9 k hk
      by_cases g : k < cnt
      · rw [if_pos g] at x9
        obtain ⟨J, y1, y2, y3, y4⟩ := x10 k hk (is8 (up2 I1 0 6 0) 0) L1 (RDY_is (RDY_s x4))
        rw [if_pos g] at y1
        have y1 : f_X8_chainAt (nI k) true (is8 (up2 I1 0 6 0) 0) L1 = some (nI (s k), J, L1) := y1
        have e1 : ¬ nI (s k) = 0 := nI_ne0 (by have := (x7 k).1; omega) (by have := (x7 k).2; omega)
        refine ⟨nI (s k), up2 I1 0 6 0, L1, ?_, J, L1, ?_, IV_fin h (CI_s x2) (x3.trans CO_s) (Q8_is.trans y3) y2 (by rw [up2_s, y4]; exact is8_0.symm)⟩
        · simp (config := { decide := true }) only [f_X7_derived, ha', hC.1, e0, d1, x9, e1, obs, bnd_eq, is_0, is_1, is_2, is_3, is_4, is_5, is_6, is_9, tell_eq, refuse_eq, refuse8_eq, b2i_1, b2i_0, if_true, if_false, ↓reduceIte]
        · simp (config := { decide := true }) only [f_X8_derived, ha, whyHere_p (RDY_s (s := 0) x4).1 hn h0, y1, there_p (k := s k) (by have := (x7 k).2; omega), obs, bnd_eq, is_0, is_1, is_2, is_3, is_4, is_5, is_6, is_9, tell_eq, refuse_eq, refuse8_eq, b2i_1, b2i_0, if_true, if_false, ↓reduceIte]
      · rw [if_neg g] at x9
        obtain ⟨J, y1, y2, y3, y4⟩ := x10 k hk (is8 (up2 I1 0 6 5) 0) L1 (RDY_is (RDY_s x4))
        rw [if_neg g] at y1
        have y1 : f_X8_chainAt (nI k) true (is8 (up2 I1 0 6 5) 0) L1 = some (-1, J, L1) := y1
        refine ⟨-1, up2 I1 0 6 5, L1, ?_, up2 J 43 0 5, L1, ?_, IV_fin h (CI_s x2) (x3.trans CO_s) ((Q8_is.trans y3).trans Q8_r) (RDY_r y2) (by rw [up2_s, up2_s])⟩
        · simp (config := { decide := true }) only [f_X7_derived, ha', hC.1, e0, d1, x9, obs, bnd_eq, is_0, is_1, is_2, is_3, is_4, is_5, is_6, is_9, tell_eq, refuse_eq, refuse8_eq, b2i_1, b2i_0, if_true, if_false, ↓reduceIte]
        · simp (config := { decide := true }) only [f_X8_derived, ha, whyHere_p (RDY_s (s := 5) x4).1 hn h0, y1, there_n, obs, bnd_eq, is_0, is_1, is_2, is_3, is_4, is_5, is_6, is_9, tell_eq, refuse_eq, refuse8_eq, b2i_1, b2i_0, if_true, if_false, ↓reduceIte]
theorem PR_35h : PR_35 Inv := by
  intro I L rm a ⟨n, m, mv, st, h⟩
  obtain ⟨hO, hC, hR, hP, hT, hU, hF, hS⟩ := id h
  have hn := hO.1
  by_cases ha : a < 0
  · have ha' : ¬ 0 ≤ a := Int32.not_le.mpr ha
    refine ⟨-1, up2 I 0 6 1, L, ?_, is8 (up2 I 0 6 1) 1, L, ?_, IV_q h (Q8_is (a := 1)) (RDY_is (RDY_s hR)) is8_0⟩
    · simp (config := { decide := true }) only [f_X7_central, ha', obs, bnd_eq, is_0, is_1, is_2, is_3, is_4, is_5, is_6, is_9, tell_eq, refuse_eq, refuse8_eq, b2i_1, b2i_0, if_true, if_false, ↓reduceIte]
    · simp (config := { decide := true }) only [f_X8_central, ha, whyHere_1, obs, bnd_eq, is_0, is_1, is_2, is_3, is_4, is_5, is_6, is_9, tell_eq, refuse_eq, refuse8_eq, b2i_1, b2i_0, if_true, if_false, ↓reduceIte]
  · have ha' : 0 ≤ a := Int32.not_lt.mp ha
    by_cases h0 : n = 0
    · have e0 : nI n = 0 := by rw [h0]; rfl
      refine ⟨-1, up2 I 0 6 5, L, ?_, is8 (up2 I 0 6 5) 5, L, ?_, IV_q h (Q8_is (a := 5)) (RDY_is (RDY_s hR)) is8_0⟩
      · simp (config := { decide := true }) only [f_X7_central, ha', hC.1, e0, obs, bnd_eq, is_0, is_1, is_2, is_3, is_4, is_5, is_6, is_9, tell_eq, refuse_eq, refuse8_eq, b2i_1, b2i_0, if_true, if_false, ↓reduceIte]
      · simp (config := { decide := true }) only [f_X8_central, ha, whyHere_n (w := 0) (RDY_s (s := 5) hR).1 h0, obs, bnd_eq, is_0, is_1, is_2, is_3, is_4, is_5, is_6, is_9, tell_eq, refuse_eq, refuse8_eq, b2i_1, b2i_0, if_true, if_false, ↓reduceIte]
    · have e0 : ¬ nI n = 0 := nI_ne0 (by omega) (by omega)
      obtain ⟨k, hk, rfl⟩ := i32_nn a ha
      obtain ⟨I1, L1, cnt, s, x1, x2, x3, x4, x5, x6, x7, x8, x9, x10⟩ := chn_core (db := 33) (c := true) h (by omega) (Or.inr ⟨rfl, rfl⟩)
      have d1 : f_X2_descentByT I L = some (I1, L1) := by unfold f_X2_descentByT; rw [ob x1]
      have x9 := x9 k hk
      by_cases g : k < cnt
      · rw [if_pos g] at x9
        obtain ⟨J, y1, y2, y3, y4⟩ := x10 k hk (is8 (up2 I1 0 6 0) 0) L1 (RDY_is (RDY_s x4))
        rw [if_pos g] at y1
        have y1 : f_X8_chainAt (nI k) false (is8 (up2 I1 0 6 0) 0) L1 = some (nI (s k), J, L1) := y1
        have e1 : ¬ nI (s k) = 0 := nI_ne0 (by have := (x7 k).1; omega) (by have := (x7 k).2; omega)
        refine ⟨nI (s k), up2 I1 0 6 0, L1, ?_, J, L1, ?_, IV_fin h (CI_s x2) (x3.trans CO_s) (Q8_is.trans y3) y2 (by rw [up2_s, y4]; exact is8_0.symm)⟩
        · simp (config := { decide := true }) only [f_X7_central, ha', hC.1, e0, d1, x9, e1, obs, bnd_eq, is_0, is_1, is_2, is_3, is_4, is_5, is_6, is_9, tell_eq, refuse_eq, refuse8_eq, b2i_1, b2i_0, if_true, if_false, ↓reduceIte]
        · simp (config := { decide := true }) only [f_X8_central, ha, whyHere_p (RDY_s (s := 0) x4).1 hn h0, y1, there_p (k := s k) (by have := (x7 k).2; omega), obs, bnd_eq, is_0, is_1, is_2, is_3, is_4, is_5, is_6, is_9, tell_eq, refuse_eq, refuse8_eq, b2i_1, b2i_0, if_true, if_false, ↓reduceIte]
      · rw [if_neg g] at x9
        obtain ⟨J, y1, y2, y3, y4⟩ := x10 k hk (is8 (up2 I1 0 6 5) 0) L1 (RDY_is (RDY_s x4))
        rw [if_neg g] at y1
        have y1 : f_X8_chainAt (nI k) false (is8 (up2 I1 0 6 5) 0) L1 = some (-1, J, L1) := y1
        refine ⟨-1, up2 I1 0 6 5, L1, ?_, up2 J 43 0 5, L1, ?_, IV_fin h (CI_s x2) (x3.trans CO_s) ((Q8_is.trans y3).trans Q8_r) (RDY_r y2) (by rw [up2_s, up2_s])⟩
        · simp (config := { decide := true }) only [f_X7_central, ha', hC.1, e0, d1, x9, obs, bnd_eq, is_0, is_1, is_2, is_3, is_4, is_5, is_6, is_9, tell_eq, refuse_eq, refuse8_eq, b2i_1, b2i_0, if_true, if_false, ↓reduceIte]
        · simp (config := { decide := true }) only [f_X8_central, ha, whyHere_p (RDY_s (s := 5) x4).1 hn h0, y1, there_n, obs, bnd_eq, is_0, is_1, is_2, is_3, is_4, is_5, is_6, is_9, tell_eq, refuse_eq, refuse8_eq, b2i_1, b2i_0, if_true, if_false, ↓reduceIte]
end CA
