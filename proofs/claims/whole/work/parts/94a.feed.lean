/-! The tape -/
section FE
variable {n m rm : Nat} {mv : Nat → Nat → Nat} {st : Nat → Nat} {L : ML}
theorem byt0 (x : BitVec 32) (k : Nat) (hk : k ≤ 24) : (x >>> k).setWidth 8 = (x.sshiftRight k).setWidth 8 := by
  refine BitVec.eq_of_getLsbD_eq (fun i hi => ?_)
  rw [BitVec.getLsbD_setWidth, BitVec.getLsbD_setWidth, BitVec.getLsbD_ushiftRight, BitVec.getLsbD_sshiftRight, decide_eq_false (by omega : ¬ 32 ≤ i), if_pos (by omega : k + i < 32)]
  rfl
theorem q_u31 : ∀ k : Nat, k < 32 → (((nI k).toUInt32 &&& Int32.toUInt32 31).toBitVec % 32).toNat = k := by decide +kernel
theorem byt (v : Int32) (i : Nat) (hi : i < 4) : i2b (ushr v (nI (24 - 8 * i))) = i2b (shr v (nI (24 - 8 * i))) := by
  unfold i2b
  generalize hk : 24 - 8 * i = k
  have h32 : k < 32 := by omega
  have e1 : (ushr v (nI k)).toBitVec = v.toBitVec >>> k := by
    have h : (ushr v (nI k)).toBitVec = v.toBitVec >>> (((nI k).toUInt32 &&& Int32.toUInt32 31).toBitVec % 32).toNat := UInt32.toBitVec_shiftRight _ _
    rw [q_u31 k h32] at h
    exact h
  have e2 : (shr v (nI k)).toBitVec = v.toBitVec.sshiftRight k := by
    unfold shr
    rw [q_and31 k h32]
    have h : (v >>> nI k).toBitVec = v.toBitVec.sshiftRight ((nI k).toBitVec.smod 32).toNat := Int32.toBitVec_shiftRight _ _
    rw [q_smod k h32] at h
    exact h
  have : (ushr v (nI k)).toInt8 = (shr v (nI k)).toInt8 := by
    apply Int8.toBitVec_inj.mp
    rw [Int32.toBitVec_toInt8, Int32.toBitVec_toInt8, BitVec.signExtend_eq_setWidth_of_le _ (by decide), BitVec.signExtend_eq_setWidth_of_le _ (by decide), e1, e2]
    exact byt0 _ _ (by omega)
  rw [this]
def by8 (a : Int32) (i : Nat) : Int32 := vp_nar .byte (i2b (shr a (nI (24 - 8 * i))))
def FD (b c s len : Nat) (a : Int32) (I I' : MI) : Prop := I' c s = nI (len + 4) ∧ (∀ j, j ≠ s → I' c j = I c j) ∧ (∀ p, p ≠ b → p ≠ c → I' p = I p) ∧ (∀ j, j < len → I' b j = I b j) ∧ ∀ i, i < 4 → I' b (len + i) = by8 a i
theorem sub8 : ∀ i : Nat, i < 4 → nI (24 - 8 * i) + (-8) = if i < 3 then nI (24 - 8 * (i + 1)) else -8 := by decide
theorem app_eq {I : MI} {len : Nat} {a : Int32} (h : I 1 1 = nI len) (hl : len + 4 ≤ 400) : ∃ I', f_X5_append a I L = some (I', L) ∧ FD 2 1 1 len a I I' := by
  unfold f_X5_append
  have := loop0 (fun fu (z : Int32 × MI) => f_X5_append_3 a L fu z.1 z.2) (fun i z => i ≤ 4 ∧ z.1 = (if i < 4 then nI (24 - 8 * i) else -8) ∧ z.2 1 1 = nI (len + i) ∧ (∀ j, j ≠ 1 → z.2 1 j = I 1 j) ∧ (∀ p, p ≠ 2 → p ≠ 1 → z.2 p = I p) ∧ (∀ j, j < len → z.2 2 j = I 2 j) ∧ ∀ t, t < i → z.2 2 (len + t) = by8 a t) (fun o => ∃ I', o = some (I', L) ∧ FD 2 1 1 len a I I') 4 (by decide) (24, I) ⟨by decide, rfl, h, fun _ _ => rfl, fun _ _ _ => rfl, fun _ _ => rfl, fun t ht => by omega⟩
    (fun fu i z hi hP => by
      obtain ⟨z1, J⟩ := z
      obtain ⟨_, p1, p2, p3, p4, p5, p6⟩ := hP
      dsimp only at p1 p2 p3 p4 p5 p6 ⊢
      subst p1
      by_cases c1 : i < 4
      · right
        refine ⟨c1, (if i + 1 < 4 then nI (24 - 8 * (i + 1)) else -8, up2 (up2 J 2 (len + i) (by8 a i)) 1 1 (nI (len + i + 1))), ?_, by omega, rfl, (by dsimp only; exact up2_s), fun j hj => ?_, fun p h2 h1 => ?_, fun j hj => ?_, fun t ht => ?_⟩
        · rw [if_pos c1, f_X5_append_3, if_neg (Int32.not_lt.mpr (nI_pos' (by omega))), p2, show (400 : Int32) = nI 400 from rfl, if_neg (by rw [q_le (by decide) (by omega)]; omega), q_chk (by omega) (by decide), bnd_eq, q_ix (by omega), bnd_eq, bnd_eq, up2_ne (by decide), p2, nI_1, sub8 i c1, byt a i c1]
          simp only [show (i + 1 < 4) = (i < 3) by simp; omega]
          rfl
        · dsimp only
          rw [up2_n hj, up2_ne (by decide)]; exact p3 j hj
        · dsimp only
          rw [up2_ne h1, up2_ne h2]; exact p4 p h2 h1
        · dsimp only
          rw [up2_ne (by decide), up2_n (by omega)]; exact p5 j hj
        · dsimp only
          rw [up2_ne (by decide)]
          by_cases e1 : t = i
          · rw [e1, up2_s]
          · rw [up2_n (by omega)]; exact p6 t (by omega)
      · left
        rw [if_neg c1, f_X5_append_3, if_pos (by decide)]
        have e4 : i = 4 := by omega
        subst e4
        exact ⟨J, rfl, p2, p3, p4, p5, p6⟩)
  exact this
theorem fds_eq {I : MI} {len : Nat} {a : Int32} (h : I 43 30 = nI len) (hl : len + 4 ≤ 400) : ∃ I', f_X8_feeds a I L = some (I', L) ∧ FD 66 43 30 len a I I' := by
  unfold f_X8_feeds
  have := loop0 (fun fu (z : Int32 × MI) => f_X8_feeds_3 a L fu z.1 z.2) (fun i z => i ≤ 4 ∧ z.1 = (if i < 4 then nI (24 - 8 * i) else -8) ∧ z.2 43 30 = nI (len + i) ∧ (∀ j, j ≠ 30 → z.2 43 j = I 43 j) ∧ (∀ p, p ≠ 66 → p ≠ 43 → z.2 p = I p) ∧ (∀ j, j < len → z.2 66 j = I 66 j) ∧ ∀ t, t < i → z.2 66 (len + t) = by8 a t) (fun o => ∃ I', o = some (I', L) ∧ FD 66 43 30 len a I I') 4 (by decide) (24, I) ⟨by decide, rfl, h, fun _ _ => rfl, fun _ _ _ => rfl, fun _ _ => rfl, fun t ht => by omega⟩
    (fun fu i z hi hP => by
      obtain ⟨z1, J⟩ := z
      obtain ⟨_, p1, p2, p3, p4, p5, p6⟩ := hP
      dsimp only at p1 p2 p3 p4 p5 p6 ⊢
      subst p1
      by_cases c1 : i < 4
      · right
        refine ⟨c1, (if i + 1 < 4 then nI (24 - 8 * (i + 1)) else -8, up2 (up2 J 66 (len + i) (by8 a i)) 43 30 (nI (len + i + 1))), ?_, by omega, rfl, (by dsimp only; exact up2_s), fun j hj => ?_, fun p h2 h1 => ?_, fun j hj => ?_, fun t ht => ?_⟩
        · rw [if_pos c1, f_X8_feeds_3, if_neg (Int32.not_lt.mpr (nI_pos' (by omega))), p2, q_chk (by omega) (by decide), bnd_eq, q_ix (by omega), bnd_eq, bnd_eq, up2_ne (by decide), p2, nI_1, sub8 i c1]
          simp only [show (i + 1 < 4) = (i < 3) by simp; omega]
          rfl
        · dsimp only
          rw [up2_n hj, up2_ne (by decide)]; exact p3 j hj
        · dsimp only
          rw [up2_ne h1, up2_ne h2]; exact p4 p h2 h1
        · dsimp only
          rw [up2_ne (by decide), up2_n (by omega)]; exact p5 j hj
        · dsimp only
          rw [up2_ne (by decide)]
          by_cases e1 : t = i
          · rw [e1, up2_s]
          · rw [up2_n (by omega)]; exact p6 t (by omega)
      · left
        rw [if_neg c1, f_X8_feeds_3, if_pos (by decide)]
        have e4 : i = 4 := by omega
        subst e4
        exact ⟨J, rfl, p2, p3, p4, p5, p6⟩)
  exact this
theorem FD_eq {I J I' J' : MI} {a : Int32} {len : Nat} (h : ∀ j, j < len → I 2 j = J 66 j) (h1 : FD 2 1 1 len a I I') (h2 : FD 66 43 30 len a J J') : ∀ j, j < len + 4 → I' 2 j = J' 66 j := by
  intro j hj
  by_cases c : j < len
  · rw [h1.2.2.2.1 j c, h2.2.2.2.1 j c]; exact h j c
  · have e1 := h1.2.2.2.2 (j - len) (by omega)
    have e2 := h2.2.2.2.2 (j - len) (by omega)
    rw [show len + (j - len) = j by omega] at e1 e2
    rw [e1, e2]
def FS (b c s len len' : Nat) (I I' : MI) : Prop := I' c s = nI len' ∧ (∀ j, j ≠ s → I' c j = I c j) ∧ (∀ p, p ≠ b → p ≠ c → I' p = I p)
theorem FD.fs {b c s len : Nat} {a : Int32} {I I' : MI} (h : FD b c s len a I I') : FS b c s len (len + 4) I I' := ⟨h.1, h.2.1, h.2.2.1⟩
theorem FS.tr {b c s x y z : Nat} {I I' I'' : MI} (h : FS b c s x y I I') (g : FS b c s y z I' I'') : FS b c s x z I I'' := ⟨g.1, fun j hj => (g.2.1 j hj).trans (h.2.1 j hj), fun p h1 h2 => (g.2.2 p h1 h2).trans (h.2.2 p h1 h2)⟩
/-- a call that changes the tape alone -/
theorem IV_tp {I I' : MI} (h : IV I L rm n m mv st) (hp : ∀ p, p ≠ 1 → p ≠ 2 → p ≠ 43 → p ≠ 66 → I' p = I p) (h43 : ∀ j, j ≠ 1 → j ≠ 30 → I' 43 j = I 43 j) (h1 : ∀ j, j ≠ 1 → I' 1 j = I 1 j) (hT : TP I') : Inv I' L rm := by
  obtain ⟨b1, b2, b3, b4, b5, b6, b7, b8⟩ := h
  refine ⟨n, m, mv, st, b1, b2.fr (fun p h => hp p (by omega) (by omega) (by omega) (by omega)), b3.of (h43 2 (by decide) (by decide)) (h43 20 (by decide) (by decide)) (hp 44 (by decide) (by decide) (by decide) (by decide)) (hp 52 (by decide) (by decide) (by decide) (by decide)) (hp 53 (by decide) (by decide) (by decide) (by decide)), ?_, hT, ?_, ?_, by rw [hp 0 (by decide) (by decide) (by decide) (by decide), h43 0 (by decide) (by decide)]; exact b8⟩
  · obtain ⟨kp, pm, pmv, pst, a1, a2, a3, a4⟩ := b4
    refine ⟨kp, pm, pmv, pst, a1, by rw [hp 37 (by decide) (by decide) (by decide) (by decide)]; exact a2, by rw [h43 3 (by decide) (by decide)]; exact a3, fun i hi => ?_⟩
    obtain ⟨d1, d2, d3, d4, d5, d6, d7⟩ := a4 i hi
    have k45 : I' 45 = I 45 := hp 45 (by decide) (by decide) (by decide) (by decide)
    exact ⟨d1, by rw [hp 40 (by decide) (by decide) (by decide) (by decide)]; exact d2, d3, d4, by rw [k45]; exact d5, Row_of k45 d6, fun t ht => Row_of k45 (d7 t ht)⟩
  · obtain ⟨ol, a1, a2, a3, a4⟩ := b6
    exact ⟨ol, a1, by rw [hp 0 (by decide) (by decide) (by decide) (by decide)]; exact a2, by rw [h43 28 (by decide) (by decide)]; exact a3, fun j hj => by rw [hp 42 (by decide) (by decide) (by decide) (by decide), hp 65 (by decide) (by decide) (by decide) (by decide)]; exact a4 j hj⟩
  · exact ⟨by rw [h1 14 (by decide), h43 31 (by decide) (by decide)]; exact b7.1, by rw [h1 15 (by decide), h43 32 (by decide) (by decide)]; exact b7.2⟩
theorem PR_1h : PR_1 Inv := by
  intro I L rm a0 a1 a2 a3 a4 ⟨n, m, mv, st, h⟩
  obtain ⟨hO, hC, hR, hP, hT, hU, hF, hS⟩ := id h
  obtain ⟨len, t1, t2, t3, t4⟩ := hT
  by_cases hl : len + 20 ≤ 400
  · obtain ⟨A1, x1, y1⟩ := app_eq (L := L) (a := a0) t2 (by omega)
    obtain ⟨A2, x2, y2⟩ := app_eq (L := L) (a := a1) y1.1 (by omega)
    obtain ⟨A3, x3, y3⟩ := app_eq (L := L) (a := a2) y2.1 (by omega)
    obtain ⟨A4, x4, y4⟩ := app_eq (L := L) (a := a3) y3.1 (by omega)
    obtain ⟨A5, x5, y5⟩ := app_eq (L := L) (a := a4) y4.1 (by omega)
    have fA := (((y1.fs.tr y2.fs).tr y3.fs).tr y4.fs).tr y5.fs
    have k30 : up2 A5 43 1 0 43 30 = nI len := by rw [up2_n (by decide), fA.2.2 43 (by decide) (by decide)]; exact t3
    obtain ⟨B1, u1, v1⟩ := fds_eq (L := L) (a := a0) k30 (by omega)
    obtain ⟨B2, u2, v2⟩ := fds_eq (L := L) (a := a1) v1.1 (by omega)
    obtain ⟨B3, u3, v3⟩ := fds_eq (L := L) (a := a2) v2.1 (by omega)
    obtain ⟨B4, u4, v4⟩ := fds_eq (L := L) (a := a3) v3.1 (by omega)
    obtain ⟨B5, u5, v5⟩ := fds_eq (L := L) (a := a4) v4.1 (by omega)
    have fB := (((v1.fs.tr v2.fs).tr v3.fs).tr v4.fs).tr v5.fs
    have q0 : ∀ j, j < len → I 2 j = up2 A5 43 1 0 66 j := fun j hj => by rw [up2_ne (by decide), fA.2.2 66 (by decide) (by decide)]; exact t4 j hj
    have q5 := FD_eq (FD_eq (FD_eq (FD_eq (FD_eq q0 y1 v1) y2 v2) y3 v3) y4 v4) y5 v5
    refine ⟨nI (len + 4 + 4 + 4 + 4 + 4), A5, L, ?_, B5, L, ?_, IV_tp h (fun p g1 g2 g3 g4 => by rw [fB.2.2 p g4 g3, up2_ne g3, fA.2.2 p g2 g1]) (fun j g1 g30 => by rw [fB.2.1 j g30, up2_n g1, fA.2.2 43 (by decide) (by decide)]) (fun j g1 => by rw [fB.2.2 1 (by decide) (by decide), up2_ne (by decide), fA.2.1 j g1]) ⟨len + 4 + 4 + 4 + 4 + 4, by omega, by rw [fB.2.2 1 (by decide) (by decide), up2_ne (by decide)]; exact fA.1, fB.1, fun j hj => by rw [fB.2.2 2 (by decide) (by decide), up2_ne (by decide)]; exact q5 j hj⟩⟩
    · have c1 : ¬ 400 < nI len + 20 := by rw [show (20 : Int32) = nI 20 from rfl, show (400 : Int32) = nI 400 from rfl, nI_add, q_lt (by decide) (by omega)]; omega
      simp (config := { decide := true }) only [f_X7_feed, f_X5_hasRoom, t2, c1, x1, x2, x3, x4, x5, fA.1, obs, bnd_eq, is_0, is_1, is_2, is_3, is_4, is_5, is_6, is_9, tell_eq, refuse_eq, refuse8_eq, b2i_1, b2i_0, if_true, if_false, ↓reduceIte]
    · have c1 : nI len + 20 ≤ 400 := by rw [show (20 : Int32) = nI 20 from rfl, show (400 : Int32) = nI 400 from rfl, nI_add, q_le (by omega) (by decide)]; omega
      simp (config := { decide := true }) only [f_X8_feed, k30, c1, u1, u2, u3, u4, u5, fB.1, obs, bnd_eq, is_0, is_1, is_2, is_3, is_4, is_5, is_6, is_9, tell_eq, refuse_eq, refuse8_eq, b2i_1, b2i_0, if_true, if_false, ↓reduceIte]
  · have k30 : up2 I 43 1 0 43 30 = nI len := by rw [up2_n (by decide)]; exact t3
    refine ⟨-1, I, L, ?_, up2 I 43 1 0, L, ?_, IV_tp h (fun p g1 g2 g3 g4 => up2_ne g3) (fun j g1 _ => up2_n g1) (fun j _ => by rw [up2_ne (by decide)]) ⟨len, t1, by rw [up2_ne (by decide)]; exact t2, k30, fun j hj => by rw [up2_ne (by decide), up2_ne (by decide)]; exact t4 j hj⟩⟩
    · have c1 : 400 < nI len + 20 := by rw [show (20 : Int32) = nI 20 from rfl, show (400 : Int32) = nI 400 from rfl, nI_add, q_lt (by decide) (by omega)]; omega
      simp (config := { decide := true }) only [f_X7_feed, f_X5_hasRoom, t2, c1, obs, bnd_eq, is_0, is_1, is_2, is_3, is_4, is_5, is_6, is_9, tell_eq, refuse_eq, refuse8_eq, b2i_1, b2i_0, if_true, if_false, ↓reduceIte]
    · have c1 : ¬ nI len + 20 ≤ 400 := by rw [show (20 : Int32) = nI 20 from rfl, show (400 : Int32) = nI 400 from rfl, nI_add, q_le (by omega) (by decide)]; omega
      simp (config := { decide := true }) only [f_X8_feed, k30, c1, obs, bnd_eq, is_0, is_1, is_2, is_3, is_4, is_5, is_6, is_9, tell_eq, refuse_eq, refuse8_eq, b2i_1, b2i_0, if_true, if_false, ↓reduceIte]
end FE
