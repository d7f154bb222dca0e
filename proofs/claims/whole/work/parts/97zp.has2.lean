section HB
theorem PR_31h : PR_31 Inv := by
  intro I L rm a ⟨n, m, mv, st, h⟩
  obtain ⟨hO, hC, hR, hP, hT, hU, hF, hS⟩ := id h
  have hn := hO.1
  have hin := isIn_eq a 0 3
  have hin : f_X8_isIn a.toInt64 0 3 = some (decide ((0 : Int32).toInt ≤ a.toInt ∧ a.toInt ≤ (3 : Int32).toInt)) := hin
  have iff : (¬ a < 0 ∧ a ≤ 3) ↔ ((0 : Int32).toInt ≤ a.toInt ∧ a.toInt ≤ (3 : Int32).toInt) := by
    rw [Int32.not_lt, Int32.le_iff_toInt_le, Int32.le_iff_toInt_le]
  by_cases hg : ¬ a < 0 ∧ a ≤ 3
  · rw [decide_eq_true (iff.mp hg)] at hin
    obtain ⟨g1, g2⟩ := hg
    by_cases h0 : n = 0
    · have e0 : nI n = 0 := by rw [h0]; rfl
      refine ⟨-1, up2 I 0 6 5, L, ?_, is8 (up2 I 0 6 5) 5, L, ?_, IV_q h (Q8_is (a := 5)) (RDY_is (RDY_s hR)) is8_0⟩
      · simp (config := { decide := true }) only [f_X7_has, g1, g2, hC.1, e0, obs, bnd_eq, is_0, is_1, is_2, is_3, is_4, is_5, is_6, is_9, tell_eq, refuse_eq, refuse8_eq, b2i_1, b2i_0, if_true, if_false, ↓reduceIte]
      · simp (config := { decide := true }) only [f_X8_has, hin, whyHere_n (w := 0) (RDY_s (s := 5) hR).1 h0, obs, bnd_eq, is_0, is_1, is_2, is_3, is_4, is_5, is_6, is_9, tell_eq, refuse_eq, refuse8_eq, b2i_1, b2i_0, if_true, if_false, ↓reduceIte]
    · have e0 : ¬ nI n = 0 := nI_ne0 (by omega) (by omega)
      have hn0 : 0 < n := by omega
      have wh := fun (J : MI) (M : ML) (hJ : RDY J n m mv st) => whyHere_p (L := M) hJ.1 hn h0
      have tell : ∀ (c : Bool) (J : MI) (M : ML), (if (b2i c) = 0 then Option.bind (f_X7_tell 0 J M) (fun q => some (q.1, q.2.1, q.2.2)) else Option.bind (f_X7_tell 1 J M) (fun q => some (q.1, q.2.1, q.2.2))) = some (b2i c, up2 J 0 6 0, M) := fun c J M => by cases c <;> rfl
      have told : ∀ (c : Bool) (J : MI) (M : ML), (if (b2i c) = 0 then some ((0 : Int32), J, M) else some (1, J, M)) = some (b2i c, J, M) := fun c J M => by cases c <;> rfl
      by_cases a0 : a = 0
      · obtain ⟨c, hc⟩ := em_B (∀ i, i < m → Zp m mv (mv i))
        have x1 := movesCommute_eq hO hC hc
        have R1 := RDY_is (a := 0) (RDY_s (s := 0) hR)
        obtain ⟨J, y1, y2⟩ := allGo_eq (M := L) hO R1.2.1 hc
        refine ⟨b2i c, up2 I 0 6 0, L, ?_, J, L, ?_, IV_q h (Q8_is.trans (Q8_fr y2 (by decide))) (R1.fr y2 (by decide)) (by rw [y2 43 (by decide)]; exact is8_0)⟩
        · unfold f_X7_has
          rw [if_neg g1, if_pos g2, hC.1, if_neg e0, if_pos a0, ob x1, bnd_eq]
          exact tell c I L
        · unfold f_X8_has
          rw [ob hin, bnd_eq, if_neg b2i_t]
          dsimp only
          rw [b2i_0, ob (wh _ _ (RDY_s hR)), ob is_0]
          dsimp only
          rw [if_neg b2i_t, if_pos a0, ob y1]
          exact told c J L
      · by_cases a1 : a = 1
        · obtain ⟨I1, L1, cnt, s, x1, x2, x3, x4, x5, x6, x7, x8, x9, x10⟩ := chn_core (db := 30) (c := false) h hn0 (Or.inl ⟨rfl, rfl⟩)
          have d1 : f_X2_descentByF I L = some (I1, L1) := by unfold f_X2_descentByF; rw [ob x1]
          have x9 := x9 (cnt - 1) (by omega)
          rw [if_pos (by omega)] at x9
          have eh : f_X1_endsAtHome 30 I1 L1 = some (decide (s (cnt - 1) = 1)) := by
            unfold f_X1_endsAtHome
            rw [x8, show (1 : Int32) = nI 1 from rfl, pk_sub x5, ob x9, ifc (q_eq (by have := (x7 (cnt - 1)).2; omega) (by decide))]
            by_cases e : s (cnt - 1) = 1
            · rw [if_pos e, decide_eq_true e]
            · rw [if_neg e, decide_eq_false e]
          have R1 := RDY_is (a := 0) (RDY_s (s := 0) x4)
          obtain ⟨J, y1, y2, y3, y4⟩ := endsHome_eq (M := L1) x5 x6 x7 x10 R1
          refine ⟨b2i (decide (s (cnt - 1) = 1)), up2 I1 0 6 0, L1, ?_, J, L1, ?_, IV_fin h (CI_s x2) (x3.trans CO_s) (Q8_is.trans y3) y2 (by rw [up2_s, y4]; exact is8_0.symm)⟩
          · unfold f_X7_has
            rw [if_neg g1, if_pos g2, hC.1, if_neg e0, if_neg a0, if_pos a1, ob d1]
            dsimp only
            rw [ob eh, bnd_eq]
            exact tell _ I1 L1
          · unfold f_X8_has
            rw [ob hin, bnd_eq, if_neg b2i_t]
            dsimp only
            rw [b2i_0, ob (wh _ _ (RDY_s x4)), ob is_0]
            dsimp only
            rw [if_neg b2i_t, if_neg a0, if_pos a1, ob y1]
            exact told _ J L1
        · by_cases a2 : a = 2
          · obtain ⟨c, hc⟩ := em_B (∀ i, i < m → EvP n (mv i))
            have x1 := movesAreEven_eq hO hC hc
            have R1 := RDY_is (a := 0) (RDY_s (s := 0) hR)
            obtain ⟨J, y1, y2⟩ := allEven_eq (M := L) hO R1.1 R1.2.1 hc
            refine ⟨b2i c, up2 I 0 6 0, L, ?_, J, L, ?_, IV_q h (Q8_is.trans (Q8_fr y2 (by decide))) (R1.fr y2 (by decide)) (by rw [y2 43 (by decide)]; exact is8_0)⟩
            · unfold f_X7_has
              rw [if_neg g1, if_pos g2, hC.1, if_neg e0, if_neg a0, if_neg a1, if_pos a2, ob x1, bnd_eq]
              exact tell c I L
            · unfold f_X8_has
              rw [ob hin, bnd_eq, if_neg b2i_t]
              dsimp only
              rw [b2i_0, ob (wh _ _ (RDY_s hR)), ob is_0]
              dsimp only
              rw [if_neg b2i_t, if_neg a0, if_neg a1, if_pos a2, ob y1]
              exact told c J L
          · obtain ⟨c, hc⟩ := em_B (Prm n m mv)
            obtain ⟨I1, x1, x2⟩ := isPrimC_eq hO hC hn0 hc
            have C1 := hC.g36 x2
            have k1 : ∀ p, p = 1 ∨ p = 2 ∨ p = 42 ∨ (43 ≤ p ∧ p < 69) → up2 I1 0 6 0 p = I p := fun p hp => by rw [up2_ne (by omega), x2 p (by omega)]
            have R1 : RDY (up2 I1 0 6 0) n m mv st := hR.of (by rw [k1 43 (by decide)]) (by rw [k1 43 (by decide)]) (k1 44 (by decide)) (k1 52 (by decide)) (k1 53 (by decide))
            have R2 := RDY_is (a := 0) R1
            obtain ⟨J, y1, y2⟩ := isPrimR_eq (M := L) hO R2.1 R2.2.1 hn0 hc
            have hc : CO I L I1 L := ⟨fun p hp => x2 p (by omega), fun j _ => by rw [x2 0 (by decide)], rfl, rfl⟩
            refine ⟨b2i c, up2 I1 0 6 0, L, ?_, J, L, ?_, IV_fin h (CI_s C1) (hc.trans CO_s) (Q8_is.trans (Q8_fr y2 (by decide))) (R2.fr y2 (by decide)) (by rw [up2_s, y2 43 (by decide)]; exact is8_0.symm)⟩
            · unfold f_X7_has
              rw [if_neg g1, if_pos g2, hC.1, if_neg e0, if_neg a0, if_neg a1, if_neg a2, ob x1]
              dsimp only
              rw [bnd_eq]
              exact tell c I1 L
            · unfold f_X8_has
              rw [ob hin, bnd_eq, if_neg b2i_t]
              dsimp only
              rw [b2i_0, ob (wh _ _ R1), ob is_0]
              dsimp only
              rw [if_neg b2i_t, if_neg a0, if_neg a1, if_neg a2, ob y1]
              exact told c J L
  · rw [decide_eq_false (fun g => hg (iff.mpr g))] at hin
    refine ⟨-1, up2 I 0 6 1, L, ?_, is8 (up2 I 0 6 1) 1, L, ?_, IV_q h (Q8_is (a := 1)) (RDY_is (RDY_s hR)) is8_0⟩
    · by_cases g1 : a < 0
      · simp (config := { decide := true }) only [f_X7_has, g1, obs, bnd_eq, is_0, is_1, is_2, is_3, is_4, is_5, is_6, is_9, tell_eq, refuse_eq, refuse8_eq, b2i_1, b2i_0, if_true, if_false, ↓reduceIte]
      · have g2 : ¬ a ≤ 3 := fun g2 => hg ⟨g1, g2⟩
        simp (config := { decide := true }) only [f_X7_has, g1, g2, obs, bnd_eq, is_0, is_1, is_2, is_3, is_4, is_5, is_6, is_9, tell_eq, refuse_eq, refuse8_eq, b2i_1, b2i_0, if_true, if_false, ↓reduceIte]
    · simp (config := { decide := true }) only [f_X8_has, hin, whyHere_1, obs, bnd_eq, is_0, is_1, is_2, is_3, is_4, is_5, is_6, is_9, tell_eq, refuse_eq, refuse8_eq, b2i_1, b2i_0, if_true, if_false, ↓reduceIte]
end HB
