/-! Printing: the reference -/
section PQ
variable {n m rm : Nat} {mv : Nat → Nat → Nat} {st : Nat → Nat} {I : MI} {L : ML} {p : Nat → Nat}
theorem pr78 {i : Nat} {l : List Int32} (hn : n ≤ 10) (hp : IsP n p) (hi : i < n) (hr : Row I 46 0 p) (hl : l.length + 2 * (cl p i - 1) ≤ 39) (h : Wm I 65 43 28 l) (k0 : MI → ML → Option (Int32 × Mm)) : ∃ I', f_X8_print_78 (nI i) k0 FU (nI (p i)) I L = k0 I' L ∧ Wm I' 65 43 28 (l ++ ct p i (cl p i - 1)) ∧ Fw 65 43 28 I I' := by
  obtain ⟨c1, c2, c3, c4⟩ := cl_spec hn hp hi
  exact loop0 (fun fu (z : Int32 × MI × ML) => f_X8_print_78 (nI i) k0 fu z.1 z.2.1 z.2.2) (fun t z => t + 1 ≤ cl p i ∧ z.1 = nI (pw p (t + 1) i) ∧ z.2.2 = L ∧ Wm z.2.1 65 43 28 (l ++ ct p i t) ∧ Fw 65 43 28 I z.2.1) (fun o => ∃ I', o = k0 I' L ∧ Wm I' 65 43 28 (l ++ ct p i (cl p i - 1)) ∧ Fw 65 43 28 I I') (cl p i - 1) (by omega) (nI (p i), I, L) ⟨c1, rfl, rfl, by show Wm I 65 43 28 (l ++ []); rw [List.append_nil]; exact h, Fw.refl⟩
    (fun fu t z ht hP => by
      obtain ⟨z1, K, M⟩ := z
      obtain ⟨p0, p1, p3, p4, p5⟩ := hP
      dsimp only at p1 p3 p4 p5 ⊢
      subst p1 p3
      have hx := pw_lt hp hi (t + 1)
      rw [f_X8_print_78, ifc (q_eq (by omega) (by omega))]
      by_cases e1 : t + 1 = cl p i
      · left
        rw [if_pos (by rw [e1]; exact c3)]
        exact ⟨K, rfl, by rw [show cl p i - 1 = t by omega]; exact p4, p5⟩
      · right
        have ll : (l ++ ct p i t).length = l.length + 2 * t := by rw [List.length_append, ct_len]
        obtain ⟨K1, g1, g2, g3⟩ := wr8_eq (L := M) (v := 32) p4 (by omega)
        obtain ⟨K2, k1, k2, k3⟩ := wr8_eq (L := M) (v := 48 + nI (pw p (t + 1) i)) g2 (by rw [List.length_append]; show (l ++ ct p i t).length + 1 < 40; omega)
        have f2 := (p5.trans g3).trans k3
        refine ⟨by omega, (nI (pw p (t + 1 + 1) i), K2, M), ?_, by omega, rfl, rfl, ?_, f2⟩
        · rw [if_neg (c4 (t + 1) (by omega) (by omega)), ob g1]
          dsimp only
          rw [ob k1, q_chk (by omega) (by decide), bnd_eq, q_ix (by omega)]
          dsimp only
          rw [Row0 (Row_of (f2.1 46 (by decide) (by decide)) hr) (show pw p (t + 1) i < 10 by omega), pw_s (t + 1) i]
        · show Wm K2 65 43 28 (l ++ (ct p i t ++ [nb 32, nb (48 + nI (pw p (t + 1) i))]))
          rw [List.append_assoc] at k2
          rw [← List.append_assoc]
          exact k2)
theorem pr33 (hn : n ≤ 10) (hp : IsP n p) (h43 : I 43 2 = nI n) (hr : Row I 46 0 p) (h : Wm I 65 43 28 []) (k0 : MI → ML → Option (Int32 × Mm)) : ∃ I', f_X8_print_33 k0 FU 0 I L = k0 I' L ∧ Wm I' 65 43 28 (plo p n) ∧ Fw 65 43 28 I I' := by
  have := loop0 (fun fu (z : Int32 × MI × ML) => f_X8_print_33 k0 fu z.1 z.2.1 z.2.2) (fun i z => i ≤ n ∧ z.1 = nI i ∧ z.2.2 = L ∧ Wm z.2.1 65 43 28 (plo p i) ∧ Fw 65 43 28 I z.2.1) (fun o => ∃ I', o = k0 I' L ∧ Wm I' 65 43 28 (plo p n) ∧ Fw 65 43 28 I I') n (by omega) (nI 0, I, L) ⟨Nat.zero_le _, rfl, rfl, h, Fw.refl⟩
    (fun fu i z hi hP => by
      obtain ⟨z1, K, M⟩ := z
      obtain ⟨_, p1, p2, p3, p4⟩ := hP
      dsimp only at p1 p2 p3 p4 ⊢
      subst p1 p2
      have e6 : K 43 2 = nI n := by rw [p4.2 2 (by decide)]; exact h43
      have rK : Row K 46 0 p := Row_of (p4.1 46 (by decide) (by decide)) hr
      rw [f_X8_print_33, e6, ifc (q_le (by omega) (by omega))]
      by_cases c1 : n ≤ i
      · left
        have ei : i = n := by omega
        subst ei
        rw [if_pos c1]
        exact ⟨K, rfl, p3, p4⟩
      · right
        have hi2 : i < n := by omega
        obtain ⟨c1', c2', c3', c4'⟩ := cl_spec hn hp hi2
        refine ⟨hi2, ?_⟩
        rw [if_neg c1, ob (cycleFrom_eq hn hp rK hi2)]
        by_cases c : mn p i = true ∧ 2 ≤ cl p i
        · have hlen := cyo_len hn hp hi2 c.1 c.2
          obtain ⟨K1, g1, g2, g3⟩ := wr8_eq (L := M) (v := 40) p3 (by omega)
          obtain ⟨K2, k1, k2, k3⟩ := wr8_eq (L := M) (v := 48 + nI i) g2 (by rw [List.length_append]; show (plo p i).length + 1 < 40; omega)
          have ll : (plo p i ++ [nb 40] ++ [nb (48 + nI i)]).length = (plo p i).length + 2 := by rw [List.length_append, List.length_append]; rfl
          have r2 : Row K2 46 0 p := Row_of ((g3.trans k3).1 46 (by decide) (by decide)) rK
          generalize hk0 : (fun (I_19 : MI) (L_20 : ML) => Option.bind (f_X8_writes 41 I_19 L_20) (fun q_21 => bnd (nI i + 1 : Int32) (fun v3_22 => f_X8_print_33 k0 fu v3_22 q_21.1 q_21.2))) = k2'
          obtain ⟨K3, u1, u2, u3⟩ := pr78 (L := M) hn hp hi2 r2 (by rw [ll]; omega) k2 k2'
          obtain ⟨K4, v1, v2, v3⟩ := wr8_eq (L := M) (v := 41) u2 (by rw [List.length_append, ll, ct_len]; omega)
          refine ⟨(nI (i + 1), K4, M), ?_, by omega, rfl, rfl, ?_, (((p4.trans g3).trans k3).trans u3).trans v3⟩
          · rw [if_pos (show (2 : Int32) ≤ nI (if mn p i = true then cl p i else 0) by rw [if_pos c.1, show (2 : Int32) = nI 2 from rfl, q_le (by decide) (by omega)]; exact c.2), ob g1]
            dsimp only
            rw [ob k1]
            dsimp only
            rw [q_chk (by omega) (by decide), bnd_eq, q_ix (by omega), Row0 r2 (by omega), u1, ← hk0]
            dsimp only
            rw [ob v1]
            dsimp only
            rw [bnd_eq, nI_1]
          · show Wm K4 65 43 28 (plo p i ++ cyo p i)
            unfold cyo
            rw [if_pos c]
            have e : plo p i ++ [nb 40] ++ [nb (48 + nI i)] ++ ct p i (cl p i - 1) ++ [nb 41] = plo p i ++ ([nb 40, nb (48 + nI i)] ++ ct p i (cl p i - 1) ++ [nb 41]) := by simp
            rw [← e]; exact v2
        · refine ⟨(nI (i + 1), K, M), ?_, by omega, rfl, rfl, ?_, p4⟩
          · rw [if_neg (show ¬ (2 : Int32) ≤ nI (if mn p i = true then cl p i else 0) from fun g => by
              by_cases hm : mn p i = true
              · rw [if_pos hm, show (2 : Int32) = nI 2 from rfl, q_le (by decide) (by omega)] at g
                exact c ⟨hm, g⟩
              · rw [if_neg hm] at g; exact absurd g (by decide)), bnd_eq, nI_1]
          · show Wm K 65 43 28 (plo p i ++ cyo p i)
            unfold cyo
            rw [if_neg c, List.append_nil]; exact p3)
  rw [nI_0] at this
  exact this
theorem fno_len (hn : n ≤ 10) (hp : IsP n p) : (fno p n).length ≤ 32 := by
  unfold fno
  have := plo_30 hn hp (Nat.le_refl n)
  by_cases c : (plo p n).length = 0
  · rw [if_pos c]; decide
  · rw [if_neg c]; omega
theorem PR_58h : PR_58 Inv := by
  intro I L rm x ⟨n, m, mv, st, h⟩
  obtain ⟨hO, hC, hR, hP, hT, hU, hF, hS⟩ := id h
  have hn := hO.1
  rcases rd hn x with ⟨p, hp, h0, e1, e2⟩ | ⟨e1, e2⟩
  · have h30 := plo_30 hn hp (Nat.le_refl n)
    have W0 : Wm (up2 I 0 4 0) 42 0 4 [] := ⟨up2_s, fun j hj => absurd hj (Nat.not_lt_zero _)⟩
    have f0 : Fw 42 0 4 I (up2 I 0 4 0) := ⟨fun q _ h2 => up2_ne h2, fun j hj => up2_n hj⟩
    have key : ∃ I1, f_X7_printCycles (tn n p) I L = some (I1, L) ∧ Wm I1 42 0 4 (fno p n) ∧ Fw 42 0 4 I I1 := by
      unfold f_X7_printCycles
      rw [bnd_eq]
      generalize hk0 : (fun (I_16 : MI) (L_17 : ML) => if (I_16 0 4) = 0 then Option.bind (f_X7_printByte 40 I_16 L_17) (fun q_18 => Option.bind (f_X7_printByte 41 q_18.1 q_18.2) (fun q_19 => some (q_19.1, q_19.2))) else some (I_16, L_17)) = k0
      obtain ⟨K, a1, a2, a3⟩ := pcs10 (L := L) hn hp (by rw [up2_ne (by decide)]; exact hC.1) W0 k0
      rw [a1, ← hk0]
      dsimp only
      unfold fno
      by_cases c : (plo p n).length = 0
      · have e0 : K 0 4 = 0 := by rw [a2.1, c]; rfl
        have en : plo p n = [] := List.length_eq_zero_iff.mp c
        rw [en] at a2
        obtain ⟨K1, g1, g2, g3⟩ := pB_eq (L := L) (v := 40) a2 (by decide)
        obtain ⟨K2, k1, k2, k3⟩ := pB_eq (L := L) (v := 41) g2 (by decide)
        rw [if_pos e0, if_pos c, ob g1]
        dsimp only
        rw [ob k1]
        exact ⟨K2, rfl, k2, ((f0.trans a3).trans g3).trans k3⟩
      · have e0 : ¬ K 0 4 = 0 := by rw [a2.1]; exact nI_ne0 (by omega) (by omega)
        rw [if_neg e0, if_neg c]
        exact ⟨K, rfl, a2, f0.trans a3⟩
    obtain ⟨I1, a1, a2, a3⟩ := key
    have hlen := fno_len hn hp
    -- the reference
    have k1 : ∀ q, q ≠ 0 → q ≠ 42 → up2 I1 0 6 0 q = I q := fun q h0 h42 => by rw [up2_ne h0, a3.1 q h42 h0]
    have R1 : RDY (up2 I1 0 6 0) n m mv st := hR.of (by rw [k1 43 (by decide) (by decide)]) (by rw [k1 43 (by decide) (by decide)]) (k1 44 (by decide) (by decide)) (k1 52 (by decide) (by decide)) (k1 53 (by decide) (by decide))
    have j3 : Fr [46] (up2 I1 0 6 0) (wp (up2 I1 0 6 0) 46 0 p) := Fr_wp (by decide)
    have R2 := RDY_is (a := 0) (R1.fr j3 (by decide))
    obtain ⟨J, hJ⟩ : ∃ J, J = up2 (is8 (wp (up2 I1 0 6 0) 46 0 p) 0) 43 28 0 := ⟨_, rfl⟩
    have W1 : Wm J 65 43 28 [] := ⟨by rw [hJ]; exact up2_s, fun j hj => absurd hj (Nat.not_lt_zero _)⟩
    have J43 : J 43 2 = nI n := by rw [hJ, up2_n (by decide)]; exact R2.1
    have J46 : Row J 46 0 p := by rw [hJ]; exact Row_of (up2_ne (by decide)) (Row_is (by decide) Row_wp)
    have key2 : ∃ I2, f_X8_print x (up2 I1 0 6 0) L = some (nI (fno p n).length, I2, L) ∧ Wm I2 65 43 28 (fno p n) ∧ Fw 65 43 28 J I2 := by
      generalize hk0 : (fun (I_24 : MI) (L_25 : ML) => if (I_24 43 28) = 0 then Option.bind (f_X8_writes 40 I_24 L_25) (fun q_26 => Option.bind (f_X8_writes 41 q_26.1 q_26.2) (fun q_27 => some ((q_27.1 43 28), q_27.1, q_27.2))) else some ((I_24 43 28), I_24, L_25)) = k0
      obtain ⟨K, b1, b2, b3⟩ := pr33 (L := L) hn hp J43 J46 W1 k0
      have hpr : f_X8_print x (up2 I1 0 6 0) L = k0 K L := by
        unfold f_X8_print
        rw [ob (e2 46 _ L (by decide) R1.1), bnd_eq]
        dsimp only
        rw [if_neg b2i_t, show b2i false = 0 from rfl, ob is_0]
        dsimp only
        rw [if_neg b2i_t, bnd_eq, hk0, ← hJ]
        exact b1
      rw [hpr, ← hk0]
      dsimp only
      unfold fno
      by_cases c : (plo p n).length = 0
      · have e0 : K 43 28 = 0 := by rw [b2.1, c]; rfl
        have en : plo p n = [] := List.length_eq_zero_iff.mp c
        rw [en] at b2
        obtain ⟨K1, g1, g2, g3⟩ := wr8_eq (L := L) (v := 40) b2 (by decide)
        obtain ⟨K2, k1, k2, k3⟩ := wr8_eq (L := L) (v := 41) g2 (by decide)
        rw [if_pos e0, if_pos c, ob g1]
        dsimp only
        rw [ob k1]
        dsimp only
        exact ⟨K2, by rw [k2.1]; rfl, k2, (b3.trans g3).trans k3⟩
      · have e0 : ¬ K 43 28 = 0 := by rw [b2.1]; exact nI_ne0 (by omega) (by omega)
        rw [if_neg e0, if_neg c]
        exact ⟨K, by rw [b2.1], b2, b3⟩
    obtain ⟨I2, b1, b2, b3⟩ := key2
    have kq : ∀ q, q ≠ 0 → q ≠ 42 → q ≠ 43 → q ≠ 46 → q ≠ 65 → I2 q = I q := fun q h0 h42 h43 h46 h65 => by
      rw [b3.1 q h65 h43, hJ, up2_ne h43, is8_ne h43, j3 q (by simp [h46]), k1 q h0 h42]
    have k43 : ∀ j, j ≠ 0 → j ≠ 1 → j ≠ 28 → I2 43 j = I 43 j := fun j h0 h1 h28 => by
      rw [b3.2 j h28, hJ, up2_n h28]
      unfold is8
      rw [up2_n h0, up2_n h1, j3 43 (by decide), k1 43 (by decide) (by decide)]
    have k0' : ∀ j, I2 0 j = up2 I1 0 6 0 0 j := fun j => by
      rw [b3.1 0 (by decide) (by decide), hJ, up2_ne (by decide), is8_ne (by decide), j3 0 (by decide)]
    have k42 : I2 42 = I1 42 := by rw [b3.1 42 (by decide) (by decide), hJ, up2_ne (by decide), is8_ne (by decide), j3 42 (by decide), up2_ne (by decide)]
    refine ⟨nI (fno p n).length, up2 I1 0 6 0, L, ?_, I2, L, b1, n, m, mv, st, hO, hC.fr (fun q hq => kq q (by omega) (by omega) (by omega) (by omega) (by omega)), hR.of (k43 2 (by decide) (by decide) (by decide)) (k43 20 (by decide) (by decide) (by decide)) (kq 44 (by decide) (by decide) (by decide) (by decide) (by decide)) (kq 52 (by decide) (by decide) (by decide) (by decide) (by decide)) (kq 53 (by decide) (by decide) (by decide) (by decide) (by decide)), ?_, ?_, ?_, ?_, ?_⟩
    · simp (config := { decide := true }) only [f_X7_print, read_eq hC.1 e1, cmp_tn hn hp, a1, a2.1, obs, bnd_eq, is_0, is_1, is_2, is_3, is_4, is_5, is_6, is_9, tell_eq, refuse_eq, refuse8_eq, b2i_1, b2i_0, if_true, if_false, ↓reduceIte]
    · obtain ⟨kp, pm, pmv, pst, o1, o2, o3⟩ := OT_s hP
      exact OT_m o1 (o2.fr (by rw [kq 37 (by decide) (by decide) (by decide) (by decide) (by decide)]) (kq 40 (by decide) (by decide) (by decide) (by decide) (by decide)) rfl rfl) (o3.fr (k43 3 (by decide) (by decide) (by decide)) (kq 45 (by decide) (by decide) (by decide) (by decide) (by decide)))
    · obtain ⟨len, t1, t2, t3, t4⟩ := hT
      exact ⟨len, t1, by rw [kq 1 (by decide) (by decide) (by decide) (by decide) (by decide)]; exact t2, by rw [k43 30 (by decide) (by decide) (by decide)]; exact t3, fun j hj => by rw [kq 2 (by decide) (by decide) (by decide) (by decide) (by decide), kq 66 (by decide) (by decide) (by decide) (by decide) (by decide)]; exact t4 j hj⟩
    · exact ⟨(fno p n).length, hlen, by rw [k0', up2_n (by decide)]; exact a2.1, b2.1, fun j hj => by rw [k42, a2.2 j hj, b2.2 j hj]⟩
    · exact ⟨by rw [kq 1 (by decide) (by decide) (by decide) (by decide) (by decide), k43 31 (by decide) (by decide) (by decide)]; exact hF.1, by rw [kq 1 (by decide) (by decide) (by decide) (by decide) (by decide), k43 32 (by decide) (by decide) (by decide)]; exact hF.2⟩
    · rw [k0', up2_s, b3.2 0 (by decide), hJ, up2_n (by decide)]; exact is8_0.symm
  · obtain ⟨I', f1, f2⟩ := e2 46 (up2 I 0 6 1) L (by decide) (RDY_s (s := 1) hR).1
    refine ⟨-1, up2 I 0 6 1, L, ?_, is8 I' 1, L, ?_, IV_q h ((Q8_fr f2 (by decide)).trans (Q8_is (a := 1))) (RDY_is ((RDY_s hR).fr f2 (by decide))) is8_0⟩
    · simp (config := { decide := true }) only [f_X7_print, read_eq hC.1 e1, cmp_m1, obs, bnd_eq, is_0, is_1, is_2, is_3, is_4, is_5, is_6, is_9, tell_eq, refuse_eq, refuse8_eq, b2i_1, b2i_0, if_true, if_false, ↓reduceIte]
    · unfold f_X8_print
      rw [ob f1, bnd_eq]
      dsimp only
      rw [if_pos b2i_f, show b2i true = 1 from rfl, ob is_1]
      dsimp only
      rw [if_pos b2i_f]
end PQ
