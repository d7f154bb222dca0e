/-! Loading: points, a line -/
section LZ
variable {b : Nat → Int32} {last i s e k n m : Nat} {mv : Nat → Nat → Nat} {ns ne : Nat → Nat} {I J I' J' : MI} {L M L' M' : ML} {p : Nat → Nat}
theorem ts_2 {k : Nat} (h : k ≤ 59) : (nI (ts k) = 2) = (k = 2) := by
  rw [show (2 : Int32) = nI 2 from rfl, q_eq (by unfold ts; split <;> (try split) <;> omega) (by decide)]
  apply propext
  unfold ts
  split
  · omega
  · split <;> omega
theorem ts_0 {k : Nat} (h : k ≤ 59) : (nI (ts k) = 0) = (k = 0) := by
  rw [show (0 : Int32) = nI 0 from rfl, q_eq (by unfold ts; split <;> (try split) <;> omega) (by decide)]
  apply propext
  unfold ts
  split
  · omega
  · split <;> omega
theorem isIn_any (a b c : Int64) : ∃ r, f_X8_isIn a b c = some r := by
  unfold f_X8_isIn
  split
  · exact ⟨_, rfl⟩
  · split <;> exact ⟨_, rfl⟩
theorem words3 (hP : PU b last n m mv ns ne) (hT : TkE b last s e k) (hC : CSt b last I L s e k n m mv ns ne) (hR : RSt b last J M s e k n m mv ns ne) (hk : k = 1) : ∃ w0 w1 w2 : Bool, f_X5_says 0 I L = some w0 ∧ f_X5_says 1 I L = some w1 ∧ f_X5_says 2 I L = some w2 ∧ f_X8_isWord 237742039 J M = some w0 ∧ f_X8_isWord 267413 J M = some w1 ∧ f_X8_isWord 464134 J M = some w2 ∧ (w0 = true → w1 = false ∧ w2 = false) := by
  obtain ⟨i, hT⟩ := hT
  subst hk
  have hW := Tok_W hT
  have a0 := isWord_eq (M := M) (c := 237742039) hR.2.2.2.1 hR.2.2.1 rfl hW (by decide)
  have a1 := isWord_eq (M := M) (c := 267413) hR.2.2.2.1 hR.2.2.1 rfl hW (by decide)
  have a2 := isWord_eq (M := M) (c := 464134) hR.2.2.2.1 hR.2.2.1 rfl hW (by decide)
  refine ⟨_, _, _, says_eq (L := L) (by decide) hP.1 hC.2.2.1 hC.2.1 hW ?_, says_eq (L := L) (by decide) hP.1 hC.2.2.1 hC.2.1 hW ?_, says_eq (L := L) (by decide) hP.1 hC.2.2.1 hC.2.1 hW ?_, a0, a1, a2, fun h => ?_⟩
  · rw [wC3_0]; exact decide_eq_true_iff
  · rw [wC3_1]; exact decide_eq_true_iff
  · rw [wC3_2]; exact decide_eq_true_iff
  · have h := of_decide_eq_true h
    exact ⟨decide_eq_false (by omega), decide_eq_false (by omega)⟩
/-- how a line, up to its end, may end -/
def LO (b : Nat → Int32) (last : Nat) (I : MI) (L : ML) (J : MI) (M : ML) (s : Nat) (oc : Option (Bool × Mm)) (or : Option Mm) : Prop :=
  (∃ c w m', CFl I L oc c w ∧ RFl J M or c w m') ∨
  (∃ s' e' m' J' M', CFl I L oc 2 s' ∧ TkE b last s' e' 1 ∧ or = some (J', M') ∧ J' 43 33 = 0 ∧ J' 43 39 = nI last ∧ (∀ j, j < last → J' 66 j = b j) ∧ RTk b J' M' s' e' 1 ∧ J' 43 41 = nI m' ∧ m' ≤ 6 ∧ FRf J M J' M') ∨
  (∃ s' e' k' n' m' mv' ns' ne' I' L' J' M', s ≤ s' ∧ n' ≠ 0 ∧ PU b last n' m' mv' ns' ne' ∧ TkE b last s' e' k' ∧ oc = some (true, I', L') ∧ CSt b last I' L' s' e' k' n' m' mv' ns' ne' ∧ FC I L I' L' ∧ or = some (J', M') ∧ RSt b last J' M' s' e' k' n' m' mv' ns' ne' ∧ FRf J M J' M')
theorem LO.tr {oc : Option (Bool × Mm)} {or : Option Mm} {s1 : Nat} (h1 : FC I L I' L') (h2 : FRf J M J' M') (hs : s ≤ s1) (g : LO b last I' L' J' M' s1 oc or) : LO b last I L J M s oc or := by
  rcases g with ⟨c, w, m', a, d⟩ | ⟨s', e', m', J2, M2, a1, a2, a3, a4, a5, a6, a7, a8, a9, a10⟩ | ⟨s', e', k', n', m', mv', ns', ne', I2, L2, J2, M2, a1, a2, a3, a4, a5, a6, a7, a8, a9, a10⟩
  · exact Or.inl ⟨c, w, m', a.tr h1, d.tr h2⟩
  · exact Or.inr (Or.inl ⟨s', e', m', J2, M2, a1.tr h1, a2, a3, a4, a5, a6, a7, a8, a9, h2.trans a10⟩)
  · exact Or.inr (Or.inr ⟨s', e', k', n', m', mv', ns', ne', I2, L2, J2, M2, by omega, a2, a3, a4, a5, a6, h1.trans a7, a8, a9, h2.trans a10⟩)
theorem readsPoints_no (hP : PU b last n m mv ns ne) (hT : TkE b last s e k) (hR : RSt b last J M s e k n m mv ns ne) (hn : n ≠ 0) : RFl J M (f_X8_readsPoints J M) (mc 2 k) s m := by
  obtain ⟨i, hT'⟩ := hT
  have hlt := Tok_lt hT'
  obtain ⟨J1, y1, y2, y3⟩ := must_f (a := 2) hP hR (by omega) (by decide) (by decide)
  have y1 : f_X8_must false 2 J M = some (J1, M) := y1
  refine ⟨J1, M, ?_, y2, y3⟩
  unfold f_X8_readsPoints
  rw [bnd_eq, hR.2.2.2.2.1, if_neg (nI_ne0 (by omega) (by have := hP.2.1; omega))]
  dsimp only
  rw [ob y1]
  dsimp only
  rw [ob (bad_goesOn y2)]
  dsimp only
  rw [bnd_eq]
  obtain ⟨r, hr⟩ := isIn_any (Int32.toInt64 (J1 43 38)) 2 10
  split
  · dsimp only
    rw [ob (bad_must y2 _ _)]
    dsimp only
    rw [ob hr, ob (bad_must y2 _ _)]
    dsimp only
    rw [ob (bad_good y2), if_pos b2i_f, ob (bad_goesOn y2)]
  · dsimp only
    rw [ob (bad_must y2 _ _)]
    dsimp only
    rw [ob hr, ob (bad_must y2 _ _)]
    dsimp only
    rw [ob (bad_good y2), if_pos b2i_f, ob (bad_goesOn y2)]
theorem CSt.n0 {n' : Nat} (hm : m = 0) (h : CSt b last I L s e k n m mv ns ne) : CSt b last (up2 I 1 7 (nI n')) L s e k n' m mv ns ne := by
  obtain ⟨c1, c2, c3, c4, c5, c6, c7, c8, c9⟩ := h
  unfold CSt CTk at *
  rw [up2_ne (show 2 ≠ 1 by decide), up2_n (show 2 ≠ 7 by decide), up2_n (show 3 ≠ 7 by decide), up2_n (show 5 ≠ 7 by decide), up2_n (show 4 ≠ 7 by decide), up2_n (show 6 ≠ 7 by decide), up2_n (show 1 ≠ 7 by decide), up2_n (show 14 ≠ 7 by decide), up2_n (show 15 ≠ 7 by decide), up2_n (show 8 ≠ 7 by decide)]
  exact ⟨c1, c2, c3, c4, c5, c6, up2_s, c8, fun t ht => by omega⟩
theorem RSt.n0 {n' : Nat} (hm : m = 0) (h : RSt b last J M s e k n m mv ns ne) : RSt b last (up2 J 43 40 (nI n')) M s e k n' m mv ns ne := by
  obtain ⟨c1, c2, c3, c4, c5, c6, c7⟩ := h
  unfold RSt RTk at *
  rw [up2_ne (show 66 ≠ 43 by decide), up2_n (show 39 ≠ 40 by decide), up2_n (show 35 ≠ 40 by decide), up2_n (show 36 ≠ 40 by decide), up2_n (show 37 ≠ 40 by decide), up2_n (show 38 ≠ 40 by decide), up2_n (show 33 ≠ 40 by decide), up2_n (show 41 ≠ 40 by decide)]
  exact ⟨c1, c2, c3, c4, up2_s, c6, fun t ht => by omega⟩
theorem points_LO (hP : PU b last n m mv ns ne) (hn : n = 0) (hm : m = 0) (hT : TkE b last s e k) (hC : CSt b last I L s e k n m mv ns ne) (hR : RSt b last J M s e k n m mv ns ne) : LO b last I L J M e (f_X5_readPoints I L) (f_X8_line J M) := by
  obtain ⟨i, hT'⟩ := id hT
  have hlt := Tok_lt hT'
  have hl := hP.1
  obtain ⟨J1, y1, y2, y3⟩ := must_f (a := 2) hP hR (by omega) (by decide) (by decide)
  have y1 : f_X8_must false 2 J M = some (J1, M) := y1
  by_cases hk : k = 1
  · obtain ⟨w0, w1, w2, s0, s1, s2, g0, g1, g2, hx⟩ := words3 hP hT hC hR hk
    obtain ⟨l1, l2, l3⟩ := line_eq (m := m) hR.2.2.2.1 hR.2.2.2.2.1 hP.2.1 g0 g1 g2
    have nd : f_X5_need 1 I L = some (true, I, L) := need_t hC hk
    cases w0
    · obtain ⟨I1, x1, x2⟩ := fail_eq (a := 2) hC
      have x1 : f_X5_fail 2 I L = some (false, I1, L) := x1
      refine Or.inl ⟨mc 2 k, s, m, ⟨I1, L, ?_, by rw [hk, mc2_1]; exact x2.1, x2.2⟩, ⟨J1, M, l3 rfl (Or.inr hn) J1 _ _ y1 y2, y2, y3⟩⟩
      unfold f_X5_readPoints
      rw [ob nd]
      dsimp only
      rw [if_neg b2i_t, ob s0, if_pos b2i_f, ob x1]
    · rw [l1 rfl]
      obtain ⟨s1', e1, k1, hT1⟩ := Tok_ex (b := b) (i := e) (last := last) (by omega)
      have hlt1 := Tok_lt hT1
      obtain ⟨I1, x1, x2, x3⟩ := cstep hP hC hT1
      obtain ⟨J2, M2, z1, z2, z3, z4⟩ := goesOn_t hP hR (by omega) hT1
      have fc1 : FC I L I1 L := FC_o x3
      have fr1 : FRf J M J2 M2 := FRf_o z3 (by decide) z4
      have hd : ∀ F : Bool × Mm → Option (Bool × Mm), Option.bind (f_X5_need 1 I L) (fun q_1 => if (b2i q_1.1) = 0 then some (false, q_1.2.1, q_1.2.2) else Option.bind (f_X5_says 0 q_1.2.1 q_1.2.2) (fun q_2 => if (b2i q_2) = 0 then Option.bind (f_X5_fail 2 q_1.2.1 q_1.2.2) (fun q_9 => some (q_9.1, q_9.2.1, q_9.2.2)) else Option.bind (f_X5_scan q_1.2.1 q_1.2.2) (fun q_3 => Option.bind (f_X5_need 2 q_3.1 q_3.2) F))) = Option.bind (f_X5_need 2 I1 L) F := fun F => by
        rw [ob nd]
        dsimp only
        rw [if_neg b2i_t, ob s0, if_neg b2i_t, ob x1]
      unfold f_X5_readPoints
      rw [hd]
      have h40 : (J 43 40 = 0) := by rw [hR.2.2.2.2.1, hn]; rfl
      unfold f_X8_readsPoints
      rw [bnd_eq, if_pos h40]
      dsimp only
      rw [ob (must_t 2)]
      dsimp only
      rw [ob z1]
      dsimp only
      have c37 : (J2 43 37 = 2) = (k1 = 2) := by
        rw [z2.2.2.1.2.2.1]; exact ts_2 (by omega)
      rw [bnd_eq, ifc c37]
      by_cases hk1 : k1 = 2
      · have nd2 : f_X5_need 2 I1 L = some (true, I1, L) := need_t x2 hk1
        have i6 : I1 1 6 = nI (nv b s1' (e1 - s1')) := x2.2.2.1.2.2.2 hk1
        have j38 : J2 43 38 = nI (nv b s1' (e1 - s1')) := z2.2.2.1.2.2.2.1 hk1
        have vle : nv b s1' (e1 - s1') ≤ 99 := nv_le (by rw [← hk1]; exact hT1)
        generalize hv : nv b s1' (e1 - s1') = v at i6 j38 vle
        have ii : f_X8_isIn (Int32.toInt64 (J2 43 38)) 2 10 = some (decide (2 ≤ v ∧ v ≤ 10)) := by
          rw [j38]
          exact isIn_pos (lo := 2) (hi := 10) (by omega) (by decide) (by decide)
        rw [ob nd2, if_pos hk1]
        dsimp only
        rw [if_neg b2i_t, ob (must_t 2)]
        dsimp only
        have c6 : (I1 1 6 < 2) = (v < 2) := by rw [i6]; exact q_lt (b := 2) (by omega) (by decide)
        have c7 : (I1 1 6 ≤ 10) = (v ≤ 10) := by rw [i6]; exact q_le (b := 10) (by omega) (by decide)
        rw [ob ii, ifc c6, ifc c7]
        by_cases hin : 2 ≤ v ∧ v ≤ 10
        · rw [decide_eq_true hin, ob (must_t 3)]
          dsimp only
          rw [ob (good_t z2.2.2.2.1), if_neg b2i_t, if_neg (by omega), if_pos hin.2, bnd_eq, bnd_eq, j38, i6]
          have hP2 : PU b last v m mv ns ne := ⟨hl, hin.2, hP.2.2.1, fun t ht => by omega⟩
          have C2 : CSt b last (up2 I1 1 7 (nI v)) L s1' e1 k1 v m mv ns ne := x2.n0 hm
          have R2 : RSt b last (up2 J2 43 40 (nI v)) M2 s1' e1 k1 v m mv ns ne := z2.n0 hm
          obtain ⟨s2', e2, k2, hT2⟩ := Tok_ex (b := b) (i := e1) (last := last) (by omega)
          have hlt2 := Tok_lt hT2
          obtain ⟨I3, u1, u2, u3⟩ := cstep hP2 C2 hT2
          obtain ⟨J3, M3, v1, v2, v3, v4⟩ := goesOn_t hP2 R2 (by omega) hT2
          rw [ob u1, ob v1]
          exact Or.inr (Or.inr ⟨s2', e2, k2, v, m, mv, ns, ne, I3, L, J3, M3, by omega, by omega, hP2, ⟨e1, hT2⟩, rfl, u2, (fc1.trans (FC_o (S := [7]) (Fo_up (by decide)))).trans (FC_o u3), rfl, v2, (fr1.trans (FRf_o (S := [40]) (Fo_up (by decide)) (by decide) (fun _ _ => rfl))).trans (FRf_o v3 (by decide) v4)⟩)
        · obtain ⟨J3, v1, v2, v3⟩ := must_f (a := 3) hP z2 (by omega) (by decide) (by decide)
          have v1 : f_X8_must false 3 J2 M2 = some (J3, M2) := v1
          obtain ⟨I2, u1, u2, u3, u4, u5⟩ := fail_eq (a := 3) x2
          have u1 : f_X5_fail 3 I1 L = some (false, I2, L) := u1
          rw [decide_eq_false hin, ob v1]
          dsimp only
          rw [ob (bad_good v2), if_pos b2i_f, ob (bad_goesOn v2)]
          refine Or.inl ⟨3, s1', m, ⟨I2, L, ?_, u2, u3, u4, fc1.trans u5⟩, ⟨J3, M2, rfl, v2, fr1.trans v3⟩⟩
          by_cases c2 : v < 2
          · rw [if_pos c2, ob u1]
          · rw [if_neg c2, if_neg (by omega), ob u1]
      · obtain ⟨I2, u1, u2, u3, u4, u5⟩ := need_f (a := 2) x2 hk1 (by omega) (by decide)
        have u1 : f_X5_need 2 I1 L = some (false, I2, L) := u1
        obtain ⟨J3, v1, v2, v3⟩ := must_f (a := 2) hP z2 (by omega) (by decide) (by decide)
        have v1 : f_X8_must false 2 J2 M2 = some (J3, M2) := v1
        obtain ⟨r, hr⟩ := isIn_any (Int32.toInt64 (J3 43 38)) 2 10
        rw [ob u1, if_neg hk1]
        dsimp only
        rw [if_pos b2i_f, ob v1]
        dsimp only
        rw [ob hr, ob (bad_must v2 _ _)]
        dsimp only
        rw [ob (bad_good v2), if_pos b2i_f, ob (bad_goesOn v2)]
        exact Or.inl ⟨mc 2 k1, s1', m, ⟨I2, L, rfl, u2, u3, u4, fc1.trans u5⟩, ⟨J3, M2, rfl, v2, fr1.trans v3⟩⟩
  · have g0 := isWord_no (M := M) (c := 237742039) hR.2.2.2.1 hR.2.2.1 hk (by omega)
    have g1 := isWord_no (M := M) (c := 267413) hR.2.2.2.1 hR.2.2.1 hk (by omega)
    have g2 := isWord_no (M := M) (c := 464134) hR.2.2.2.1 hR.2.2.1 hk (by omega)
    obtain ⟨l1, l2, l3⟩ := line_eq (m := m) hR.2.2.2.1 hR.2.2.2.2.1 hP.2.1 g0 g1 g2
    obtain ⟨I1, x1, x2⟩ := need_f (a := 1) hC hk (by omega) (by decide)
    have x1 : f_X5_need 1 I L = some (false, I1, L) := x1
    refine Or.inl ⟨mc 2 k, s, m, ⟨I1, L, ?_, x2⟩, ⟨J1, M, l3 rfl (Or.inr hn) J1 _ _ y1 y2, y2, y3⟩⟩
    unfold f_X5_readPoints
    rw [ob x1]
    dsimp only
    rw [if_pos b2i_f]
end LZ
