/-! Loading: the reference's pieces -/
section TR
variable {b : Nat → Int32} {last i s e k : Nat} {I J : MI} {L M : ML}
theorem isOf_eq {lo hi : Int32} (hi' : i < 2 ^ 31) (hl : last ≤ 400) (h39 : J 43 39 = nI last) (hb : ∀ j, j < last → J 66 j = b j) : f_X8_isOf (nI i) lo hi J M = some (decide (i < last) && (decide (lo ≤ b i) && decide (b i ≤ hi))) := by
  unfold f_X8_isOf
  rw [h39, ifc (q_le (by omega) hi')]
  by_cases c : last ≤ i
  · rw [if_pos c, decide_eq_false (by omega), Bool.false_and]
  · rw [if_neg c, q_chk (by omega) (by decide), q_ix hi', hb i (by omega), ob (isIn_eq _ _ _), decide_eq_true (show i < last by omega), Bool.true_and]
    by_cases g : lo.toInt ≤ (b i).toInt ∧ (b i).toInt ≤ hi.toInt
    · rw [decide_eq_true g, if_neg b2i_t, decide_eq_true (Int32.le_iff_toInt_le.mpr g.1), decide_eq_true (Int32.le_iff_toInt_le.mpr g.2)]
      rfl
    · rw [decide_eq_false g, if_pos b2i_f]
      by_cases g1 : lo ≤ b i
      · rw [decide_eq_true g1, decide_eq_false (fun g2 => g ⟨Int32.le_iff_toInt_le.mp g1, Int32.le_iff_toInt_le.mp g2⟩)]
        rfl
      · rw [decide_eq_false g1]
        rfl
theorem same_c (c x : Int32) : (decide (x ≤ c) && decide (c ≤ x)) = decide (c = x) := by
  by_cases h : c = x
  · subst h
    rw [decide_eq_true (Int32.le_refl c), decide_eq_true rfl]; rfl
  · rw [decide_eq_false h]
    by_cases h1 : x ≤ c
    · rw [decide_eq_true h1, decide_eq_false (fun g => h (Int32.le_antisymm g h1))]; rfl
    · rw [decide_eq_false h1]; rfl
theorem rd8 (h39 : J 43 39 = nI last) (h35 : J 43 35 = nI i) (hl : last ≤ 400) (hb : ∀ j, j < last → J 66 j = b j) (hR : Rn cW b last i s) (k0 : MI → Option Mm) : ∃ J', f_X8_reads_8 M k0 FU J = k0 J' ∧ J' 43 35 = nI s ∧ Fo 43 [35] J J' := by
  have r1 := hR.1
  have r2 := hR.2.1
  exact loop0 (fun fu z => f_X8_reads_8 M k0 fu z) (fun j z => i + j ≤ s ∧ z 43 35 = nI (i + j) ∧ Fo 43 [35] J z) (fun o => ∃ I', o = k0 I' ∧ I' 43 35 = nI s ∧ Fo 43 [35] J I') (s - i) (by omega) J ⟨by omega, h35, Fo.refl⟩
    (fun fu j z hj hP => by
      obtain ⟨p1, p2, p3⟩ := hP
      have z2 : z 43 39 = nI last := by rw [p3.2 39 (by decide)]; exact h39
      have zb : ∀ j, j < last → z 66 j = b j := fun j hj => by rw [p3.1 66 (by decide)]; exact hb j hj
      rw [f_X8_reads_8, p2, ob (isOf_eq (by omega) hl z2 zb), same_c]
      by_cases c2 : i + j = s
      · left
        have e1 : (decide (i + j < last) && decide (b (i + j) = 32)) = false := by
          by_cases c1 : i + j < last
          · have hw := hR.2.2.2 (by omega)
            rw [← c2] at hw
            unfold cW at hw
            rw [(Bool.or_eq_false_iff.mp hw).1, Bool.and_false]
          · rw [decide_eq_false c1, Bool.false_and]
        have e2 : (decide (i + j < last) && decide (b (i + j) = 10)) = false := by
          by_cases c1 : i + j < last
          · have hw := hR.2.2.2 (by omega)
            rw [← c2] at hw
            unfold cW at hw
            rw [(Bool.or_eq_false_iff.mp hw).2, Bool.and_false]
          · rw [decide_eq_false c1, Bool.false_and]
        rw [e1, if_pos b2i_f, ob (isOf_eq (by omega) hl z2 zb), same_c, e2, if_pos b2i_f]
        exact ⟨z, rfl, by rw [p2, c2], p3⟩
      · have hw := hR.2.2.1 (i + j) (by omega) (by omega)
        unfold cW at hw
        right
        refine ⟨by omega, up2 z 43 35 (nI (i + j + 1)), ?_, by omega, up2_s, p3.trans (Fo_up (by decide))⟩
        rw [decide_eq_true (show i + j < last by omega), Bool.true_and]
        by_cases w1 : b (i + j) = 32
        · rw [decide_eq_true w1, if_neg b2i_t, bnd_eq, nI_1]
        · have w2 : b (i + j) = 10 := by
            rcases Bool.or_eq_true_iff.mp hw with g | g
            · exact absurd (of_decide_eq_true g) w1
            · exact of_decide_eq_true g
          rw [decide_eq_false w1, if_pos b2i_f, ob (isOf_eq (by omega) hl z2 zb), same_c, decide_eq_true (show i + j < last by omega), Bool.true_and, decide_eq_true w2, if_neg b2i_t, bnd_eq, nI_1])
theorem wvR {w l : Nat} (h : l < 100) : ((27 * lN w) + (nI (96 + l)).toInt64) - 96 = lN (27 * w + l) := by
  rw [nI_l (by omega), show (27 : Int64) = lN 27 from rfl, show (96 : Int64) = lN 96 from rfl, lN_mul, lN_add, lN_sub (by omega)]
  congr 1; omega
theorem rd169 (h39 : J 43 39 = nI last) (h35 : J 43 35 = nI s) (h36 : J 43 36 = nI s) (hl : last ≤ 400) (hb : ∀ j, j < last → J 66 j = b j) (hR : Rn cL b last s e) (h42 : M 43 42 = 0) (k0 : MI → ML → Option Mm) : ∃ J' M', f_X8_reads_169 k0 FU J M = k0 J' M' ∧ J' 43 36 = nI e ∧ (e - s ≤ 8 → M' 43 42 = lN (wv b s (e - s))) ∧ Fo 43 [36] J J' ∧ (∀ q, q ≠ 43 → M' q = M q) := by
  have r1 := hR.1
  have r2 := hR.2.1
  exact loop0 (fun fu (z : MI × ML) => f_X8_reads_169 k0 fu z.1 z.2) (fun j z => s + j ≤ e ∧ z.1 43 36 = nI (s + j) ∧ (j ≤ 8 → z.2 43 42 = lN (wv b s j)) ∧ Fo 43 [36] J z.1 ∧ (∀ q, q ≠ 43 → z.2 q = M q)) (fun o => ∃ J' M', o = k0 J' M' ∧ J' 43 36 = nI e ∧ (e - s ≤ 8 → M' 43 42 = lN (wv b s (e - s))) ∧ Fo 43 [36] J J' ∧ (∀ q, q ≠ 43 → M' q = M q)) (e - s) (by omega) (J, M) ⟨by omega, h36, fun _ => h42, Fo.refl, fun _ _ => rfl⟩
    (fun fu j z hj hP => by
      obtain ⟨z, M1⟩ := z
      obtain ⟨p1, p2, p4, p3, p5⟩ := hP
      dsimp only at p2 p4 p3 p5 ⊢
      have z2 : z 43 39 = nI last := by rw [p3.2 39 (by decide)]; exact h39
      have z5 : z 43 35 = nI s := by rw [p3.2 35 (by decide)]; exact h35
      have zb : ∀ j, j < last → z 66 j = b j := fun j hj => by rw [p3.1 66 (by decide)]; exact hb j hj
      rw [f_X8_reads_169, p2, ob (isOf_eq (by omega) hl z2 zb)]
      by_cases c2 : s + j = e
      · left
        have e1 : (decide (s + j < last) && (decide (97 ≤ b (s + j)) && decide (b (s + j) ≤ 122))) = false := by
          by_cases c1 : s + j < last
          · have hw := hR.2.2.2 (by omega)
            rw [← c2] at hw
            unfold cL at hw
            rw [hw, Bool.and_false]
          · rw [decide_eq_false c1, Bool.false_and]
        rw [e1, if_pos b2i_f]
        exact ⟨z, M1, rfl, by rw [p2, c2], fun g => by rw [show e - s = j by omega]; exact p4 (by omega), p3, p5⟩
      · have hw := hR.2.2.1 (s + j) (by omega) (by omega)
        have hw' : (decide (97 ≤ b (s + j)) && decide (b (s + j) ≤ 122)) = true := hw
        right
        rw [hw', decide_eq_true (show s + j < last by omega), Bool.true_and, if_neg b2i_t, z5, pk_sub (by omega), show s + j - s = j by omega, show (8 : Int32) = nI 8 from rfl, ifc (q_le (by decide) (by omega))]
        by_cases c3 : 8 ≤ j
        · refine ⟨by omega, (up2 z 43 36 (nI (s + j + 1)), up2 M1 43 42 0), ?_, by omega, by dsimp only; rw [up2_s]; rfl, fun g => by omega, p3.trans (Fo_up (by decide)), fun q hq => by dsimp only; rw [up2_ne hq]; exact p5 q hq⟩
          rw [if_pos c3, bnd_eq, bnd_eq, nI_1]
        · refine ⟨by omega, (up2 z 43 36 (nI (s + j + 1)), up2 M1 43 42 (lN (wv b s (j + 1)))), ?_, by omega, by dsimp only; rw [up2_s]; rfl, fun _ => by dsimp only; rw [up2_s], p3.trans (Fo_up (by decide)), fun q hq => by dsimp only; rw [up2_ne hq]; exact p5 q hq⟩
          have hc := cL_e hw
          have e4 : ((27 * M1 43 42) + (b (s + j)).toInt64) - 96 = lN (wv b s (j + 1)) := by
            rw [p4 (by omega)]
            show _ = lN (27 * wv b s j + lv (b (s + j)))
            generalize hll : lv (b (s + j)) = ll at hc
            rw [hc.1, wvR (by omega)]
          rw [if_neg c3, q_chk (by omega) (by decide), q_ix (by omega), zb _ (by omega), e4, bnd_eq, bnd_eq, nI_1])
theorem rd296 (h39 : J 43 39 = nI last) (h35 : J 43 35 = nI s) (h36 : J 43 36 = nI s) (hl : last ≤ 400) (hb : ∀ j, j < last → J 66 j = b j) (hR : Rn cD b last s e) (h38 : J 43 38 = 0) (k0 : MI → Option Mm) : ∃ J', f_X8_reads_296 M k0 FU J = k0 J' ∧ J' 43 36 = nI e ∧ (e - s ≤ 2 → J' 43 38 = nI (nv b s (e - s))) ∧ Fo 43 [36, 38] J J' := by
  have r1 := hR.1
  have r2 := hR.2.1
  exact loop0 (fun fu z => f_X8_reads_296 M k0 fu z) (fun j z => s + j ≤ e ∧ z 43 36 = nI (s + j) ∧ (j ≤ 2 → z 43 38 = nI (nv b s j)) ∧ Fo 43 [36, 38] J z) (fun o => ∃ J', o = k0 J' ∧ J' 43 36 = nI e ∧ (e - s ≤ 2 → J' 43 38 = nI (nv b s (e - s))) ∧ Fo 43 [36, 38] J J') (e - s) (by omega) J ⟨by omega, h36, fun _ => h38, Fo.refl⟩
    (fun fu j z hj hP => by
      obtain ⟨p1, p2, p4, p3⟩ := hP
      have z2 : z 43 39 = nI last := by rw [p3.2 39 (by decide)]; exact h39
      have z5 : z 43 35 = nI s := by rw [p3.2 35 (by decide)]; exact h35
      have zb : ∀ j, j < last → z 66 j = b j := fun j hj => by rw [p3.1 66 (by decide)]; exact hb j hj
      rw [f_X8_reads_296, p2, ob (isOf_eq (by omega) hl z2 zb)]
      by_cases c2 : s + j = e
      · left
        have e1 : (decide (s + j < last) && (decide (48 ≤ b (s + j)) && decide (b (s + j) ≤ 57))) = false := by
          by_cases c1 : s + j < last
          · have hw := hR.2.2.2 (by omega)
            rw [← c2] at hw
            unfold cD at hw
            rw [hw, Bool.and_false]
          · rw [decide_eq_false c1, Bool.false_and]
        rw [e1, if_pos b2i_f]
        exact ⟨z, rfl, by rw [p2, c2], fun g => by rw [show e - s = j by omega]; exact p4 (by omega), p3⟩
      · have hw := hR.2.2.1 (s + j) (by omega) (by omega)
        have hw' : (decide (48 ≤ b (s + j)) && decide (b (s + j) ≤ 57)) = true := hw
        right
        rw [hw', decide_eq_true (show s + j < last by omega), Bool.true_and, if_neg b2i_t, z5, pk_sub (by omega), show s + j - s = j by omega]
        have e2 : ((2 : Int32) ≤ nI j) = (2 ≤ j) := q_le (by decide) (by omega)
        rw [ifc e2]
        by_cases c3 : 2 ≤ j
        · refine ⟨by omega, up2 (up2 z 43 38 (z 43 38)) 43 36 (nI (s + j + 1)), ?_, by omega, up2_s, fun g => by omega, (p3.trans (Fo_up (by decide))).trans (Fo_up (by decide))⟩
          rw [if_pos c3, bnd_eq, up2_n (by decide), p2, bnd_eq, nI_1]
        · refine ⟨by omega, up2 (up2 z 43 38 (nI (nv b s (j + 1)))) 43 36 (nI (s + j + 1)), ?_, by omega, up2_s, fun _ => by rw [up2_n (by decide), up2_s], (p3.trans (Fo_up (by decide))).trans (Fo_up (by decide))⟩
          have hc := cD_e hw
          have e4 : ((10 * z 43 38) + b (s + j)) - 48 = nI (nv b s (j + 1)) := by
            rw [p4 (by omega)]
            show _ = nI (10 * nv b s j + dv (b (s + j)))
            generalize hll : dv (b (s + j)) = ll at hc
            rw [hc.1, nvR]
          rw [if_neg c3, q_chk (by omega) (by decide), q_ix (by omega), zb _ (by omega), e4, bnd_eq, up2_n (by decide), p2, bnd_eq, nI_1])
def ts (k : Nat) : Nat := if k ≤ 2 then k else if k = 3 then 4 else 3
/-- what the reference knows of a piece -/
def RTk (b : Nat → Int32) (J : MI) (M : ML) (s e k : Nat) : Prop := J 43 35 = nI s ∧ (k ≠ 0 → J 43 36 = nI e) ∧ J 43 37 = nI (ts k) ∧ (k = 2 → J 43 38 = nI (nv b s (e - s))) ∧ (k = 1 → M 43 42 = lN (wv b s (e - s)))
theorem reads_eq (h39 : J 43 39 = nI last) (h36 : J 43 36 = nI i) (hl : last ≤ 400) (hb : ∀ j, j < last → J 66 j = b j) (hT : Tok b last i s e k) : ∃ J' M', f_X8_reads J M = some (J', M') ∧ RTk b J' M' s e k ∧ Fo 43 [35, 36, 37, 38] J J' ∧ (∀ q, q ≠ 43 → M' q = M q) := by
  obtain ⟨_, l2, l3, _, _, _⟩ := Tok_lt hT
  obtain ⟨hR, hT⟩ := hT
  have r2 := hR.2.1
  unfold f_X8_reads
  rw [bnd_eq]
  generalize hk0 : (fun (I_7 : MI) => (_ : Option Mm)) = k0
  obtain ⟨J1, a1, a2, a3⟩ := rd8 (J := up2 J 43 35 (J 43 36)) (M := M) (by rw [up2_n (by decide)]; exact h39) (by rw [up2_s]; exact h36) hl (fun j hj => by rw [up2_ne (by decide)]; exact hb j hj) hR k0
  rw [a1, ← hk0]
  dsimp only
  rw [bnd_eq, a2, nI_1]
  have f1 : Fo 43 [35, 36, 37, 38] J (up2 J1 43 36 (nI (s + 1))) := ((Fo_up (by decide)).trans (a3.mono (by decide))).trans (Fo_up (by decide))
  have e35 : up2 J1 43 36 (nI (s + 1)) 43 35 = nI s := by rw [up2_n (by decide)]; exact a2
  have e36 : up2 J1 43 36 (nI (s + 1)) 43 36 = nI (s + 1) := up2_s
  generalize up2 J1 43 36 (nI (s + 1)) = J2 at f1 e35 e36
  have e39 : J2 43 39 = nI last := by rw [f1.2 39 (by decide)]; exact h39
  have eb : ∀ j, j < last → J2 66 j = b j := fun j hj => by rw [f1.1 66 (by decide)]; exact hb j hj
  generalize hj : (fun (s0_9 : Int32) => (_ : Option Mm)) = jj
  rw [bnd_eq, e35, e39, ifc (q_lt (by omega) (by omega))]
  have f3 : ∀ v, Fo 43 [35, 36, 37, 38] J (up2 J2 43 37 v) := fun v => f1.trans (Fo_up (by decide))
  have g35 : ∀ v, up2 J2 43 37 v 43 35 = nI s := fun v => by rw [up2_n (by decide)]; exact e35
  have g36 : ∀ v, up2 J2 43 37 v 43 36 = nI (s + 1) := fun v => by rw [up2_n (by decide)]; exact e36
  have g39 : ∀ v, up2 J2 43 37 v 43 39 = nI last := fun v => by rw [up2_n (by decide)]; exact e39
  have gb : ∀ v, ∀ j, j < last → up2 J2 43 37 v 66 j = b j := fun v j hj => by rw [up2_ne (by decide)]; exact eb j hj
  have jj_no : ∀ v, (decide (s < last) && cL (b s)) = false → (decide (s < last) && cD (b s)) = false → jj v = some (up2 J2 43 37 v, M) := fun v h1 h2 => by
    rw [← hj]
    dsimp only
    rw [bnd_eq, g35, ob (isOf_eq (by omega) hl (g39 v) (gb v))]
    unfold cL at h1
    unfold cD at h2
    rw [h1, if_pos b2i_f, ob (isOf_eq (by omega) hl (g39 v) (gb v)), h2, if_pos b2i_f]
  by_cases hs : s < last
  · obtain ⟨v, hv, hv2⟩ : ∃ v : Int32, (if s < last then chk (inb (nI s) 400) (bnd (jj 3) (fun j133_388 => if (J2 66 (ix (nI s))) = 40 then j133_388 else chk (inb (nI s) 400) (if (J2 66 (ix (nI s))) = 41 then j133_388 else chk (inb (nI s) 400) (if (J2 66 (ix (nI s))) = 59 then j133_388 else chk (inb (nI s) 400) (if (J2 66 (ix (nI s))) = 39 then j133_388 else jj 4))))) else jj 0) = jj v ∧ ((v = 3 ∧ (b s = 40 ∨ b s = 41 ∨ b s = 59 ∨ b s = 39)) ∨ (v = 4 ∧ b s ≠ 40 ∧ b s ≠ 41 ∧ b s ≠ 59 ∧ b s ≠ 39)) := by
      rw [if_pos hs, q_chk (by omega) (by decide), bnd_eq, q_ix (by omega), eb s hs]
      by_cases c1 : b s = 40
      · rw [if_pos c1]; exact ⟨3, rfl, Or.inl ⟨rfl, Or.inl c1⟩⟩
      · rw [if_neg c1, q_chk (by omega) (by decide)]
        by_cases c2 : b s = 41
        · rw [if_pos c2]; exact ⟨3, rfl, Or.inl ⟨rfl, Or.inr (Or.inl c2)⟩⟩
        · rw [if_neg c2, q_chk (by omega) (by decide)]
          by_cases c3 : b s = 59
          · rw [if_pos c3]; exact ⟨3, rfl, Or.inl ⟨rfl, Or.inr (Or.inr (Or.inl c3))⟩⟩
          · rw [if_neg c3, q_chk (by omega) (by decide)]
            by_cases c4 : b s = 39
            · rw [if_pos c4]; exact ⟨3, rfl, Or.inl ⟨rfl, Or.inr (Or.inr (Or.inr c4))⟩⟩
            · rw [if_neg c4]; exact ⟨4, rfl, Or.inr ⟨rfl, c1, c2, c3, c4⟩⟩
    rw [hv]
    rcases hT with ⟨g1, g2, g3⟩ | ⟨g1, g2, g3, g4⟩ | ⟨g1, g2, g3, g4, g5⟩ | ⟨g1, g2, g3, g4, g5⟩
    · omega
    · have w1 : (decide (97 ≤ b s) && decide (b s ≤ 122)) = true := g2
      rw [← hj]
      dsimp only
      rw [bnd_eq, g35, ob (isOf_eq (by omega) hl (g39 v) (gb v)), w1, decide_eq_true hs, Bool.true_and, if_neg b2i_t, bnd_eq, bnd_eq]
      generalize hk1 : (fun (I_33 : MI) (L_34 : ML) => (_ : Option Mm)) = k1
      obtain ⟨J3, M3, c1, c2, c3, c4, c5⟩ := rd169 (J := up2 (up2 J2 43 37 v) 43 36 (nI s)) (M := up2 M 43 42 0) (by rw [up2_n (by decide)]; exact g39 v) (by rw [up2_n (by decide)]; exact g35 v) up2_s hl (fun j hj => by rw [up2_ne (by decide)]; exact gb v j hj) g3 up2_s k1
      have c35 : J3 43 35 = nI s := by rw [c4.2 35 (by decide), up2_n (by decide)]; exact g35 v
      have f4 : Fo 43 [35, 36, 37, 38] J J3 := ((f3 v).trans (Fo_up (by decide))).trans (c4.mono (by decide))
      have c5' : ∀ q, q ≠ 43 → M3 q = M q := fun q hq => by rw [c5 q hq, up2_ne hq]
      rw [c1, ← hk1]
      dsimp only
      have e8 : (J3 43 36 - J3 43 35 ≤ 8) = (e - s ≤ 8) := by rw [c2, c35, pk_sub l2]; exact q_le (by omega) (by decide)
      rw [ifc e8]
      by_cases c : e - s ≤ 8
      · rw [if_pos c, bnd_eq]
        rw [if_pos c] at g4
        exact ⟨up2 J3 43 37 1, M3, rfl, ⟨by rw [up2_n (by decide)]; exact c35, fun _ => by rw [up2_n (by decide)]; exact c2, by rw [up2_s, g4]; rfl, fun g => by omega, fun _ => c3 c⟩, f4.trans (Fo_up (by decide)), c5'⟩
      · rw [if_neg c, bnd_eq]
        rw [if_neg c] at g4
        exact ⟨up2 J3 43 37 4, M3, rfl, ⟨by rw [up2_n (by decide)]; exact c35, fun _ => by rw [up2_n (by decide)]; exact c2, by rw [up2_s, g4]; rfl, fun g => by omega, fun g => by omega⟩, f4.trans (Fo_up (by decide)), c5'⟩
    · have w1 : (decide (97 ≤ b s) && decide (b s ≤ 122)) = false := g2
      have w2 : (decide (48 ≤ b s) && decide (b s ≤ 57)) = true := g3
      rw [← hj]
      dsimp only
      rw [bnd_eq, g35, ob (isOf_eq (by omega) hl (g39 v) (gb v)), w1, Bool.and_false, if_pos b2i_f, ob (isOf_eq (by omega) hl (g39 v) (gb v)), w2, decide_eq_true hs, Bool.true_and, if_neg b2i_t, bnd_eq, up2_n (by decide), g35, bnd_eq]
      generalize hk1 : (fun (I_21 : MI) => (_ : Option Mm)) = k1
      obtain ⟨J3, c1, c2, c3, c4⟩ := rd296 (J := up2 (up2 (up2 J2 43 37 v) 43 38 0) 43 36 (nI s)) (M := M) (by rw [up2_n (by decide), up2_n (by decide)]; exact g39 v) (by rw [up2_n (by decide), up2_n (by decide)]; exact g35 v) up2_s hl (fun j hj => by rw [up2_ne (by decide), up2_ne (by decide)]; exact gb v j hj) g4 (by rw [up2_n (by decide), up2_s]) k1
      have c35 : J3 43 35 = nI s := by rw [c4.2 35 (by decide), up2_n (by decide), up2_n (by decide)]; exact g35 v
      have f4 : Fo 43 [35, 36, 37, 38] J J3 := (((f3 v).trans (Fo_up (by decide))).trans (Fo_up (by decide))).trans (c4.mono (by decide))
      rw [c1, ← hk1]
      dsimp only
      have e8 : (J3 43 36 - J3 43 35 ≤ 2) = (e - s ≤ 2) := by rw [c2, c35, pk_sub l2]; exact q_le (by omega) (by decide)
      rw [ifc e8]
      by_cases c : e - s ≤ 2
      · rw [if_pos c, bnd_eq]
        rw [if_pos c] at g5
        exact ⟨up2 J3 43 37 2, M, rfl, ⟨by rw [up2_n (by decide)]; exact c35, fun _ => by rw [up2_n (by decide)]; exact c2, by rw [up2_s, g5]; rfl, fun _ => by rw [up2_n (by decide)]; exact c3 c, fun g => by omega⟩, f4.trans (Fo_up (by decide)), fun _ _ => rfl⟩
      · rw [if_neg c, bnd_eq]
        rw [if_neg c] at g5
        exact ⟨up2 J3 43 37 4, M, rfl, ⟨by rw [up2_n (by decide)]; exact c35, fun _ => by rw [up2_n (by decide)]; exact c2, by rw [up2_s, g5]; rfl, fun g => by omega, fun g => by omega⟩, f4.trans (Fo_up (by decide)), fun _ _ => rfl⟩
    · rw [jj_no v (by rw [g2, Bool.and_false]) (by rw [g3, Bool.and_false])]
      refine ⟨up2 J2 43 37 v, M, rfl, ⟨g35 v, fun _ => by rw [g36, g4], ?_, fun g => by omega, fun g => by omega⟩, f3 v, fun _ _ => rfl⟩
      rw [up2_s]
      rcases g5 with ⟨g5, g6⟩ | ⟨q1, q2, q3, q4, q5⟩
      · rcases hv2 with ⟨hv2, _⟩ | ⟨_, n1, n2, n3, n4⟩
        · rw [hv2]
          rcases g6 with rfl | rfl | rfl | rfl <;> rfl
        · rcases g6 with rfl | rfl | rfl | rfl
          · exact absurd g5 n1
          · exact absurd g5 n2
          · exact absurd g5 n4
          · exact absurd g5 n3
      · rcases hv2 with ⟨_, h⟩ | ⟨hv2, _⟩
        · rcases h with h | h | h | h
          · exact absurd h q1
          · exact absurd h q2
          · exact absurd h q4
          · exact absurd h q3
        · rw [hv2, q5]; rfl
  · have hk : k = 0 := by
      rcases hT with ⟨g1, g2, g3⟩ | ⟨g1, _⟩ | ⟨g1, _⟩ | ⟨g1, _⟩
      · exact g3
      · omega
      · omega
      · omega
    rw [if_neg hs, jj_no 0 (by rw [decide_eq_false hs]; rfl) (by rw [decide_eq_false hs]; rfl)]
    subst hk
    exact ⟨up2 J2 43 37 0, M, rfl, ⟨g35 0, fun g => absurd rfl g, by rw [up2_s]; rfl, fun g => by omega, fun g => by omega⟩, f3 0, fun _ _ => rfl⟩
end TR
