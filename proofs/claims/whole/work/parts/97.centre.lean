/-! The centre -/
section CE
variable {n m N rm : Nat} {mv : Nat → Nat → Nat} {st : Nat → Nat} {I : MI} {L : ML} {e : Nat → Nat → Nat}
def Zp (m : Nat) (mv : Nat → Nat → Nat) (p : Nat → Nat) : Prop := ∀ i, i < m → cp p (mv i) = cp (mv i) p
theorem cent_Sub {p : Nat → Nat} (hn : n ≤ 10) : Sub n (fun q => IsP n q ∧ cp p q = cp q p) := by
  refine ⟨fun a h => h.1, ⟨IsP_id n, rfl⟩, fun a b ha hb => ⟨IsP_cp ha.1 hb.1, ?_⟩, fun a ha => ⟨IsP_iv hn ha.1, ?_⟩⟩
  · rw [← cp_as, ha.2, cp_as, hb.2, ← cp_as]
  · have h1 : cp (cp (iv a) (cp p a)) (iv a) = cp (cp (iv a) (cp a p)) (iv a) := by rw [ha.2]
    rw [cp_as (iv a) (cp p a), cp_as p a, cp_iv hn ha.1, cp_id, ← cp_as (iv a) a p, iv_cp hn ha.1, id_cp] at h1
    exact h1.symm
theorem cent_nd {nd : Nat} {p : Nat → Nat} (hn : n ≤ 10) (hmv : ∀ i, i < m → IsP n (mv i)) (hg : Gen n (MS mv nd m) = Gp n m mv) (h : ∀ t, t < m → nd.testBit t = true → cp p (mv t) = cp (mv t) p) : ∀ q, Gp n m mv q → cp p q = cp q p := by
  intro q hq
  rw [← hg] at hq
  exact (Gen_le (cent_Sub (p := p) hn) (fun a ⟨t, t1, t2, t3⟩ => by subst t3; exact ⟨hmv t t1, h t t1 t2⟩) q hq).2
theorem nc18 {nd x : Nat} (hO : OKm n m mv st) (hG : Sub n (Gp n m mv)) (he : EL n (Gp n m mv) N e) (hL : Lst I L rm n N e) (h7 : ∀ i, i < m → L 7 i = tn n (mv i)) (hnd : nd < 64) (hnm : ∀ t, nd.testBit t = true → t < m) (hx : x < N) (k0 : Int32 → Option Int32) {b : Bool} (hb : b = true ↔ ∀ t, nd.testBit t = true → cp (e x) (mv t) = cp (mv t) (e x)) : f_X4_nextCentral_18 rm 7 (nI nd) (nI x) I L k0 FU 1 0 = k0 (b2i b) := by
  have hn := hO.1
  have hm := hO.2.1
  obtain ⟨l0, l1, l2, l3, l4, l5⟩ := hL
  have eP := EL_P hG he hx
  have := loop0 (fun fu (z : Int32 × Int32) => f_X4_nextCentral_18 rm 7 (nI nd) (nI x) I L k0 fu z.1 z.2) (fun j z => j ≤ 6 ∧ z.2 = nI j ∧ ((z.1 = 1 ∧ ∀ t, t < j → nd.testBit t = true → cp (e x) (mv t) = cp (mv t) (e x)) ∨ (z.1 = 0 ∧ b = false))) (fun o => o = k0 (b2i b)) 6 (by decide) (1, nI 0) ⟨by decide, rfl, Or.inl ⟨rfl, fun t ht => by omega⟩⟩
    (fun fu j z hj hP => by
      obtain ⟨z1, z2⟩ := z
      obtain ⟨_, p1, p2⟩ := hP
      dsimp only at p1 p2 ⊢
      subst p1
      rw [f_X4_nextCentral_18, show (6 : Int32) = nI 6 from rfl, ifc (q_le (by decide) (by omega))]
      by_cases c1 : 6 ≤ j
      · left
        rw [if_pos c1]
        rcases p2 with ⟨g1, g2⟩ | ⟨g1, g2⟩
        · rw [g1, hb.mpr (fun t ht => g2 t (by have := hnm t ht; omega) ht)]; rfl
        · rw [g1, g2]; rfl
      · rw [if_neg c1]
        rcases p2 with ⟨g1, g2⟩ | ⟨g1, g2⟩
        · right
          subst g1
          refine ⟨by omega, ?_⟩
          rw [if_neg (by decide), ifc (q_bit0 (by omega) (by omega))]
          cases hbt : nd.testBit j
          · refine ⟨(1, nI (j + 1)), ?_, by omega, rfl, Or.inl ⟨rfl, fun t ht hb2 => ?_⟩⟩
            · rw [if_pos rfl, bnd_eq, nI_1]
            · by_cases e1 : t = j
              · subst e1; rw [hbt] at hb2; cases hb2
              · exact g2 t (by omega) hb2
          · have hjm := hnm j hbt
            obtain ⟨c, hc⟩ := em_B (cp (e x) (mv j) = cp (mv j) (e x))
            rw [if_neg (by decide), q_chk (by omega) (by omega), q_chk (by omega) (by decide), q_ix (by omega), q_ix (by omega), l5 x hx, h7 j hjm, l2, ob (commute_eq hn eP (hO.2.2.1 j hjm) hc)]
            cases c
            · refine ⟨(0, nI (j + 1)), ?_, by omega, rfl, Or.inr ⟨rfl, ?_⟩⟩
              · rw [if_pos b2i_f, bnd_eq, nI_1]
              · cases b
                · rfl
                · exact absurd (hc.mpr (hb.mp rfl j hbt)) (by decide)
            · refine ⟨(1, nI (j + 1)), ?_, by omega, rfl, Or.inl ⟨rfl, fun t ht hb2 => ?_⟩⟩
              · rw [if_neg b2i_t, bnd_eq, nI_1]
              · by_cases e1 : t = j
                · subst e1; exact hc.mp rfl
                · exact g2 t (by omega) hb2
        · left
          rw [if_pos g1, g1, g2]; rfl)
  rw [nI_0] at this
  exact this
theorem nextCentral_eq {nd f : Nat} {Z : Nat → Bool} (hO : OKm n m mv st) (hG : Sub n (Gp n m mv)) (he : EL n (Gp n m mv) N e) (hL : Lst I L rm n N e) (h7 : ∀ i, i < m → L 7 i = tn n (mv i)) (hnd : nd < 64) (hnm : ∀ t, nd.testBit t = true → t < m) (hZ : ∀ x, x < N → (Z x = true ↔ ∀ t, nd.testBit t = true → cp (e x) (mv t) = cp (mv t) (e x))) (hf : f ≤ N) : ∃ r, f_X4_nextCentral rm (nI f) 7 (nI nd) I L = some r ∧ ((∃ x, x < N ∧ Z x = true ∧ cT Z x = cT Z f ∧ r = nI x) ∨ (cT Z N = cT Z f ∧ r = -1)) := by
  have l4 : rm ≤ 5040 := hL.2.2.2.2.1
  have l3 : N ≤ rm := hL.2.2.2.1
  unfold f_X4_nextCentral
  have := loop0 (fun fu z => f_X4_nextCentral_3 rm 7 (nI nd) I L fu z) (fun j z => f + j ≤ N ∧ z = nI (f + j) ∧ cT Z (f + j) = cT Z f) (fun o => ∃ r, o = some r ∧ ((∃ x, x < N ∧ Z x = true ∧ cT Z x = cT Z f ∧ r = nI x) ∨ (cT Z N = cT Z f ∧ r = -1))) (N - f) (by omega) (nI f) ⟨hf, rfl, rfl⟩
    (fun fu j z hj hP => by
      obtain ⟨p0, p1, p2⟩ := hP
      subst p1
      rw [f_X4_nextCentral_3, hL.2.1, ifc (q_le (by omega) (by omega))]
      by_cases c1 : N ≤ f + j
      · left
        rw [if_pos c1]
        exact ⟨-1, rfl, Or.inr ⟨by rw [show N = f + j by omega]; exact p2, rfl⟩⟩
      · rw [if_neg c1, nc18 hO hG he hL h7 hnd hnm (show f + j < N by omega) _ (hZ _ (by omega))]
        cases hz : Z (f + j)
        · right
          refine ⟨by omega, nI (f + (j + 1)), ?_, by omega, rfl, ?_⟩
          · rw [if_pos (show b2i false = 0 from rfl), bnd_eq, nI_1]; rfl
          · rw [← Nat.add_assoc, cT_f hz]; exact p2
        · left
          rw [if_neg (show ¬ b2i true = 0 by decide)]
          exact ⟨_, rfl, Or.inl ⟨f + j, by omega, hz, p2, rfl⟩⟩)
  exact this
theorem countCentral_eq {Z : Nat → Bool} {nd : Nat} (hO : OKm n m mv st) (he : EL n (Gp n m mv) N e) (hL : Lst I L rm n N e) (h7 : ∀ i, i < m → L 7 i = tn n (mv i)) (h64 : I 6 4 = nI nd) (hnd : nd < 64) (hnm : ∀ t, nd.testBit t = true → t < m) (hZ : ∀ x, x < N → (Z x = true ↔ ∀ t, nd.testBit t = true → cp (e x) (mv t) = cp (mv t) (e x))) {r0 : Int32} (h0 : (∃ x, x < N ∧ Z x = true ∧ cT Z x = 0 ∧ r0 = nI x) ∨ (cT Z N = 0 ∧ r0 = -1)) : f_X2_countCentral_24 rm I L FU 0 r0 0 = some ((nI (cT Z N), I, L), rm) := by
  have hG := Gp_Sub hO.1 hO.2.2.1
  have l4 : rm ≤ 5040 := hL.2.2.2.2.1
  have l3 : N ≤ rm := hL.2.2.2.1
  have hcn := cT_le Z N
  have := loop0 (fun fu (z : Int32 × Int32 × Int32) => f_X2_countCentral_24 rm I L fu z.1 z.2.1 z.2.2) (fun j z => j ≤ cT Z N ∧ z.1 = nI j ∧ z.2.2 = nI j ∧ ((∃ x, x < N ∧ Z x = true ∧ cT Z x = j ∧ z.2.1 = nI x) ∨ (cT Z N = j ∧ z.2.1 = -1))) (fun o => o = some ((nI (cT Z N), I, L), rm)) (cT Z N) (by omega) (nI 0, r0, nI 0) ⟨Nat.zero_le _, rfl, rfl, h0⟩
    (fun fu j z hj hP => by
      obtain ⟨z1, z2, z3⟩ := z
      obtain ⟨_, p1, p2, p3⟩ := hP
      dsimp only at p1 p2 p3 ⊢
      subst p1 p2
      rw [f_X2_countCentral_24, show (5040 : Int32) = nI 5040 from rfl, ifc (q_le (by decide) (by omega))]
      by_cases c1 : 5040 ≤ j
      · left
        rw [if_pos c1, show j = cT Z N by omega]
      · rw [if_neg c1]
        rcases p3 with ⟨x, x1, x2, x3, x4⟩ | ⟨x1, x2⟩
        · right
          have := cT_lt Z x1 x2
          obtain ⟨r, r1, r2⟩ := nextCentral_eq (f := x + 1) hO hG he hL h7 hnd hnm hZ (by omega)
          refine ⟨by omega, (nI (j + 1), r, nI (j + 1)), ?_, by omega, rfl, rfl, ?_⟩
          · rw [x4, if_neg (Int32.not_lt.mpr (nI_pos' (by omega))), bnd_eq, h64, nI_1, nI_1, ob r1, bnd_eq]
          · rw [cT_t x2, x3] at r2
            exact r2
        · left
          rw [x2, if_pos (by decide), x1])
  rw [nI_0] at this
  exact this
theorem centralPlace_eq {Z : Nat → Bool} {nd k : Nat} (hk : k < 2 ^ 31) (hO : OKm n m mv st) (he : EL n (Gp n m mv) N e) (hL : Lst I L rm n N e) (h7 : ∀ i, i < m → L 7 i = tn n (mv i)) (h64 : I 6 4 = nI nd) (hnd : nd < 64) (hnm : ∀ t, nd.testBit t = true → t < m) (hZ : ∀ x, x < N → (Z x = true ↔ ∀ t, nd.testBit t = true → cp (e x) (mv t) = cp (mv t) (e x))) {r0 : Int32} (h0 : (∃ x, x < N ∧ Z x = true ∧ cT Z x = 0 ∧ r0 = nI x) ∨ (cT Z N = 0 ∧ r0 = -1)) : ∃ r, f_X2_centralPlace_22 rm (nI k) I L FU r0 0 = some ((r, I, L), rm) ∧ ((∃ x, x < N ∧ Z x = true ∧ cT Z x = k ∧ r = nI x) ∨ (cT Z N ≤ k ∧ r = -1)) := by
  have hG := Gp_Sub hO.1 hO.2.2.1
  have l4 : rm ≤ 5040 := hL.2.2.2.2.1
  have l3 : N ≤ rm := hL.2.2.2.1
  have hcn := cT_le Z N
  have := loop0 (fun fu (z : Int32 × Int32) => f_X2_centralPlace_22 rm (nI k) I L fu z.1 z.2) (fun j z => j ≤ cT Z N ∧ j ≤ k ∧ z.2 = nI j ∧ ((∃ x, x < N ∧ Z x = true ∧ cT Z x = j ∧ z.1 = nI x) ∨ (cT Z N = j ∧ z.1 = -1))) (fun o => ∃ r, o = some ((r, I, L), rm) ∧ ((∃ x, x < N ∧ Z x = true ∧ cT Z x = k ∧ r = nI x) ∨ (cT Z N ≤ k ∧ r = -1))) (cT Z N) (by omega) (r0, nI 0) ⟨Nat.zero_le _, Nat.zero_le _, rfl, h0⟩
    (fun fu j z hj hP => by
      obtain ⟨z1, z2⟩ := z
      obtain ⟨_, p0, p2, p3⟩ := hP
      dsimp only at p2 p3 ⊢
      subst p2
      rw [f_X2_centralPlace_22, ifc (q_le hk (by omega))]
      by_cases c1 : k ≤ j
      · left
        have ejk : j = k := by omega
        subst ejk
        rw [if_pos c1]
        rcases p3 with ⟨x, x1, x2, x3, x4⟩ | ⟨x1, x2⟩
        · exact ⟨_, rfl, Or.inl ⟨x, x1, x2, x3, x4⟩⟩
        · exact ⟨_, rfl, Or.inr ⟨by omega, x2⟩⟩
      · rw [if_neg c1]
        rcases p3 with ⟨x, x1, x2, x3, x4⟩ | ⟨x1, x2⟩
        · right
          have := cT_lt Z x1 x2
          obtain ⟨r, r1, r2⟩ := nextCentral_eq (f := x + 1) hO hG he hL h7 hnd hnm hZ (by omega)
          refine ⟨by omega, (r, nI (j + 1)), ?_, by omega, by omega, rfl, ?_⟩
          · rw [x4, if_neg (Int32.not_lt.mpr (nI_pos' (by omega))), h64, nI_1, nI_1, ob r1, bnd_eq]
          · rw [cT_t x2, x3] at r2
            exact r2
        · left
          rw [x2, if_pos (by decide)]
          exact ⟨_, rfl, Or.inr ⟨by omega, rfl⟩⟩)
  rw [nI_0] at this
  exact this
theorem goesWith_eq {p : Nat → Nat} {c : Bool} (hO : OKm n m mv st) (hN : Nw I m mv st) (hp : IsP n p) (hr : Row I 46 0 p) (hc : c = true ↔ Zp m mv p) : ∃ I', f_X8_goesWithMoves 46 I L = some (c, I', L) ∧ Fr [47, 49, 50] I I' := by
  have hn := hO.1
  have hm := hO.2.1
  have h10 := IsP_mono hp hn
  unfold f_X8_goesWithMoves
  have := loop0 (fun fu (z : Int32 × MI × ML) => f_X8_goesWithMoves_2 46 fu z.1 z.2.1 z.2.2) (fun j z => j ≤ m ∧ z.1 = nI j ∧ z.2.2 = L ∧ Fr [47, 49, 50] I z.2.1 ∧ ∀ t, t < j → cp p (mv t) = cp (mv t) p) (fun o => ∃ I', o = some (c, I', L) ∧ Fr [47, 49, 50] I I') m (by omega) (nI 0, I, L) ⟨Nat.zero_le _, rfl, rfl, Fr.refl, fun t ht => by omega⟩
    (fun fu j z hj hP => by
      obtain ⟨z1, K, M⟩ := z
      obtain ⟨_, p1, p2, p3, p4⟩ := hP
      dsimp only at p1 p2 p3 ⊢
      subst p1 p2
      have hN2 := hN.fr (I' := K) (p3 44 (by decide))
      rw [f_X8_goesWithMoves_2, ob (moves_eq hN2), ifc (q_le (by omega) (by omega))]
      by_cases c1 : m ≤ j
      · left
        rw [if_pos c1, hc.mpr (fun i hi => p4 i (by omega))]
        exact ⟨K, rfl, p3⟩
      · have hmP := IsP_mono (hO.2.2.1 j (by omega)) hn
        have r46 : Row K 46 0 p := Row_of (p3 46 (by decide)) hr
        have r1 : Row (wp K 47 0 (mv j)) 46 0 p := Row_ne (by decide) r46
        have r2 : Row (wp (wp K 47 0 (mv j)) 49 0 (cp p (mv j))) 46 0 p := Row_ne (by decide) r1
        have r3 : Row (wp (wp K 47 0 (mv j)) 49 0 (cp p (mv j))) 47 0 (mv j) := Row_ne (by decide) Row_wp
        obtain ⟨b, hb⟩ := em_B (cp p (mv j) = cp (mv j) p)
        have sm := areSame_eq (I := wp (wp (wp K 47 0 (mv j)) 49 0 (cp p (mv j))) 50 0 (cp (mv j) p)) (L := M) (a := 49) (b := 50) (Row_ne (by decide) Row_wp) Row_wp (IsP_cp h10 hmP) (IsP_cp hmP h10) hb
        have f3 : Fr [47, 49, 50] I (wp (wp (wp K 47 0 (mv j)) 49 0 (cp p (mv j))) 50 0 (cp (mv j) p)) := ((p3.trans (Fr_wp (by decide))).trans (Fr_wp (by decide))).trans (Fr_wp (by decide))
        rw [if_neg c1, ob (laysMove_eq hN2 (show j < m by omega) (by decide)), ob (makes_eq r1 Row_wp h10 (by decide) (by decide)), ob (makes_eq r3 r2 hmP (by decide) (by decide)), ob sm]
        cases b
        · left
          rw [if_pos b2i_f]
          have hcf : c = false := by
            cases c
            · rfl
            · exact absurd (hb.mpr (hc.mp rfl j (by omega))) (by decide)
          rw [hcf]
          exact ⟨_, rfl, f3⟩
        · right
          refine ⟨by omega, (nI (j + 1), wp (wp (wp K 47 0 (mv j)) 49 0 (cp p (mv j))) 50 0 (cp (mv j) p), M), ?_, by omega, rfl, rfl, f3, fun t ht => ?_⟩
          · rw [if_neg b2i_t, bnd_eq, nI_1]
          · by_cases e1 : t = j
            · subst e1; exact hb.mp rfl
            · exact p4 t (by omega))
  rw [nI_0] at this
  exact this
theorem centre31_eq {a : Int32} {Z : Nat → Bool} (hO : OKm n m mv st) (he : EL n (Gp n m mv) N e) (hN : N ≤ 5040) (hA : AD I n m mv st N e) (hZ : ∀ x, x < N → (Z x = true ↔ Zp m mv (e x))) (k0 : Int32 → MI → ML → Option (Int32 × Mm)) : ∃ I', Fr [46, 47, 49, 50] I I' ∧ ((∃ x, x < N ∧ Z x = true ∧ nI (cT Z x) = a ∧ f_X8_centre_31 a k0 FU 0 0 I L = some (nI x, I', L)) ∨ ((∀ x, x < N → Z x = true → nI (cT Z x) ≠ a) ∧ f_X8_centre_31 a k0 FU 0 0 I L = k0 (nI (cT Z N)) I' L)) := by
  have hG := Gp_Sub hO.1 hO.2.2.1
  have := loop0 (fun fu (z : Int32 × Int32 × MI × ML) => f_X8_centre_31 a k0 fu z.1 z.2.1 z.2.2.1 z.2.2.2) (fun j z => j ≤ N ∧ z.1 = nI (cT Z j) ∧ z.2.1 = nI j ∧ z.2.2.2 = L ∧ Fr [46, 47, 49, 50] I z.2.2.1 ∧ ∀ x, x < j → Z x = true → nI (cT Z x) ≠ a) (fun o => ∃ I', Fr [46, 47, 49, 50] I I' ∧ ((∃ x, x < N ∧ Z x = true ∧ nI (cT Z x) = a ∧ o = some (nI x, I', L)) ∨ ((∀ x, x < N → Z x = true → nI (cT Z x) ≠ a) ∧ o = k0 (nI (cT Z N)) I' L))) N (by omega) (nI 0, nI 0, I, L) ⟨Nat.zero_le _, rfl, rfl, rfl, Fr.refl, fun x hx => by omega⟩
    (fun fu j z hj hP => by
      obtain ⟨z1, z2, K, M⟩ := z
      obtain ⟨_, p1, p2, p3, p4, p5⟩ := hP
      dsimp only at p1 p2 p3 p4 ⊢
      subst p1 p2 p3
      have A := hA.fr p4 (by decide)
      rw [f_X8_centre_31, A.2.1, ifc (q_le (by omega) (by omega))]
      by_cases c1 : N ≤ j
      · left
        rw [if_pos c1]
        exact ⟨K, p4, Or.inr ⟨fun x hx => p5 x (by omega), by rw [show j = N by omega]⟩⟩
      · have eP := EL_P hG he (show j < N by omega)
        have f1 : Fr [46, 47, 49, 50] I (wp K 46 0 (e j)) := p4.trans (Fr_wp (by decide))
        have A1 := hA.fr f1 (by decide)
        obtain ⟨I1, g1, g2⟩ := goesWith_eq (L := M) hO A1.1.2.1 eP Row_wp (hZ j (by omega))
        have f2 : Fr [46, 47, 49, 50] I I1 := f1.trans (g2.mono (by decide))
        rw [if_neg c1, ob (laysOne_eq hN A.2.2 (show j < N by omega) (by decide)), ob g1]
        dsimp only
        cases hz : Z j
        · right
          refine ⟨by omega, (nI (cT Z (j + 1)), nI (j + 1), I1, M), ?_, by omega, rfl, rfl, rfl, f2, fun x hx hzx => ?_⟩
          · rw [if_pos b2i_f, bnd_eq, nI_1, cT_f hz]
          · by_cases e1 : x = j
            · subst e1; rw [hz] at hzx; cases hzx
            · exact p5 x (by omega) hzx
        · rw [if_neg b2i_t]
          by_cases c2 : nI (cT Z j) = a
          · left
            rw [if_pos c2]
            exact ⟨I1, f2, Or.inl ⟨j, by omega, hz, c2, rfl⟩⟩
          · right
            refine ⟨by omega, (nI (cT Z (j + 1)), nI (j + 1), I1, M), ?_, by omega, rfl, rfl, rfl, f2, fun x hx hzx => ?_⟩
            · rw [if_neg c2, bnd_eq, bnd_eq, nI_1, nI_1, cT_t hz]
            · by_cases e1 : x = j
              · subst e1; exact c2
              · exact p5 x (by omega) hzx)
  rw [nI_0] at this
  exact this
theorem Q8_l {J J' : MI} (h : Fr (43 :: 48 :: 60 :: SC) J J') (h2 : F43 J J') : Q8 J J' := Q8_d (h.mono (by decide)) h2
theorem PR_27h : PR_27 Inv := by
  intro I L rm a ⟨n, m, mv, st, h⟩
  obtain ⟨hO, hC, hR, hP, hT, hU, hF, hS⟩ := id h
  have hn := hO.1
  have hG := Gp_Sub hn hO.2.2.1
  obtain ⟨N, e, he⟩ := EL_ex hn hG
  have hu := hurdle_eq hO hC he
  by_cases h1 : a < -1
  · have c1 : ¬ -1 ≤ a := Int32.not_le.mpr h1
    refine ⟨-1, up2 I 0 6 1, L, rm, ?_, RS_r, is8 (up2 I 0 6 1) 1, L, ?_, IV_q h (Q8_is (a := 1)) (RDY_is (RDY_s hR)) is8_0⟩
    · simp (config := { decide := true }) only [f_X7_centre, c1, obs, bnd_eq, is_0, is_1, is_2, is_3, is_4, is_5, is_6, is_9, tell_eq, refuse_eq, refuse8_eq, b2i_1, b2i_0, if_true, if_false, ↓reduceIte]
    · simp (config := { decide := true }) only [f_X8_centre, h1, wS_1, obs, bnd_eq, is_0, is_1, is_2, is_3, is_4, is_5, is_6, is_9, tell_eq, refuse_eq, refuse8_eq, b2i_1, b2i_0, if_true, if_false, ↓reduceIte]
  · have c1 : -1 ≤ a := Int32.not_lt.mp h1
    rcases hz_3 n N with hz | hz | hz
    · obtain ⟨hN, hn0⟩ := hz_N hz
      rw [hz] at hu
      obtain ⟨I1, L1, rm1, a1, a2⟩ := all_eq hO hC he hN
      obtain ⟨nd, n1, n2, n3, n4⟩ := a2.2.2.2.1.2.2.2.2.2.1
      obtain ⟨Z, hZ⟩ := dec_ex (fun x => Zp m mv (e x))
      have hZ2 : ∀ x, x < N → (Z x = true ↔ ∀ t, nd.testBit t = true → cp (e x) (mv t) = cp (mv t) (e x)) := fun x hx => (hZ x).trans ⟨fun g t ht => g t (n3 t ht), fun g i hi => cent_nd hn hO.2.2.1 n4 (fun t _ ht => g t ht) _ (Gp_mv hi)⟩
      have h7 := a2.2.2.2.1.2.2.1
      have hLs := a2.2.2.2.2.1
      have hcn := cT_le Z N
      obtain ⟨r0, q1, q2⟩ := nextCentral_eq (f := 0) hO hG he hLs h7 n2 n3 hZ2 (Nat.zero_le _)
      rw [nI_0] at q1
      have ref : ∀ s : Int32, ∃ J I3, f_X8_whySmall 0 (up2 I1 0 6 s) L1 = some (0, J, L1) ∧ f_X8_laysAll (is8 J 0) L1 = some (I3, L1) ∧ AD I3 n m mv st N e ∧ Q8 (up2 I1 0 6 s) I3 ∧ I3 43 0 = 0 := fun s => by
        obtain ⟨J, b1, b2, b3, b4⟩ := wS0 (L := L1) hO (RDY_a (s := s) a2 hR) he hz
        obtain ⟨I3, g1, g2, g3, g4⟩ := laysAll_eq (L := L1) hO (RDY_is (a := 0) b2.rdy) he hN
        exact ⟨J, I3, b1, g1, g2, (b3.trans Q8_is).trans (Q8_l g3 g4), by rw [g4 0 (by decide) (by decide)]; exact is8_0⟩
      rcases neg1_cases a with g | rfl | ⟨k, hk, rfl⟩
      · exact absurd g h1
      · obtain ⟨J, I3, w1, w2, w3, w4, w5⟩ := ref 0
        obtain ⟨I4, x1, x2⟩ := centre31_eq (a := -1) (L := L1) hO he hN w3 (fun x _ => hZ x) (fun (v2_15 : Int32) (I_16 : MI) (L_17 : ML) => some (v2_15, I_16, L_17))
        have x3 : f_X8_centre_31 (-1) (fun (v2_15 : Int32) (I_16 : MI) (L_17 : ML) => some (v2_15, I_16, L_17)) FU 0 0 I3 L1 = some (nI (cT Z N), I4, L1) := by
          rcases x2 with ⟨x, y1, y2, y3, y4⟩ | ⟨_, y⟩
          · exact absurd y3 (nI_nm1 (by have := cT_le Z x; omega))
          · exact y
        have cc := countCentral_eq hO he hLs h7 n1 n2 n3 hZ2 q2
        refine ⟨nI (cT Z N), up2 I1 0 6 0, L1, rm1, ?_, a2.1, I4, L1, ?_, IV_a h a2 (w4.trans (Q8_fr x1 (by decide))) (w3.fr x1 (by decide)).1.rdy (by rw [x1 43 (by decide)]; exact w5)⟩
        · simp (config := { decide := true }) only [f_X7_centre, c1, hu, nI_0, f_X2_countCentral, a1, a2.kA, a2.kB, n1, q1, cc, obs, bnd_eq, is_0, is_1, is_2, is_3, is_4, is_5, is_6, is_9, tell_eq, refuse_eq, refuse8_eq, b2i_1, b2i_0, if_true, if_false, ↓reduceIte]
        · simp (config := { decide := true }) only [f_X8_centre, h1, w1, w2, x3, obs, bnd_eq, is_0, is_1, is_2, is_3, is_4, is_5, is_6, is_9, tell_eq, refuse_eq, refuse8_eq, b2i_1, b2i_0, if_true, if_false, ↓reduceIte]
      · have km := nI_nm1 hk
        obtain ⟨r, p1, p2⟩ := centralPlace_eq hk hO he hLs h7 n1 n2 n3 hZ2 q2
        rcases p2 with ⟨x, x1, x2, x3, x4⟩ | ⟨x1, x2⟩
        · subst x4
          obtain ⟨J, I3, w1, w2, w3, w4, w5⟩ := ref 0
          obtain ⟨I4, y1, y2⟩ := centre31_eq (a := nI k) (L := L1) hO he hN w3 (fun x _ => hZ x) (fun (v2_15 : Int32) (I_16 : MI) (L_17 : ML) => some (-1, up2 I_16 43 0 5, L_17))
          have y3 : f_X8_centre_31 (nI k) (fun (v2_15 : Int32) (I_16 : MI) (L_17 : ML) => some (-1, up2 I_16 43 0 5, L_17)) FU 0 0 I3 L1 = some (nI x, I4, L1) := by
            rcases y2 with ⟨x', z1, z2, z3, z4⟩ | ⟨z, _⟩
            · have : cT Z x' = k := by
                have := cT_le Z x'
                exact (q_eq (by omega) hk).mp z3
              rw [cT_inj Z z2 x2 (this.trans x3.symm)] at z4
              exact z4
            · exact absurd (by rw [x3]) (z x x1 x2)
          refine ⟨nI x, up2 I1 0 6 0, L1, rm1, ?_, a2.1, I4, L1, ?_, IV_a h a2 (w4.trans (Q8_fr y1 (by decide))) (w3.fr y1 (by decide)).1.rdy (by rw [y1 43 (by decide)]; exact w5)⟩
          · simp (config := { decide := true }) only [f_X7_centre, c1, hu, nI_0, km, f_X2_centralPlace, a1, a2.kA, a2.kB, n1, q1, p1, nI_pos' (show x < 2 ^ 31 by omega), obs, bnd_eq, is_0, is_1, is_2, is_3, is_4, is_5, is_6, is_9, tell_eq, refuse_eq, refuse8_eq, b2i_1, b2i_0, if_true, if_false, ↓reduceIte]
          · simp (config := { decide := true }) only [f_X8_centre, h1, w1, w2, km, y3, obs, bnd_eq, is_0, is_1, is_2, is_3, is_4, is_5, is_6, is_9, tell_eq, refuse_eq, refuse8_eq, b2i_1, b2i_0, if_true, if_false, ↓reduceIte]
        · subst x2
          obtain ⟨J, I3, w1, w2, w3, w4, w5⟩ := ref 5
          obtain ⟨I4, y1, y2⟩ := centre31_eq (a := nI k) (L := L1) hO he hN w3 (fun x _ => hZ x) (fun (v2_15 : Int32) (I_16 : MI) (L_17 : ML) => some (-1, up2 I_16 43 0 5, L_17))
          have y3 : f_X8_centre_31 (nI k) (fun (v2_15 : Int32) (I_16 : MI) (L_17 : ML) => some (-1, up2 I_16 43 0 5, L_17)) FU 0 0 I3 L1 = some (-1, up2 I4 43 0 5, L1) := by
            rcases y2 with ⟨x', z1, z2, z3, z4⟩ | ⟨_, z⟩
            · have h3 : cT Z x' = k := by
                have := cT_le Z x'
                exact (q_eq (by omega) hk).mp z3
              have := cT_lt Z z1 z2
              omega
            · exact z
          refine ⟨-1, up2 I1 0 6 5, L1, rm1, ?_, a2.1, up2 I4 43 0 5, L1, ?_, IV_a h a2 ((w4.trans (Q8_fr y1 (by decide))).trans Q8_r) (RDY_r (w3.fr y1 (by decide)).1.rdy) up2_s⟩
          · simp (config := { decide := true }) only [f_X7_centre, c1, hu, nI_0, km, f_X2_centralPlace, a1, a2.kA, a2.kB, n1, q1, p1, obs, bnd_eq, is_0, is_1, is_2, is_3, is_4, is_5, is_6, is_9, tell_eq, refuse_eq, refuse8_eq, b2i_1, b2i_0, if_true, if_false, ↓reduceIte]
          · simp (config := { decide := true }) only [f_X8_centre, h1, w1, w2, km, y3, obs, bnd_eq, is_0, is_1, is_2, is_3, is_4, is_5, is_6, is_9, tell_eq, refuse_eq, refuse8_eq, b2i_1, b2i_0, if_true, if_false, ↓reduceIte]
    · rw [hz] at hu
      obtain ⟨I2, b1, b2, b3, b4⟩ := wS (L := L) hO (RDY_s (s := 5) hR) he hz
      refine ⟨-1, up2 I 0 6 5, L, rm, ?_, RS_r, is8 I2 5, L, ?_, IV_q h (b3.trans Q8_is) (RDY_is b2) is8_0⟩
      · simp (config := { decide := true }) only [f_X7_centre, c1, hu, show nI 5 = 5 from rfl, obs, bnd_eq, is_0, is_1, is_2, is_3, is_4, is_5, is_6, is_9, tell_eq, refuse_eq, refuse8_eq, b2i_1, b2i_0, if_true, if_false, ↓reduceIte]
      · simp (config := { decide := true }) only [f_X8_centre, h1, b1, show nI 5 = 5 from rfl, obs, bnd_eq, is_0, is_1, is_2, is_3, is_4, is_5, is_6, is_9, tell_eq, refuse_eq, refuse8_eq, b2i_1, b2i_0, if_true, if_false, ↓reduceIte]
    · rw [hz] at hu
      obtain ⟨I2, b1, b2, b3, b4⟩ := wS (L := L) hO (RDY_s (s := 3) hR) he hz
      refine ⟨-1, up2 I 0 6 3, L, rm, ?_, RS_r, is8 I2 3, L, ?_, IV_q h (b3.trans Q8_is) (RDY_is b2) is8_0⟩
      · simp (config := { decide := true }) only [f_X7_centre, c1, hu, show nI 3 = 3 from rfl, obs, bnd_eq, is_0, is_1, is_2, is_3, is_4, is_5, is_6, is_9, tell_eq, refuse_eq, refuse8_eq, b2i_1, b2i_0, if_true, if_false, ↓reduceIte]
      · simp (config := { decide := true }) only [f_X8_centre, h1, b1, show nI 3 = 3 from rfl, obs, bnd_eq, is_0, is_1, is_2, is_3, is_4, is_5, is_6, is_9, tell_eq, refuse_eq, refuse8_eq, b2i_1, b2i_0, if_true, if_false, ↓reduceIte]
end CE
