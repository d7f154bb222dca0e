/-! Orbits -/
/-- the least set with a point that moves keep -/
def Ob (m : Nat) (mv : Nat → Nat → Nat) (pt : Nat) : Nat → Prop := fun x => ∀ B : Nat → Prop, B pt → (∀ j y, j < m → B y → B (mv j y)) → B x
def Rp2 (n s : Nat) (A : Nat → Prop) : Prop := s < 2 ^ n ∧ ∀ x, s.testBit x = true ↔ A x
theorem Rp2_un {n n' s s' : Nat} {A : Nat → Prop} (h : Rp2 n s A) (h' : Rp2 n' s' A) : s = s' := Nat.eq_of_testBit_eq (fun x => by rw [Bool.eq_iff_iff, h.2, h'.2])
def cnS (n s : Nat) : Nat := cT (fun x => s.testBit x) n
section OB
variable {n m rm : Nat} {mv : Nat → Nat → Nat} {st : Nat → Nat} {I : MI} {L : ML}
theorem Ob_0 {pt : Nat} : Ob m mv pt pt := fun _ h _ => h
theorem Ob_s {pt j y : Nat} (hj : j < m) (h : Ob m mv pt y) : Ob m mv pt (mv j y) := fun B h0 hs => hs j y hj (h B h0 hs)
theorem Ob_lt (hmv : ∀ i, i < m → IsP n (mv i)) {pt x : Nat} (hp : pt < n) (h : Ob m mv pt x) : x < n := h (fun x => x < n) hp (fun j y hj hy => (hmv j hj).1 y hy)
theorem Ob_G (hn : n ≤ 10) (hmv : ∀ i, i < m → IsP n (mv i)) {pt x : Nat} : Ob m mv pt x ↔ ∃ g, Gp n m mv g ∧ g pt = x := by
  have hG := Gp_Sub hn hmv
  constructor
  · intro h
    exact h (fun x => ∃ g, Gp n m mv g ∧ g pt = x) ⟨idp, hG.2.1, rfl⟩ (fun j y hj ⟨g, g1, g2⟩ => ⟨cp g (mv j), hG.2.2.1 _ _ g1 (Gp_mv hj), by show mv j (g pt) = _; rw [g2]⟩)
  · intro ⟨g, g1, g2⟩
    rw [← g2]
    exact Gen_right (M := fun q => Ob m mv pt (q pt)) hn (MS_P hmv _) Ob_0 (fun q s hq ⟨t, t1, _, t3⟩ => by rw [t3]; exact Ob_s t1 hq) g g1
theorem Ob_sym (hn : n ≤ 10) (hmv : ∀ i, i < m → IsP n (mv i)) {x y : Nat} (h : Ob m mv x y) : Ob m mv y x := by
  have hG := Gp_Sub hn hmv
  obtain ⟨g, g1, g2⟩ := (Ob_G hn hmv).mp h
  exact (Ob_G hn hmv).mpr ⟨iv g, hG.2.2.2 _ g1, by rw [← g2]; exact iv_l hn (hG.1 _ g1) x⟩
theorem Ob_tr {x y z : Nat} (h : Ob m mv x y) (h2 : Ob m mv y z) : Ob m mv x z := h2 (Ob m mv x) h (fun _ _ hj hy => Ob_s hj hy)
/-- a step that grows a set towards the least one -/
def StO (n m : Nat) (mv : Nat → Nat → Nat) (s s' : Nat) : Prop := s' < 2 ^ n ∧ (∀ x, s.testBit x = true → s'.testBit x = true) ∧ (∀ B : Nat → Prop, (∀ x, s.testBit x = true → B x) → (∀ j y, j < m → B y → B (mv j y)) → ∀ x, s'.testBit x = true → B x) ∧ (∀ j x, j < m → s.testBit x = true → s'.testBit (mv j x) = true)
theorem tb_lt {s x n : Nat} (hs : s < 2 ^ n) (h : s.testBit x = true) : x < n := by
  refine Nat.lt_of_not_le fun hle => ?_
  rw [Nat.testBit_lt_two_pow (Nat.lt_of_lt_of_le hs (Nat.pow_le_pow_right (by decide) hle))] at h
  cases h
theorem cnS_lt {s s' : Nat} (hs' : s' < 2 ^ n) (h : ∀ x, s.testBit x = true → s'.testBit x = true) (hne : s ≠ s') : cnS n s < cnS n s' := by
  have : ∃ x, s.testBit x = false ∧ s'.testBit x = true := Classical.byContradiction fun hno => hne (Nat.eq_of_testBit_eq (fun x => by
    cases h1 : s.testBit x
    · cases h2 : s'.testBit x
      · rfl
      · exact absurd ⟨x, h1, h2⟩ hno
    · rw [h x h1]))
  obtain ⟨x, x1, x2⟩ := this
  exact cT_imp_lt h x1 x2 n (tb_lt hs' x2)
/-- what is in it: after a step that changes nothing it is the least set -/
theorem StO_fix {s pt : Nat} (hs : s < 2 ^ n) (h : StO n m mv s s) (h0 : s.testBit pt = true) (hle : ∀ x, s.testBit x = true → Ob m mv pt x) : Rp2 n s (Ob m mv pt) := ⟨hs, fun x => ⟨hle x, fun hx => hx (fun x => s.testBit x = true) h0 (fun j y hj hy => h.2.2.2 j y hj hy)⟩⟩
theorem StO_le {s s' pt : Nat} (h : StO n m mv s s') (hle : ∀ x, s.testBit x = true → Ob m mv pt x) : ∀ x, s'.testBit x = true → Ob m mv pt x := h.2.2.1 (Ob m mv pt) hle (fun _ _ hj hy => Ob_s hj hy)
theorem imagesOf_eq {s : Nat} {p : Nat → Nat} (hn : n ≤ 10) (hp : IsP n p) (h6 : I 6 0 = nI n) (hs : s < 2 ^ n) : ∃ s', f_X2_imagesOf (nI s) (tn n p) I L = some (nI s') ∧ Rp2 n s' (fun x => ∃ i, i < n ∧ s.testBit i = true ∧ p i = x) := by
  have h10 : 2 ^ n ≤ 2 ^ 10 := Nat.pow_le_pow_right (by decide) hn
  unfold f_X2_imagesOf
  have := loop0 (fun fu z => f_X2_imagesOf_6 (nI s) (tn n p) I L fu z.1 z.2)
    (fun i z => i ≤ n ∧ z.2 = nI i ∧ ∃ t, z.1 = nI t ∧ Rp2 n t (fun x => ∃ j, j < i ∧ s.testBit j = true ∧ p j = x))
    (fun o => ∃ s', o = some (nI s') ∧ Rp2 n s' (fun x => ∃ i, i < n ∧ s.testBit i = true ∧ p i = x)) n (by omega) (nI 0, nI 0) ⟨Nat.zero_le _, rfl, 0, rfl, Nat.two_pow_pos n, fun x => by rw [Nat.zero_testBit]; exact ⟨(fun h => by cases h), fun ⟨j, hj, _⟩ => by omega⟩⟩
    (fun fu i z hi hP => by
      obtain ⟨z1, z2⟩ := z
      obtain ⟨_, p1, t, p2, p3⟩ := hP
      dsimp only at p1 p2 ⊢
      subst p1 p2
      rw [f_X2_imagesOf_6, h6, ifc (q_le (by omega) (by omega))]
      by_cases c1 : n ≤ i
      · left
        rw [if_pos c1]
        have : i = n := by omega
        subst this
        exact ⟨t, rfl, p3⟩
      · right
        refine ⟨by omega, ?_⟩
        rw [if_neg c1, ifc (q_bit0 (by omega) (by omega))]
        have hpi := hp.1 i (by omega)
        cases hb : s.testBit i
        · rw [if_pos rfl, bnd_eq, nI_1]
          refine ⟨(nI t, nI (i + 1)), rfl, by omega, rfl, t, rfl, p3.1, fun x => (p3.2 x).trans ⟨fun ⟨j, a, b, c⟩ => ⟨j, by omega, b, c⟩, fun ⟨j, a, b, c⟩ => ⟨j, ?_, b, c⟩⟩⟩
          have : j ≠ i := fun e => by rw [e, hb] at b; cases b
          omega
        · rw [if_neg (by decide), ob (tn_img hn hp (show i < n by omega)), bnd_eq, q_shl1 (by omega), q_or, bnd_eq, nI_1]
          refine ⟨(nI (t ||| 2 ^ p i), nI (i + 1)), rfl, by omega, rfl, _, rfl, Nat.or_lt_two_pow p3.1 (Nat.pow_lt_pow_right (by decide) hpi), fun x => ?_⟩
          rw [Nat.testBit_or, Bool.or_eq_true, p3.2 x, Nat.testBit_two_pow, decide_eq_true_iff]
          constructor
          · intro g
            rcases g with ⟨j, a, b, c⟩ | g
            · exact ⟨j, by omega, b, c⟩
            · exact ⟨i, by omega, hb, g⟩
          · intro ⟨j, a, b, c⟩
            by_cases e : j = i
            · right; rw [← e]; exact c
            · left; exact ⟨j, by omega, b, c⟩)
  rw [nI_0] at this
  exact this
theorem reached26 {s : Nat} {v3 v4 : Int32} (hO : OKm n m mv st) (hC : CI I L rm n m mv st) (hs : s < 2 ^ n) (k0 : Int32 → Option Int32) : ∃ s', f_X2_reachedFrom_26 v3 v4 I L k0 FU (nI s) 0 = k0 (nI s') ∧ StO n m mv s s' := by
  have hn := hO.1
  have hm := hO.2.1
  have h10 : 2 ^ n ≤ 2 ^ 10 := Nat.pow_le_pow_right (by decide) hn
  have := loop0 (fun fu z => f_X2_reachedFrom_26 v3 v4 I L k0 fu z.1 z.2)
    (fun i z => i ≤ m ∧ z.2 = nI i ∧ ∃ t, z.1 = nI t ∧ t < 2 ^ n ∧ (∀ x, s.testBit x = true → t.testBit x = true) ∧ (∀ B : Nat → Prop, (∀ x, s.testBit x = true → B x) → (∀ j y, j < m → B y → B (mv j y)) → ∀ x, t.testBit x = true → B x) ∧ (∀ j x, j < i → s.testBit x = true → t.testBit (mv j x) = true))
    (fun o => ∃ s', o = k0 (nI s') ∧ StO n m mv s s') m (by omega) (nI s, nI 0) ⟨Nat.zero_le _, rfl, s, rfl, hs, fun _ h => h, fun B hB _ x hx => hB x hx, fun j x hj => by omega⟩
    (fun fu i z hi hP => by
      obtain ⟨z1, z2⟩ := z
      obtain ⟨_, p1, t, p2, p3, p4, p5, p6⟩ := hP
      dsimp only at p1 p2 ⊢
      subst p1 p2
      rw [f_X2_reachedFrom_26, hC.2.1, ifc (q_le (by omega) (by omega))]
      by_cases c1 : m ≤ i
      · left
        rw [if_pos c1]
        exact ⟨t, rfl, p3, p4, p5, fun j x hj => p6 j x (by omega)⟩
      · right
        refine ⟨by omega, ?_⟩
        have hP := hO.2.2.1 i (by omega)
        obtain ⟨u, u1, u2, u3⟩ := imagesOf_eq (I := I) (L := L) (s := t) hn hP hC.1 p3
        rw [if_neg c1, q_chk (by omega) (by decide), q_ix (by omega), hC.2.2.1 i (by omega), ob u1, bnd_eq, q_or, bnd_eq, nI_1]
        refine ⟨(nI (t ||| u), nI (i + 1)), rfl, by omega, rfl, _, rfl, Nat.or_lt_two_pow p3 u2, fun x hx => ?_, fun B hB hBs x hx => ?_, fun j x hj hx => ?_⟩
        · rw [Nat.testBit_or, p4 x hx]; rfl
        · rw [Nat.testBit_or, Bool.or_eq_true] at hx
          rcases hx with hx | hx
          · exact p5 B hB hBs x hx
          · obtain ⟨y, y1, y2, y3⟩ := (u3 x).mp hx
            rw [← y3]; exact hBs i y (by omega) (p5 B hB hBs y y2)
        · rw [Nat.testBit_or, Bool.or_eq_true]
          by_cases e1 : j = i
          · subst e1
            right
            exact (u3 _).mpr ⟨x, tb_lt hs hx, p4 x hx, rfl⟩
          · left; exact p6 j x (by omega) hx)
  rw [nI_0] at this
  exact this
theorem tb2p {pt x : Nat} : (2 ^ pt).testBit x = true ↔ x = pt := by rw [Nat.testBit_two_pow, decide_eq_true_iff]; exact ⟨fun h => h.symm, fun h => h.symm⟩
theorem reachedFrom_eq {pt : Nat} (hO : OKm n m mv st) (hC : CI I L rm n m mv st) (hp : pt < n) : ∃ s, f_X2_reachedFrom (nI pt) I L = some (nI s) ∧ Rp2 n s (Ob m mv pt) := by
  have hn := hO.1
  have h10 : 2 ^ n ≤ 2 ^ 10 := Nat.pow_le_pow_right (by decide) hn
  unfold f_X2_reachedFrom
  rw [bnd_eq, q_shl1 (by omega)]
  have h2p : 2 ^ pt < 2 ^ n := Nat.pow_lt_pow_right (by decide) hp
  have := loop0 (fun fu z => f_X2_reachedFrom_9 I L fu z.1 z.2.1 z.2.2)
    (fun r z => r ≤ 10 ∧ z.2.2 = nI r ∧ ∃ s a, z.1 = nI s ∧ z.2.1 = nI a ∧ s < 2 ^ n ∧ a < 2 ^ n ∧ s.testBit pt = true ∧ (∀ x, s.testBit x = true → Ob m mv pt x) ∧ ((s = a ∧ StO n m mv s s) ∨ (s ≠ a ∧ r + 1 ≤ cnS n s)))
    (fun o => ∃ s, o = some (nI s) ∧ Rp2 n s (Ob m mv pt)) 10 (by decide) (nI (2 ^ pt), nI 0, nI 0) ⟨Nat.zero_le _, rfl, 2 ^ pt, 0, rfl, rfl, h2p, Nat.two_pow_pos n, tb2p.mpr rfl, fun x hx => by rw [tb2p.mp hx]; exact Ob_0, Or.inr ⟨by have := Nat.two_pow_pos pt; omega, by
      have := cT_lt (fun x => (2 ^ pt).testBit x) hp (tb2p.mpr rfl)
      unfold cnS
      omega⟩⟩
    (fun fu r z hr hP => by
      obtain ⟨z1, z2, z3⟩ := z
      obtain ⟨_, p1, s, a, p2, p3, p4, p5, p6, p7, p8⟩ := hP
      dsimp only at p1 p2 p3 ⊢
      subst p1 p2 p3
      rw [f_X2_reachedFrom_9, show (10 : Int32) = nI 10 from rfl, ifc (q_le (by decide) (by omega))]
      have hcn : cnS n s ≤ n := cT_le _ _
      by_cases c1 : 10 ≤ r
      · left
        rw [if_pos c1]
        rcases p8 with ⟨_, g⟩ | ⟨_, g⟩
        · exact ⟨s, rfl, StO_fix p4 g p6 p7⟩
        · omega
      · rw [if_neg c1, ifc (q_eq (by omega) (by omega))]
        by_cases c2 : s = a
        · left
          rw [if_pos c2]
          rcases p8 with ⟨_, g⟩ | ⟨g, _⟩
          · exact ⟨s, rfl, StO_fix p4 g p6 p7⟩
          · exact absurd c2 g
        · right
          refine ⟨by omega, ?_⟩
          rcases p8 with ⟨g, _⟩ | ⟨_, g⟩
          · exact absurd g c2
          · obtain ⟨s', j1, j2⟩ := reached26 (v3 := nI s) (v4 := nI r) hO hC p4 (fun (v2_12 : Int32) => bnd (nI r + 1 : Int32) (fun v4_13 => f_X2_reachedFrom_9 I L fu v2_12 (nI s) v4_13))
            rw [if_neg c2, j1, bnd_eq, nI_1]
            refine ⟨(nI s', nI s, nI (r + 1)), rfl, by omega, rfl, s', s, rfl, rfl, j2.1, p4, j2.2.1 pt p6, StO_le j2 p7, ?_⟩
            by_cases c3 : s' = s
            · left; subst c3; exact ⟨rfl, j2⟩
            · right
              have := cnS_lt j2.1 j2.2.1 (fun e => c3 e.symm)
              exact ⟨c3, by omega⟩)
  rw [nI_0] at this
  exact this
/-! the reference -/
theorem orbitOf29 {i s : Nat} {v3 : Int32} (hO : OKm n m mv st) (h43 : I 43 2 = nI n) (hN : Nw I m mv st) (hi : i < m) (hs : s < 2 ^ n) (k0 : Int32 → Option Int32) : ∃ s', f_X8_orbitOf_29 v3 (nI i) I L k0 FU (nI s) 0 = k0 (nI s') ∧ s' < 2 ^ n ∧ (∀ x, s.testBit x = true → s'.testBit x = true) ∧ (∀ B : Nat → Prop, (∀ x, s.testBit x = true → B x) → (∀ j y, j < m → B y → B (mv j y)) → ∀ x, s'.testBit x = true → B x) ∧ (∀ x, s.testBit x = true → s'.testBit (mv i x) = true) := by
  have hn := hO.1
  have hm := hO.2.1
  have h10 : 2 ^ n ≤ 2 ^ 10 := Nat.pow_le_pow_right (by decide) hn
  have hP := hO.2.2.1 i hi
  have := loop0 (fun fu z => f_X8_orbitOf_29 v3 (nI i) I L k0 fu z.1 z.2)
    (fun y z => y ≤ n ∧ z.2 = nI y ∧ ∃ t, z.1 = nI t ∧ t < 2 ^ n ∧ (∀ x, s.testBit x = true → t.testBit x = true) ∧ (∀ B : Nat → Prop, (∀ x, s.testBit x = true → B x) → (∀ j y, j < m → B y → B (mv j y)) → ∀ x, t.testBit x = true → B x) ∧ (∀ x, x < y → s.testBit x = true → t.testBit (mv i x) = true))
    (fun o => ∃ s', o = k0 (nI s') ∧ s' < 2 ^ n ∧ (∀ x, s.testBit x = true → s'.testBit x = true) ∧ (∀ B : Nat → Prop, (∀ x, s.testBit x = true → B x) → (∀ j y, j < m → B y → B (mv j y)) → ∀ x, s'.testBit x = true → B x) ∧ (∀ x, s.testBit x = true → s'.testBit (mv i x) = true)) n (by omega) (nI s, nI 0) ⟨Nat.zero_le _, rfl, s, rfl, hs, fun _ h => h, fun B hB _ x hx => hB x hx, fun x hx => by omega⟩
    (fun fu y z hy hP2 => by
      obtain ⟨z1, z2⟩ := z
      obtain ⟨_, p1, t, p2, p3, p4, p5, p6⟩ := hP2
      dsimp only at p1 p2 ⊢
      subst p1 p2
      rw [f_X8_orbitOf_29, h43, ifc (q_le (by omega) (by omega))]
      by_cases c1 : n ≤ y
      · left
        rw [if_pos c1]
        exact ⟨t, rfl, p3, p4, p5, fun x hx => p6 x (by have := tb_lt hs hx; omega) hx⟩
      · right
        refine ⟨by omega, ?_⟩
        rw [if_neg c1, ob (bit_eq (by omega) (by omega))]
        cases hb : t.testBit y
        · rw [if_pos b2i_f, bnd_eq, show (0 : Int32) = nI 0 from rfl, q_or, Nat.or_zero, bnd_eq, nI_1]
          refine ⟨(nI t, nI (y + 1)), rfl, by omega, rfl, t, rfl, p3, p4, p5, fun x hx hs2 => ?_⟩
          by_cases e1 : x = y
          · subst e1; rw [p4 x hs2] at hb; cases hb
          · exact p6 x (by omega) hs2
        · have hv := hP.1 y (by omega)
          have hr : I 44 (11 + 10 * i + y) = nI (mv i y) := hN.2.2.1 i hi y (by omega)
          rw [if_neg b2i_t, show ((11 : Int32) + 10 * nI i) + nI y = nI (11 + 10 * i + y) by rw [show (11 : Int32) = nI 11 from rfl, show (10 : Int32) = nI 10 from rfl, pk_mul, nI_add, nI_add], q_chk (by omega) (by decide), bnd_eq, q_ix (by omega), hr, q_shl1 (by omega), q_or, bnd_eq, nI_1]
          refine ⟨(nI (t ||| 2 ^ mv i y), nI (y + 1)), rfl, by omega, rfl, _, rfl, Nat.or_lt_two_pow p3 (Nat.pow_lt_pow_right (by decide) hv), fun x hx => ?_, fun B hB hBs x hx => ?_, fun x hx hs2 => ?_⟩
          · rw [Nat.testBit_or, p4 x hx]; rfl
          · rw [Nat.testBit_or, Bool.or_eq_true] at hx
            rcases hx with hx | hx
            · exact p5 B hB hBs x hx
            · rw [tb2p.mp hx]; exact hBs i y hi (p5 B hB hBs y hb)
          · rw [Nat.testBit_or, Bool.or_eq_true]
            by_cases e1 : x = y
            · right; rw [e1]; exact tb2p.mpr rfl
            · left; exact p6 x (by omega) hs2)
  rw [nI_0] at this
  exact this
theorem orbitOf17 {s : Nat} {v3 : Int32} (hO : OKm n m mv st) (h43 : I 43 2 = nI n) (hN : Nw I m mv st) (hs : s < 2 ^ n) (k0 : Int32 → Option Int32) : ∃ s', f_X8_orbitOf_17 v3 I L k0 FU (nI s) 0 = k0 (nI s') ∧ StO n m mv s s' := by
  have hm := hO.2.1
  have := loop0 (fun fu z => f_X8_orbitOf_17 v3 I L k0 fu z.1 z.2)
    (fun i z => i ≤ m ∧ z.2 = nI i ∧ ∃ t, z.1 = nI t ∧ t < 2 ^ n ∧ (∀ x, s.testBit x = true → t.testBit x = true) ∧ (∀ B : Nat → Prop, (∀ x, s.testBit x = true → B x) → (∀ j y, j < m → B y → B (mv j y)) → ∀ x, t.testBit x = true → B x) ∧ (∀ j x, j < i → s.testBit x = true → t.testBit (mv j x) = true))
    (fun o => ∃ s', o = k0 (nI s') ∧ StO n m mv s s') m (by omega) (nI s, nI 0) ⟨Nat.zero_le _, rfl, s, rfl, hs, fun _ h => h, fun B hB _ x hx => hB x hx, fun j x hj => by omega⟩
    (fun fu i z hi hP => by
      obtain ⟨z1, z2⟩ := z
      obtain ⟨_, p1, t, p2, p3, p4, p5, p6⟩ := hP
      dsimp only at p1 p2 ⊢
      subst p1 p2
      rw [f_X8_orbitOf_17, ob (moves_eq hN), ifc (q_le (by omega) (by omega))]
      by_cases c1 : m ≤ i
      · left
        rw [if_pos c1]
        exact ⟨t, rfl, p3, p4, p5, fun j x hj => p6 j x (by omega)⟩
      · right
        refine ⟨by omega, ?_⟩
        generalize hk0 : (fun (v2_17 : Int32) => bnd (nI i + 1 : Int32) (fun v4_18 => f_X8_orbitOf_17 v3 I L k0 fu v2_17 v4_18)) = k1
        obtain ⟨u, u1, u2, u3, u4, u5⟩ := orbitOf29 (L := L) (v3 := v3) hO h43 hN (show i < m by omega) p3 k1
        rw [if_neg c1, u1, ← hk0]
        dsimp only
        rw [bnd_eq, nI_1]
        refine ⟨(nI u, nI (i + 1)), rfl, by omega, rfl, u, rfl, u2, fun x hx => u3 x (p4 x hx), fun B hB hBs x hx => u4 B (fun y hy => p5 B hB hBs y hy) hBs x hx, fun j x hj hx => ?_⟩
        by_cases e1 : j = i
        · subst e1; exact u5 x (p4 x hx)
        · exact u3 _ (p6 j x (by omega) hx))
  rw [nI_0] at this
  exact this
theorem orbitOf_eq {pt : Nat} (hO : OKm n m mv st) (h43 : I 43 2 = nI n) (hN : Nw I m mv st) (hp : pt < n) : ∃ s, f_X8_orbitOf (nI pt) I L = some (nI s) ∧ Rp2 n s (Ob m mv pt) := by
  have hn := hO.1
  unfold f_X8_orbitOf
  rw [bnd_eq, q_shl1 (by omega)]
  have h2p : 2 ^ pt < 2 ^ n := Nat.pow_lt_pow_right (by decide) hp
  have := loop0 (fun fu z => f_X8_orbitOf_6 I L fu z.1 z.2)
    (fun r z => r ≤ n ∧ z.2 = nI r ∧ ∃ s, z.1 = nI s ∧ s < 2 ^ n ∧ s.testBit pt = true ∧ (∀ x, s.testBit x = true → Ob m mv pt x) ∧ (Rp2 n s (Ob m mv pt) ∨ r + 1 ≤ cnS n s))
    (fun o => ∃ s, o = some (nI s) ∧ Rp2 n s (Ob m mv pt)) n (by omega) (nI (2 ^ pt), nI 0) ⟨Nat.zero_le _, rfl, 2 ^ pt, rfl, h2p, tb2p.mpr rfl, fun x hx => by rw [tb2p.mp hx]; exact Ob_0, Or.inr (by
      have := cT_lt (fun x => (2 ^ pt).testBit x) hp (tb2p.mpr rfl)
      unfold cnS
      omega)⟩
    (fun fu r z hr hP => by
      obtain ⟨z1, z2⟩ := z
      obtain ⟨_, p1, s, p2, p4, p6, p7, p8⟩ := hP
      dsimp only at p1 p2 ⊢
      subst p1 p2
      rw [f_X8_orbitOf_6, h43, ifc (q_le (by omega) (by omega))]
      have hcn : cnS n s ≤ n := cT_le _ _
      by_cases c1 : n ≤ r
      · left
        rw [if_pos c1]
        rcases p8 with g | g
        · exact ⟨s, rfl, g⟩
        · omega
      · right
        refine ⟨by omega, ?_⟩
        generalize hk0 : (fun (v2_19 : Int32) => bnd (nI r + 1 : Int32) (fun v3_20 => f_X8_orbitOf_6 I L fu v2_19 v3_20)) = k1
        obtain ⟨s', j1, j2⟩ := orbitOf17 (L := L) (v3 := nI r) hO h43 hN p4 k1
        rw [if_neg c1, j1, ← hk0]
        dsimp only
        rw [bnd_eq, nI_1]
        have hle := StO_le j2 p7
        refine ⟨(nI s', nI (r + 1)), rfl, by omega, rfl, s', rfl, j2.1, j2.2.1 pt p6, hle, ?_⟩
        rcases p8 with g | g
        · left
          have : s' = s := Nat.eq_of_testBit_eq (fun x => by
            rw [Bool.eq_iff_iff]
            exact ⟨fun hx => (g.2 x).mpr (hle x hx), fun hx => j2.2.1 x hx⟩)
          rw [this]; exact g
        · by_cases c3 : s' = s
          · left; subst c3; exact StO_fix p4 j2 p6 p7
          · right
            have := cnS_lt j2.1 j2.2.1 (fun e => c3 e.symm)
            omega)
  rw [nI_0] at this
  exact this
theorem PR_12h : PR_12 Inv := by
  intro I L rm a ⟨n, m, mv, st, h⟩
  obtain ⟨hO, hC, hR, hP, hT, hU, hF, hS⟩ := id h
  have hn := hO.1
  cases hb : rB a n
  · refine ⟨-1, up2 I 0 6 2, L, ?_, is8 (up2 I 0 6 2) 2, L, ?_, IV_q h (Q8_is (a := 2)) (RDY_is (RDY_s hR)) is8_0⟩
    · simp (config := { decide := true }) only [f_X7_orbit, hasPoint_eq hC.1 hn a, hb, obs, bnd_eq, is_0, is_1, is_2, is_3, is_4, is_5, is_6, is_9, tell_eq, refuse_eq, refuse8_eq, b2i_1, b2i_0, if_true, if_false, ↓reduceIte]
    · simp (config := { decide := true }) only [f_X8_orbit, isPoint_eq (RDY_s (s := 2) hR).1 hn a, hb, obs, bnd_eq, is_0, is_1, is_2, is_3, is_4, is_5, is_6, is_9, tell_eq, refuse_eq, refuse8_eq, b2i_1, b2i_0, if_true, if_false, ↓reduceIte]
  · obtain ⟨j, hj, rfl⟩ := rB_t hb
    have hR2 := RDY_is (a := 0) (RDY_s (s := 0) hR)
    obtain ⟨s, s1, s2⟩ := reachedFrom_eq hO hC hj
    obtain ⟨s', s3, s4⟩ := orbitOf_eq (L := L) hO hR2.1 hR2.2.1 hj
    rw [← Rp2_un s2 s4] at s3
    refine ⟨nI s, up2 I 0 6 0, L, ?_, is8 (up2 I 0 6 0) 0, L, ?_, IV_q h (Q8_is (a := 0)) hR2 is8_0⟩
    · simp (config := { decide := true }) only [f_X7_orbit, hasPoint_eq hC.1 hn, hb, s1, obs, bnd_eq, is_0, is_1, is_2, is_3, is_4, is_5, is_6, is_9, tell_eq, refuse_eq, refuse8_eq, b2i_1, b2i_0, if_true, if_false, ↓reduceIte]
    · simp (config := { decide := true }) only [f_X8_orbit, isPoint_eq (RDY_s (s := 0) hR).1 hn, hb, s3, obs, bnd_eq, is_0, is_1, is_2, is_3, is_4, is_5, is_6, is_9, tell_eq, refuse_eq, refuse8_eq, b2i_1, b2i_0, if_true, if_false, ↓reduceIte]
theorem countOrbits_eq (hO : OKm n m mv st) (hC : CI I L rm n m mv st) {B : Nat → Bool} (hB : ∀ x, x < n → (B x = true ↔ ∀ y, y < x → ¬ Ob m mv y x)) : f_X2_countOrbits I L = some (nI (cT B n)) := by
  have hn := hO.1
  have h10 : 2 ^ n ≤ 2 ^ 10 := Nat.pow_le_pow_right (by decide) hn
  unfold f_X2_countOrbits
  have := loop0 (fun fu z => f_X2_countOrbits_6 I L fu z.1 z.2.1 z.2.2)
    (fun i z => i ≤ n ∧ z.2.2 = nI i ∧ z.1 = nI (cT B i) ∧ ∃ s, z.2.1 = nI s ∧ Rp2 n s (fun x => ∃ j, j < i ∧ Ob m mv j x))
    (fun o => o = some (nI (cT B n))) n (by omega) (nI 0, nI 0, nI 0) ⟨Nat.zero_le _, rfl, rfl, 0, rfl, Nat.two_pow_pos n, fun x => by rw [Nat.zero_testBit]; exact ⟨(fun h => by cases h), fun ⟨j, hj, _⟩ => by omega⟩⟩
    (fun fu i z hi hP => by
      obtain ⟨z1, z2, z3⟩ := z
      obtain ⟨_, p1, p2, s, p3, p4⟩ := hP
      dsimp only at p1 p2 p3 ⊢
      subst p1 p2 p3
      rw [f_X2_countOrbits_6, hC.1, ifc (q_le (by omega) (by omega))]
      by_cases c1 : n ≤ i
      · left
        rw [if_pos c1, show i = n by omega]
      · right
        refine ⟨by omega, ?_⟩
        rw [if_neg c1, ifc (q_bit0 (by have := p4.1; omega) (by omega))]
        cases hb : s.testBit i
        · have hBi : B i = true := (hB i (by omega)).mpr (fun y hy hy2 => by rw [(p4.2 i).mpr ⟨y, hy, hy2⟩] at hb; cases hb)
          obtain ⟨u, u1, u2⟩ := reachedFrom_eq hO hC (show i < n by omega)
          rw [if_pos rfl, ob u1, bnd_eq, q_or, bnd_eq, nI_1, bnd_eq, nI_1]
          refine ⟨(nI (cT B i + 1), nI (s ||| u), nI (i + 1)), rfl, by omega, rfl, by rw [cT_t hBi], _, rfl, Nat.or_lt_two_pow p4.1 u2.1, fun x => ?_⟩
          rw [Nat.testBit_or, Bool.or_eq_true, p4.2 x, u2.2 x]
          constructor
          · intro g
            rcases g with ⟨j, hj, g⟩ | g
            · exact ⟨j, by omega, g⟩
            · exact ⟨i, by omega, g⟩
          · intro ⟨j, hj, g⟩
            by_cases e1 : j = i
            · right; rw [← e1]; exact g
            · left; exact ⟨j, by omega, g⟩
        · obtain ⟨y, hy, hy2⟩ := (p4.2 i).mp hb
          have hBi : B i = false := by
            cases hBi : B i
            · rfl
            · exact absurd hy2 ((hB i (by omega)).mp hBi y hy)
          rw [if_neg (by decide), bnd_eq, nI_1]
          refine ⟨(nI (cT B i), nI s, nI (i + 1)), rfl, by omega, rfl, by rw [cT_f hBi], s, rfl, p4.1, fun x => (p4.2 x).trans ⟨fun ⟨j, hj, g⟩ => ⟨j, by omega, g⟩, fun ⟨j, hj, g⟩ => ?_⟩⟩
          by_cases e1 : j = i
          · subst e1; exact ⟨y, hy, Ob_tr hy2 g⟩
          · exact ⟨j, by omega, g⟩)
  rw [nI_0] at this
  exact this
theorem orbits18_eq (hO : OKm n m mv st) (h43 : I 43 2 = nI n) (hN : Nw I m mv st) {B : Nat → Bool} (hB : ∀ x, x < n → (B x = true ↔ ∀ y, y < x → ¬ Ob m mv y x)) : f_X8_orbits_18 I L FU 0 0 = some (nI (cT B n), I, L) := by
  have hn := hO.1
  have h10 : 2 ^ n ≤ 2 ^ 10 := Nat.pow_le_pow_right (by decide) hn
  have := for0 (fun fu z => f_X8_orbits_18 I L fu z.1 z.2) (fun i => (nI (cT B i), nI i)) n (some (nI (cT B n), I, L)) (by omega)
    (fun fu => by
      dsimp only
      rw [f_X8_orbits_18, h43, if_pos (by rw [q_le (by omega) (by omega)]; omega)])
    (fun fu i hi => by
      dsimp only
      obtain ⟨s, s1, s2⟩ := orbitOf_eq (L := L) hO h43 hN hi
      have hp2 := Nat.two_pow_pos i
      have hp3 : 2 ^ i < 2 ^ n := Nat.pow_lt_pow_right (by decide) hi
      have hand : s &&& (2 ^ i - 1) = s % 2 ^ i := Nat.and_two_pow_sub_one_eq_mod s i
      have hz : s % 2 ^ i = 0 ↔ B i = true := by
        rw [hB i hi]
        constructor
        · intro hz y hy hob
          have h1 : s.testBit y = true := (s2.2 y).mpr (Ob_sym hn hO.2.2.1 hob)
          have h2 : (s % 2 ^ i).testBit y = true := by rw [Nat.testBit_mod_two_pow, decide_eq_true hy, h1]; rfl
          rw [hz, Nat.zero_testBit] at h2; cases h2
        · intro hno
          refine Nat.eq_of_testBit_eq (fun y => ?_)
          rw [Nat.zero_testBit, Nat.testBit_mod_two_pow]
          by_cases hy : y < i
          · cases hb : s.testBit y
            · rw [Bool.and_false]
            · exact absurd (Ob_sym hn hO.2.2.1 ((s2.2 y).mp hb)) (hno y hy)
          · rw [decide_eq_false hy]; rfl
      have hlt := Nat.mod_lt s hp2
      rw [f_X8_orbits_18, h43, if_neg (by rw [q_le (by omega) (by omega)]; omega), ob s1, q_shl1 (by omega), show (1 : Int32) = nI 1 from rfl, pk_sub hp2, q_and, hand]
      cases hBi : B i
      · have hne : s % 2 ^ i ≠ 0 := fun g => by rw [hz.mp g] at hBi; cases hBi
        rw [if_neg (nI_ne0 (by omega) (by omega)), bnd_eq, bnd_eq, show (0 : Int32) = nI 0 from rfl, nI_add, nI_add, cT_f hBi]
        rfl
      · rw [hz.mpr hBi, if_pos (show nI 0 = 0 from rfl), bnd_eq, bnd_eq, nI_add, nI_add, cT_t hBi])
  rw [nI_0] at this
  exact this
theorem PR_13h : PR_13 Inv := by
  intro I L rm ⟨n, m, mv, st, h⟩
  obtain ⟨hO, hC, hR, hP, hT, hU, hF, hS⟩ := id h
  have hn := hO.1
  by_cases h0 : n = 0
  · have e0 : nI n = 0 := by rw [h0]; rfl
    refine ⟨-1, up2 I 0 6 5, L, ?_, is8 (up2 I 0 6 5) 5, L, ?_, IV_q h (Q8_is (a := 5)) (RDY_is (RDY_s hR)) is8_0⟩
    · simp (config := { decide := true }) only [f_X7_orbits, hC.1, e0, obs, bnd_eq, is_0, is_1, is_2, is_3, is_4, is_5, is_6, is_9, tell_eq, refuse_eq, refuse8_eq, b2i_1, b2i_0, if_true, if_false, ↓reduceIte]
    · simp (config := { decide := true }) only [f_X8_orbits, whyHere_n (w := 0) (RDY_s (s := 5) hR).1 h0, obs, bnd_eq, is_0, is_1, is_2, is_3, is_4, is_5, is_6, is_9, tell_eq, refuse_eq, refuse8_eq, b2i_1, b2i_0, if_true, if_false, ↓reduceIte]
  · have e0 : ¬ nI n = 0 := nI_ne0 (by omega) (by omega)
    obtain ⟨B, hB⟩ := dec_ex (fun x => ∀ y, y < x → ¬ Ob m mv y x)
    have hR2 := RDY_is (a := 0) (RDY_s (s := 0) hR)
    refine ⟨nI (cT B n), up2 I 0 6 0, L, ?_, is8 (up2 I 0 6 0) 0, L, ?_, IV_q h (Q8_is (a := 0)) hR2 is8_0⟩
    · simp (config := { decide := true }) only [f_X7_orbits, hC.1, e0, countOrbits_eq hO hC (B := B) (fun x _ => hB x), obs, bnd_eq, is_0, is_1, is_2, is_3, is_4, is_5, is_6, is_9, tell_eq, refuse_eq, refuse8_eq, b2i_1, b2i_0, if_true, if_false, ↓reduceIte]
    · simp (config := { decide := true }) only [f_X8_orbits, whyHere_p (RDY_s (s := 0) hR).1 hn h0, orbits18_eq (L := L) hO hR2.1 hR2.2.1 (B := B) (fun x _ => hB x), obs, bnd_eq, is_0, is_1, is_2, is_3, is_4, is_5, is_6, is_9, tell_eq, refuse_eq, refuse8_eq, b2i_1, b2i_0, if_true, if_false, ↓reduceIte]
end OB
