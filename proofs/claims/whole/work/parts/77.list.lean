/-! Loops by an invariant -/
theorem loopQ {σ ρ : Type} (f : Nat → σ → Option ρ) (P : Nat → σ → Prop) (Q : Option ρ → Prop) (m : Nat) (h : ∀ fu i s, i ≤ m → P i s → Q (f (fu + 1) s) ∨ (i < m ∧ ∃ s', f (fu + 1) s = f fu s' ∧ P (i + 1) s')) : ∀ d i fu s, i + d = m → d < fu → P i s → Q (f fu s) := by
  intro d
  induction d with
  | zero =>
    intro i fu s h1 h2 hP
    obtain ⟨fu, rfl⟩ : ∃ m, fu = m + 1 := ⟨fu - 1, by omega⟩
    rcases h fu i s (by omega) hP with g | ⟨g, _⟩
    · exact g
    · omega
  | succ d ih =>
    intro i fu s h1 h2 hP
    obtain ⟨fu, rfl⟩ : ∃ m, fu = m + 1 := ⟨fu - 1, by omega⟩
    rcases h fu i s (by omega) hP with g | ⟨_, s', e, hP'⟩
    · exact g
    · rw [e]; exact ih (i + 1) fu s' (by omega) (by omega) hP'
theorem loop0 {σ ρ : Type} (f : Nat → σ → Option ρ) (P : Nat → σ → Prop) (Q : Option ρ → Prop) (m : Nat) (hm : m < 100000000) (s : σ) (h0 : P 0 s) (h : ∀ fu i s, i ≤ m → P i s → Q (f (fu + 1) s) ∨ (i < m ∧ ∃ s', f (fu + 1) s = f fu s' ∧ P (i + 1) s')) : Q (f FU s) :=
  loopQ f P Q m h m 0 FU s (by omega) (by unfold FU; omega) h0
/-! The class's roster: seeking -/
theorem q_cmple {a b : Nat} (ha : a < 2 ^ 63) (hb : b < 2 ^ 63) (hne : a ≠ b) : (0 ≤ lg_cmp (lN a) (lN b)) = (b < a) := by
  unfold lg_cmp
  by_cases h : b < a
  · rw [if_pos ((pk_lLT hb ha).mpr h)]
    exact (eq_true (by decide)).trans (eq_true h).symm
  · rw [if_neg (fun g => h ((pk_lLT hb ha).mp g)), if_neg (fun g => hne ((pk_lEQ ha hb).mp g))]
    exact (eq_false (by decide)).trans (eq_false h).symm
theorem nI_s1 (k : Nat) : nI k - 1 = nI k + (-1) := (Int32.sub_eq_add_neg (a := nI k) (b := 1)).trans rfl
theorem q_ushr1 {k : Nat} (h : k < 2 ^ 32) : ushr (nI k) 1 = nI (k / 2) := pk_ushrN h 1 1 (by decide)
theorem find_l {rm N z : Nat} {a : Nat → Nat} {I : MI} {L : ML} (hN : N ≤ rm) (hrm : rm ≤ 5040) (hL : ∀ x, x < N → L 72 x = lN (a x) ∧ a x < 2 ^ 63) (hz : z < 2 ^ 63) (hi : ∀ i j, i < j → j < N → a i < a j) : ∀ k fu lo hi it, it + k = 32 → k < fu → lo ≤ hi → hi ≤ N → hi - lo < 2 ^ k → (∀ x, x < lo → a x < z) → (∀ x, hi ≤ x → x < N → z < a x) → ∃ r, f_X4_find_13 rm (lN z) I L fu (nI lo) (nI hi + (-1)) (nI it) = some r ∧ ((∃ i, i < N ∧ a i = z ∧ r = nI i) ∨ ((∀ i, i < N → a i ≠ z) ∧ r = -1)) := by
  intro k
  induction k with
  | zero =>
    intro fu lo hi it h1 h2 h3 h4 h5 h6 h7
    obtain ⟨fu, rfl⟩ : ∃ m, fu = m + 1 := ⟨fu - 1, by omega⟩
    have e : hi = lo := by have : 2 ^ 0 = 1 := rfl; omega
    subst e
    rw [f_X4_find_13, show it = 32 by omega, if_pos (by decide)]
    refine ⟨-1, rfl, Or.inr ⟨fun i hi2 e => ?_, rfl⟩⟩
    by_cases g : i < hi
    · have := h6 i g; omega
    · have := h7 i (by omega) hi2; omega
  | succ k ih =>
    intro fu lo hi it h1 h2 h3 h4 h5 h6 h7
    obtain ⟨fu, rfl⟩ : ∃ m, fu = m + 1 := ⟨fu - 1, by omega⟩
    have hnf : hi = lo → ∀ i, i < N → a i ≠ z := fun e i hi2 e2 => by
      by_cases g : i < lo
      · have := h6 i g; omega
      · have := h7 i (by omega) hi2; omega
    rw [f_X4_find_13, if_neg (by rw [show (32 : Int32) = nI 32 from rfl, q_le (by decide) (by omega)]; omega)]
    rcases Nat.eq_zero_or_pos hi with h0 | h0
    · subst h0
      have e : lo = 0 := by omega
      subst e
      rw [nI_m1, if_pos (by decide)]
      exact ⟨-1, rfl, Or.inr ⟨hnf rfl, rfl⟩⟩
    · obtain ⟨h', rfl⟩ : ∃ m, hi = m + 1 := ⟨hi - 1, by omega⟩
      rw [pk_m1, ifc (q_lt (by omega) (by omega))]
      by_cases hlt : h' < lo
      · rw [if_pos hlt]
        exact ⟨-1, rfl, Or.inr ⟨hnf (by omega), rfl⟩⟩
      · have hp2 : 2 ^ (k + 1) = 2 * 2 ^ k := by rw [Nat.pow_succ, Nat.mul_comm]
        generalize hmid : (lo + h') / 2 = mid
        have hmN : mid < N := by omega
        obtain ⟨l1, l2⟩ := hL mid hmN
        rw [if_neg hlt, bnd_eq, nI_add, q_ushr1 (by omega), hmid, q_chk (by omega) (by omega), bnd_eq, q_ix (by omega), l1, ifc (q_cmp0 _ _), ifc (propext (pk_lEQ l2 hz))]
        by_cases he : a mid = z
        · rw [if_pos he]
          exact ⟨_, rfl, Or.inl ⟨mid, hmN, he, rfl⟩⟩
        · rw [if_neg he, ifc (q_cmple l2 hz he)]
          by_cases hgt : z < a mid
          · rw [if_pos hgt, bnd_eq, nI_s1, bnd_eq, nI_1]
            refine ih fu lo mid (it + 1) (by omega) (by omega) (by omega) (by omega) (by omega) h6 (fun x hx1 hx2 => ?_)
            rcases Nat.eq_or_lt_of_le hx1 with g | g
            · rw [← g]; exact hgt
            · have := hi mid x g hx2; omega
          · rw [if_neg hgt, bnd_eq, nI_1, bnd_eq, nI_1]
            have := ih fu (mid + 1) (h' + 1) (it + 1) (by omega) (by omega) (by omega) (by omega) (by omega) (fun x hx => by
              rcases Nat.lt_or_ge x mid with g | g
              · have := hi x mid g hmN; omega
              · have : x = mid := by omega
                rw [this]; omega) h7
            rw [pk_m1] at this
            exact this
/-- the list of the ones -/
def Lst (I : MI) (L : ML) (rm n N : Nat) (e : Nat → Nat → Nat) : Prop := I 69 0 = nI rm ∧ I 69 1 = nI N ∧ I 69 11 = nI n ∧ N ≤ rm ∧ rm ≤ 5040 ∧ ∀ x, x < N → L 72 x = tn n (e x)
theorem E40 {n : Nat} {p : Nat → Nat} (hn : n ≤ 10) (hp : IsP n p) : E 10 (cn n p) < 2 ^ 63 := Nat.lt_trans (E10_lt (cn_lt hn hp)) (by decide)
theorem find_eq {I : MI} {L : ML} {rm n N : Nat} {G : PS} {e : Nat → Nat → Nat} {p : Nat → Nat} (hn : n ≤ 10) (hG : Sub n G) (he : EL n G N e) (h : Lst I L rm n N e) (hp : IsP n p) : ∃ r, f_X4_find rm (tn n p) I L = some r ∧ ((∃ i, i < N ∧ e i = p ∧ r = nI i) ∨ (¬ G p ∧ r = -1)) := by
  obtain ⟨h0, h1, h2, h3, h4, h5⟩ := h
  unfold f_X4_find
  rw [bnd_eq, h1, nI_s1]
  obtain ⟨r, r1, r2⟩ := find_l (I := I) (L := L) (a := fun i => E 10 (cn n (e i))) (z := E 10 (cn n p)) h3 h4 (fun x hx => ⟨h5 x hx, E40 hn (EL_P hG he hx)⟩) (E40 hn hp) (fun i j hij hj => he.2.2 i j hij hj) 32 FU 0 N 0 (by omega) (by unfold FU; omega) (by omega) (Nat.le_refl N) (by have : 2 ^ 32 = 4294967296 := rfl; omega) (fun x hx => by omega) (fun x h1 h2 => by omega)
  rw [nI_0] at r1
  refine ⟨r, r1, r2.imp (fun ⟨i, i1, i2, i3⟩ => ⟨i, i1, (tn_inj hn (EL_P hG he i1) hp).mp (congrArg lN i2), i3⟩) (fun g => ⟨fun hGp => ?_, g.2⟩)⟩
  obtain ⟨i, i1, i2⟩ := he.2.1 p hGp
  exact g.1 i i1 (by show E 10 (cn n (e i)) = _; rw [i2])
theorem find_in {I : MI} {L : ML} {rm n N : Nat} {G : PS} {e : Nat → Nat → Nat} {i : Nat} (hn : n ≤ 10) (hG : Sub n G) (he : EL n G N e) (h : Lst I L rm n N e) (hi : i < N) : f_X4_find rm (tn n (e i)) I L = some (nI i) := by
  obtain ⟨r, r1, r2⟩ := find_eq hn hG he h (EL_P hG he hi)
  rcases r2 with ⟨j, j1, j2, j3⟩ | ⟨g, _⟩
  · rw [r1, j3, EL_inj he j1 hi j2]
  · exact absurd (he.1 i hi) g
/-! Listing all -/
section FI
variable {n N : Nat} {G : PS} {rb : Nat → Nat} {th : Nat → Nat → Nat → Nat} {e : Nat → Nat → Nat}
theorem widen43 {rm l x w s' : Nat} {m : Nat → Nat} {I : MI} {L : ML} (hn : n ≤ 10) (hG : Sub n G) (hC : ∀ Lc : ML, (∀ q, q ≠ 72 → Lc q = L q) → ChT I Lc 8 n rb th) (hT : TabG n G (RB (tbR rb)) th) (he : EL n G N e) (hl : l < n) (hw : w = cT (tbR rb l) n) (hs : s' = sz (tbR rb) n (n - (l + 1))) (h11 : I 69 11 = nI n) (h0 : I 69 0 = nI rm) (hrm : rm ≤ 5040) (hx : (x + 1) * w ≤ rm) (hxN : (x + 1) * w * s' ≤ N) (hmd : m = md th (e (x * w * s')) l) {v5 : Int32} (k0 : ML → Option Mm) :
    ∃ L', f_X4_widen_43 rm 8 (nI l) (nI (rb l)) (nI w) v5 (tn n m) (tn n (iv m)) I k0 FU (nI (x * w)) 0 L = k0 L' ∧ (∀ q, q ≠ 72 → L' q = L q) ∧ (∀ y, ¬ (x * w ≤ y ∧ y < x * w + w) → L' 72 y = L 72 y) ∧ (∀ c, c < w → L' 72 (x * w + c) = tn n (md th (e ((x * w + c) * s')) (l + 1))) := by
  have hR := hT.1
  have hsp := sz_pos hR (n - (l + 1)) (by omega)
  have hwp := w_pos hR hl
  rw [← hw] at hwp
  rw [← hs] at hsp
  have esz : sz (tbR rb) n (n - l) = w * s' := by
    rw [show n - l = n - (l + 1) + 1 by omega, hw, hs]
    show cT (tbR rb (n - (n - (l + 1) + 1))) n * _ = _
    rw [show n - (n - (l + 1) + 1) = l by omega]
  have e1 : (x + 1) * w * s' = x * w * s' + w * s' := by rw [Nat.add_mul, Nat.one_mul, Nat.add_mul]
  have e1' : (x + 1) * w = x * w + w := by rw [Nat.add_mul, Nat.one_mul]
  have hws : 0 < w * s' := Nat.mul_pos hwp hsp
  have hx0 : x * w * s' < N := by omega
  have hm : G m := by rw [hmd]; exact (md_ok hn hG hT (he.1 _ hx0) l (by omega)).1
  have hmP := hG.1 m hm
  have hv := IsP_iv hn hmP
  have key : ∀ c, c < w → md th (e ((x * w + c) * s')) l = m ∧ dg (tbR rb) m l (e ((x * w + c) * s') l) = c ∧ tbR rb l (iv m (e ((x * w + c) * s') l)) = true := fun c hc => by
    have hcs : c * s' + s' ≤ w * s' := by rw [← Nat.succ_mul]; exact Nat.mul_le_mul_right s' hc
    have := wid hn hG hT he (l := l) (x := x) (c := c) hl (hw ▸ hc) (by rw [esz, ← hs, ← Nat.mul_assoc]; omega) (by rw [esz, ← Nat.mul_assoc]; exact hx0)
    rw [esz, ← hs, ← Nat.mul_assoc, ← hmd, ← Nat.add_mul] at this
    exact this
  have hdw : ∀ i, i ≤ n → dg (tbR rb) m l i ≤ w := fun i hi => by
    have h1 : dg (tbR rb) m l i ≤ dg (tbR rb) m l n := cT_mono _ hi
    rw [dg_w hn hmP, ← hw] at h1
    exact h1
  have hw10 : w ≤ 10 := by rw [hw]; have := w_le hR hl; omega
  have := loop0 (fun fu s => f_X4_widen_43 rm 8 (nI l) (nI (rb l)) (nI w) v5 (tn n m) (tn n (iv m)) I k0 fu s.1 s.2.1 s.2.2)
    (fun i s => i ≤ n ∧ s.1 = nI (x * w + dg (tbR rb) m l i) ∧ s.2.1 = nI i ∧ (∀ q, q ≠ 72 → s.2.2 q = L q) ∧ (∀ y, ¬ (x * w ≤ y ∧ y < x * w + dg (tbR rb) m l i) → s.2.2 72 y = L 72 y) ∧ (∀ c, c < dg (tbR rb) m l i → s.2.2 72 (x * w + c) = tn n (md th (e ((x * w + c) * s')) (l + 1))))
    (fun o => ∃ L', o = k0 L' ∧ (∀ q, q ≠ 72 → L' q = L q) ∧ (∀ y, ¬ (x * w ≤ y ∧ y < x * w + w) → L' 72 y = L 72 y) ∧ (∀ c, c < w → L' 72 (x * w + c) = tn n (md th (e ((x * w + c) * s')) (l + 1)))) n (by omega) (nI (x * w), nI 0, L) ⟨Nat.zero_le _, rfl, rfl, fun _ _ => rfl, fun _ _ => rfl, fun c hc => absurd hc (Nat.not_lt_zero c)⟩
    (fun fu i s hi hP => by
      obtain ⟨s1, s2, s3⟩ := s
      obtain ⟨_, p1, p2, p3, p4, p5⟩ := hP
      dsimp only at p1 p2 p3 p4 p5 ⊢
      subst p1 p2
      have hdi := hdw i hi
      rw [f_X4_widen_43, h11, ifc (q_le (by omega) (by omega))]
      by_cases hin : n ≤ i
      · left
        have e3 : i = n := by omega
        subst e3
        rw [if_pos hin]
        have e4 : dg (tbR rb) m l i = w := by rw [dg_w hn hmP, hw]
        rw [e4] at p4 p5
        exact ⟨s3, rfl, p3, p4, p5⟩
      · rw [if_neg hin, h0, ifc (q_le (by omega) (by omega))]
        have hvi := hv.1 i (by omega)
        obtain ⟨c1, c2⟩ := (hC L (fun _ _ => rfl)).2.2.1 l hl
        by_cases hfull : rm ≤ x * w + dg (tbR rb) m l i
        · left
          have e4 : dg (tbR rb) m l i = w := by omega
          rw [if_pos hfull]
          rw [e4] at p4 p5
          exact ⟨s3, rfl, p3, p4, p5⟩
        · right
          refine ⟨by omega, ?_⟩
          rw [if_neg hfull, ob (tn_img hn hv (show i < n by omega)), ifc (q_bit0 (by omega) (by omega))]
          cases hb : (rb l).testBit (iv m i)
          · have e5 : dg (tbR rb) m l (i + 1) = dg (tbR rb) m l i := cT_f (P := fun y => tbR rb l (iv m y)) hb
            rw [if_pos rfl, bnd_eq, nI_1]
            refine ⟨(nI (x * w + dg (tbR rb) m l i), nI (i + 1), s3), rfl, by omega, ?_, rfl, p3, ?_, ?_⟩
            · show _ = nI (x * w + dg (tbR rb) m l (i + 1)); rw [e5]
            · rw [e5]; exact p4
            · rw [e5]; exact p5
          · have e5 : dg (tbR rb) m l (i + 1) = dg (tbR rb) m l i + 1 := cT_t (P := fun y => tbR rb l (iv m y)) hb
            have hd1 := hdw (i + 1) (by omega)
            have hcl : dg (tbR rb) m l i < w := by omega
            obtain ⟨k1, k2, k3⟩ := key _ hcl
            have e6 : e ((x * w + dg (tbR rb) m l i) * s') l = i := cT_inj (fun y => tbR rb l (iv m y)) k3 hb k2
            have hval : md th (e ((x * w + dg (tbR rb) m l i) * s')) (l + 1) = cp (th l (iv m i)) m := by
              show cp (th l (iv (md th (e ((x * w + dg (tbR rb) m l i) * s')) l) (e ((x * w + dg (tbR rb) m l i) * s') l))) (md th (e ((x * w + dg (tbR rb) m l i) * s')) l) = _
              rw [k1, e6]
            have hcar : f_X0_carrier 8 (nI l) (nI (iv m i)) I s3 = some (tn n (th l (iv m i))) := by
              unfold f_X0_carrier
              rw [ad_16, q_chk (by omega) (by decide), q_ix (by omega), ((hC s3 p3).2.2.2 l _ hl hb).1]
            rw [if_neg (by decide), ob hcar, ob (compose_eq hn ((hR l hl).2 _ hb).2.1 hmP), q_chk (by omega) (by omega), bnd_eq, q_ix (by omega), bnd_eq, nI_1, bnd_eq, nI_1]
            refine ⟨(nI (x * w + dg (tbR rb) m l i + 1), nI (i + 1), up2 s3 72 (x * w + dg (tbR rb) m l i) (tn n (cp (th l (iv m i)) m))), rfl, by omega, ?_, rfl, fun q hq => ?_, fun y hy => ?_, fun c hc => ?_⟩
            · show _ = nI (x * w + dg (tbR rb) m l (i + 1)); rw [e5]; rfl
            · show up2 s3 72 _ _ q = _
              rw [up2_ne hq]; exact p3 q hq
            · show up2 s3 72 _ _ 72 y = _
              unfold up2
              rw [e5] at hy
              rw [if_pos rfl, if_neg (by omega)]
              exact p4 y (by omega)
            · show up2 s3 72 _ _ 72 (x * w + c) = _
              unfold up2
              rw [e5] at hc
              rw [if_pos rfl]
              by_cases e7 : c = dg (tbR rb) m l i
              · rw [if_pos (by omega), e7, hval]
              · rw [if_neg (by omega)]
                exact p5 c (by omega))
  rw [nI_0] at this
  exact this
theorem widen_eq {rm l c w s' : Nat} {I : MI} {L : ML} (hn : n ≤ 10) (hG : Sub n G) (hC : ∀ Lc : ML, (∀ q, q ≠ 72 → Lc q = L q) → ChT I Lc 8 n rb th) (hT : TabG n G (RB (tbR rb)) th) (he : EL n G N e) (hl : l < n) (hw : w = cT (tbR rb l) n) (hs : s' = sz (tbR rb) n (n - (l + 1))) (h11 : I 69 11 = nI n) (h0 : I 69 0 = nI rm) (h1 : I 69 1 = nI c) (hrm : rm ≤ 5040) (hcr : c * w ≤ rm) (hcN : c * w * s' ≤ N) (hL : ∀ x, x < c → L 72 x = tn n (md th (e (x * w * s')) l)) :
    ∃ L', f_X4_widen rm 8 (nI l) (nI (rb l)) (nI w) I L = some (up2 I 69 1 (nI (c * w)), L') ∧ (∀ q, q ≠ 72 → L' q = L q) ∧ (∀ y, y < c * w → L' 72 y = tn n (md th (e (y * s')) (l + 1))) := by
  have hR := hT.1
  have hwp := w_pos hR hl
  rw [← hw] at hwp
  have hsp := sz_pos hR (n - (l + 1)) (by omega)
  rw [← hs] at hsp
  have hcc : c ≤ c * w := Nat.le_mul_of_pos_right c hwp
  unfold f_X4_widen
  rw [bnd_eq, h1, nI_s1]
  have := loop0 (fun fu s => f_X4_widen_8 rm 8 (nI l) (nI (rb l)) (nI w) I (fun (L_28 : ML) => bnd (up2 I 69 1 ((nI c) * nI w)) (fun I_29 => some (I_29, L_28))) fu s.1 s.2)
    (fun i s => i ≤ c ∧ s.1 = nI (c - i) + (-1) ∧ (∀ q, q ≠ 72 → s.2 q = L q) ∧ (∀ y, y < (c - i) * w → s.2 72 y = L 72 y) ∧ (∀ y, (c - i) * w ≤ y → y < c * w → s.2 72 y = tn n (md th (e (y * s')) (l + 1))))
    (fun o => ∃ L', o = some (up2 I 69 1 (nI (c * w)), L') ∧ (∀ q, q ≠ 72 → L' q = L q) ∧ (∀ y, y < c * w → L' 72 y = tn n (md th (e (y * s')) (l + 1)))) c (by omega) (nI c + (-1), L) ⟨Nat.zero_le _, rfl, fun _ _ => rfl, fun _ _ => rfl, fun y h1 h2 => by rw [Nat.sub_zero] at h1; omega⟩
    (fun fu i s hi hP => by
      obtain ⟨s1, s2⟩ := s
      obtain ⟨_, p1, p2, p3, p4⟩ := hP
      dsimp only at p1 p2 p3 p4 ⊢
      subst p1
      rw [f_X4_widen_8]
      by_cases hic : i = c
      · left
        subst hic
        rw [Nat.sub_self, nI_m1, if_pos (by decide), bnd_eq, pk_mul]
        rw [Nat.sub_self, Nat.zero_mul] at p4
        exact ⟨s2, rfl, p2, fun y hy => p4 y (Nat.zero_le _) hy⟩
      · right
        refine ⟨by omega, ?_⟩
        generalize hx : c - i - 1 = x
        have hci : c - i = x + 1 := by omega
        have hx1 : (x + 1) * w ≤ c * w := Nat.mul_le_mul_right w (by omega)
        have hx2 : (x + 1) * w * s' ≤ N := Nat.le_trans (Nat.mul_le_mul_right s' hx1) hcN
        have ex : (x + 1) * w = x * w + w := by rw [Nat.add_mul, Nat.one_mul]
        rw [hci] at p3 p4 ⊢
        rw [pk_m1, if_neg (nI_pos (by omega)), q_chk (by omega) (by omega), bnd_eq, q_ix (by omega), p3 x (by have := Nat.le_mul_of_pos_right x hwp; omega), hL x (by omega), h11]
        have hx0 : x * w * s' < N := by
          have : (x + 1) * w * s' = x * w * s' + w * s' := by rw [ex, Nat.add_mul]
          have := Nat.mul_pos hwp hsp
          omega
        have hmP := hG.1 _ (md_ok hn hG hT (he.1 _ hx0) l (by omega)).1
        rw [ob (invert_eq hn hmP), bnd_eq, show nI x * nI w = nI (x * w) from pk_mul x w]
        obtain ⟨L', j1, j2, j3, j4⟩ := widen43 (v5 := nI x) (L := s2) (I := I) hn hG (fun Lc hLc => hC Lc (fun q hq => (hLc q hq).trans (p2 q hq))) hT he hl hw hs h11 h0 hrm (Nat.le_trans hx1 hcr) hx2 rfl (fun (L_26 : ML) => bnd (nI x + (-1) : Int32) (fun v5_27 => f_X4_widen_8 rm 8 (nI l) (nI (rb l)) (nI w) I (fun (L_28 : ML) => bnd (up2 I 69 1 ((nI c) * nI w)) (fun I_29 => some (I_29, L_28))) fu v5_27 L_26))
        rw [j1, bnd_eq]
        refine ⟨(nI x + (-1), L'), rfl, by omega, ?_, fun q hq => (j2 q hq).trans (p2 q hq), fun y hy => ?_, fun y h1 h2 => ?_⟩
        · rfl
        · show L' 72 y = _
          rw [j3 y (by omega)]; exact p3 y (by omega)
        · show L' 72 y = _
          by_cases g : y < x * w + w
          · have := j4 (y - x * w) (by omega)
            rwa [show x * w + (y - x * w) = y by omega] at this
          · rw [j3 y (by omega)]; exact p4 y (by omega) h2)
  exact this
/-- the roster is filled -/
theorem fill_eq {rm : Nat} {I : MI} {L : ML} (hn : n ≤ 10) (hG : Sub n G) (hC : ChT I L 8 n rb th) (hT : TabG n G (RB (tbR rb)) th) (he : EL n G N e) (h0 : I 69 0 = nI rm) (hN : N ≤ rm) (hrm : rm ≤ 5040) : ∃ I' L', f_X4_fill rm 8 (nI n) I L = some (I', L') ∧ Lst I' L' rm n N e ∧ I' 69 13 = 0 ∧ I' 69 14 = 0 ∧ I' 69 15 = 0 ∧ (∀ q, q ≠ 69 → I' q = I q) ∧ (∀ q, q ≠ 72 → L' q = L q) := by
  have hR := hT.1
  obtain ⟨eN, er⟩ := EL_tab hn hG hT he
  have hNp := EL_pos hG he
  unfold f_X4_fill
  rw [bnd_eq, bnd_eq, bnd_eq, bnd_eq]
  have hI4 : up2 (up2 (up2 (up2 I 69 11 (nI n)) 69 13 0) 69 14 0) 69 15 0 69 11 = nI n := by simp [up2]
  rw [hI4, ob (identity_eq hn), show (0 : Int32) = nI 0 from rfl, q_chk (by omega) (by omega), bnd_eq, q_ix (by decide), bnd_eq]
  have hCC : ∀ (Ic : MI) (Lc : ML), (∀ q, q ≠ 69 → Ic q = I q) → (∀ q, q ≠ 72 → Lc q = L q) → ChT Ic Lc 8 n rb th := fun Ic Lc a b => by
    unfold ChT
    rw [a 8 (by decide), a 9 (by decide), b 8 (by decide), b 10 (by decide), b 11 (by decide)]
    exact hC
  have := loop0 (fun fu s => f_X4_fill_40 rm 8 fu s.1 s.2.1 s.2.2)
    (fun l s => l ≤ n ∧ s.1 = nI l ∧ (∃ c, s.2.1 69 1 = nI c ∧ c * sz (tbR rb) n (n - l) = N ∧ ∀ x, x < c → s.2.2 72 x = tn n (md th (e (x * sz (tbR rb) n (n - l))) l)) ∧ s.2.1 69 0 = nI rm ∧ s.2.1 69 11 = nI n ∧ s.2.1 69 13 = 0 ∧ s.2.1 69 14 = 0 ∧ s.2.1 69 15 = 0 ∧ (∀ q, q ≠ 69 → s.2.1 q = I q) ∧ (∀ q, q ≠ 72 → s.2.2 q = L q))
    (fun o => ∃ I' L', o = some (I', L') ∧ Lst I' L' rm n N e ∧ I' 69 13 = 0 ∧ I' 69 14 = 0 ∧ I' 69 15 = 0 ∧ (∀ q, q ≠ 69 → I' q = I q) ∧ (∀ q, q ≠ 72 → L' q = L q)) n (by omega)
    (nI 0, up2 (up2 (up2 (up2 (up2 I 69 11 (nI n)) 69 13 0) 69 14 0) 69 15 0) 69 1 1, up2 L 72 0 (tn n idp))
    ⟨Nat.zero_le _, rfl, ⟨1, by simp [up2]; rfl, by rw [Nat.one_mul, Nat.sub_zero]; exact eN.symm, fun x hx => by
      have : x = 0 := by omega
      subst this
      show up2 L 72 0 (tn n idp) 72 0 = tn n idp
      simp [up2]⟩, by simp [up2]; exact h0, by simp [up2], by simp [up2], by simp [up2], by simp [up2], fun q hq => by
        show up2 _ 69 1 1 q = _
        rw [up2_ne hq, up2_ne hq, up2_ne hq, up2_ne hq, up2_ne hq], fun q hq => up2_ne hq⟩
    (fun fu l s hl hP => by
      obtain ⟨s1, Ic, Lc⟩ := s
      obtain ⟨_, p1, ⟨c, c1, c2, c3⟩, p2, p3, p4, p5, p6, p7, p8⟩ := hP
      dsimp only at p1 c1 c3 p2 p3 p4 p5 p6 p7 p8 ⊢
      subst p1
      rw [f_X4_fill_40, p3, ifc (q_le (by omega) (by omega))]
      by_cases hin : n ≤ l
      · left
        have e3 : l = n := by omega
        subst e3
        rw [if_pos hin]
        rw [Nat.sub_self] at c2 c3
        have c2 : c * 1 = N := c2
        rw [Nat.mul_one] at c2
        subst c2
        exact ⟨Ic, Lc, rfl, ⟨p2, c1, p3, hN, hrm, fun x hx => by
          have := c3 x hx
          have e9 : x * sz (tbR rb) l 0 = x := Nat.mul_one x
          rw [e9, md_n hn hG hT (he.1 x hx)] at this
          exact this⟩, p4, p5, p6, p7, p8⟩
      · right
        have hln : l < n := by omega
        refine ⟨hln, ?_⟩
        have hCc := hCC Ic Lc p7 p8
        obtain ⟨d1, d2⟩ := hCc.2.2.1 l hln
        have hwp := w_pos hR hln
        have hw10 := w_le hR hln
        have hsp := sz_pos hR (n - (l + 1)) (by omega)
        have esz : sz (tbR rb) n (n - l) = cT (tbR rb l) n * sz (tbR rb) n (n - (l + 1)) := by
          rw [show n - l = n - (l + 1) + 1 by omega]
          show cT (tbR rb (n - (n - (l + 1) + 1))) n * _ = _
          rw [show n - (n - (l + 1) + 1) = l by omega]
        have c2' : c * cT (tbR rb l) n * sz (tbR rb) n (n - (l + 1)) = N := by rw [Nat.mul_assoc, ← esz]; exact c2
        have hcw : c * cT (tbR rb l) n ≤ N := by rw [← c2']; exact Nat.le_mul_of_pos_right _ hsp
        have hcc : c ≤ c * cT (tbR rb l) n := Nat.le_mul_of_pos_right c hwp
        rw [if_neg hin, ob (reachedAt_eq hn hCc hln), ob (bitCount_R hn hln d2 hR), show (1 : Int32) = nI 1 from rfl, ifc (q_le (by omega) (by decide))]
        by_cases hw1 : cT (tbR rb l) n ≤ 1
        · have hw1' : cT (tbR rb l) n = 1 := by omega
          rw [hw1', Nat.one_mul] at esz
          rw [if_pos hw1, bnd_eq, show nI l + nI 1 = nI (l + 1) from nI_1 l]
          refine ⟨(nI (l + 1), Ic, Lc), rfl, by omega, rfl, ⟨c, c1, by rw [← esz]; exact c2, fun x hx => ?_⟩, p2, p3, p4, p5, p6, p7, p8⟩
          show Lc 72 x = _
          rw [c3 x hx, ← esz]
          have hxN : x * sz (tbR rb) n (n - l) < N := by
            rw [← c2]; exact Nat.mul_lt_mul_of_pos_right hx (sz_pos hR (n - l) (by omega))
          have hp := he.1 _ hxN
          have hr := md_R hn hG hT hp hln
          obtain ⟨m1, m2⟩ := md_ok hn hG hT hp l (by omega)
          have hge := TabOK_ge hR hln (show RB (tbR rb) l _ from hr)
          have hj : iv (md th (e (x * sz (tbR rb) n (n - l))) l) (e (x * sz (tbR rb) n (n - l)) l) = l := by
            refine Classical.byContradiction fun hne => ?_
            have a1 := cT_lt (tbR rb l) (i := l) (j := iv (md th (e (x * sz (tbR rb) n (n - l))) l) (e (x * sz (tbR rb) n (n - l)) l)) (by omega) (hR l hln).1.1
            have a2 := cT_lt (tbR rb l) ((IsP_iv hn (hG.1 _ m1)).1 _ ((hG.1 _ hp).1 l hln)) hr
            omega
          have : md th (e (x * sz (tbR rb) n (n - l))) (l + 1) = md th (e (x * sz (tbR rb) n (n - l))) l := by
            show cp (th l (iv (md th (e (x * sz (tbR rb) n (n - l))) l) (e (x * sz (tbR rb) n (n - l)) l))) (md th (e (x * sz (tbR rb) n (n - l))) l) = _
            rw [hj, (hR l hln).1.2, id_cp]
          rw [this]
        · rw [if_neg hw1, p2, c1, pk_mul, if_neg (by rw [q_lt (by omega) (by omega)]; omega)]
          obtain ⟨L', j1, j2, j3⟩ := widen_eq (I := Ic) (L := Lc) (c := c) hn hG (fun Lc' h' => hCC Ic Lc' p7 (fun q hq => (h' q hq).trans (p8 q hq))) hT he hln rfl rfl p3 p2 c1 hrm (by omega) (by omega) (fun x hx => by
            rw [c3 x hx, esz, ← Nat.mul_assoc])
          rw [ob j1, bnd_eq, show nI l + nI 1 = nI (l + 1) from nI_1 l]
          refine ⟨(nI (l + 1), up2 Ic 69 1 (nI (c * cT (tbR rb l) n)), L'), rfl, by omega, rfl, ⟨c * cT (tbR rb l) n, by simp [up2], c2', j3⟩, ?_, ?_, ?_, ?_, ?_, fun q hq => ?_, fun q hq => (j2 q hq).trans (p8 q hq)⟩
          · show up2 Ic 69 1 (nI (c * cT (tbR rb l) n)) 69 0 = _; simp [up2]; exact p2
          · show up2 Ic 69 1 (nI (c * cT (tbR rb l) n)) 69 11 = _; simp [up2]; exact p3
          · show up2 Ic 69 1 (nI (c * cT (tbR rb l) n)) 69 13 = _; simp [up2]; exact p4
          · show up2 Ic 69 1 (nI (c * cT (tbR rb l) n)) 69 14 = _; simp [up2]; exact p5
          · show up2 Ic 69 1 (nI (c * cT (tbR rb l) n)) 69 15 = _; simp [up2]; exact p6
          · show up2 Ic 69 1 (nI (c * cT (tbR rb l) n)) q = _
            rw [up2_ne hq]; exact p7 q hq)
  exact this
end FI
