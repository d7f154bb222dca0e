/-! Sets of small numbers as bits -/
def oS (P : Nat → Bool) : Nat → Nat
  | 0 => 0
  | i + 1 => oS P i ||| (if P i = true then 2 ^ i else 0)
theorem oS_lt (P : Nat → Bool) : ∀ n, oS P n < 2 ^ n := by
  intro n
  induction n with
  | zero => exact Nat.one_pos
  | succ n ih =>
    refine Nat.or_lt_two_pow (Nat.lt_trans ih (Nat.pow_lt_pow_right (by decide) (by omega))) ?_
    split
    · exact Nat.pow_lt_pow_right (by decide) (by omega)
    · exact Nat.two_pow_pos _
theorem oS_tb (P : Nat → Bool) (j : Nat) : ∀ n, (oS P n).testBit j = (decide (j < n) && P j) := by
  intro n
  induction n with
  | zero => show (0 : Nat).testBit j = _; rw [Nat.zero_testBit, decide_eq_false (by omega)]; rfl
  | succ n ih =>
    show (oS P n ||| (if P n = true then 2 ^ n else 0)).testBit j = _
    rw [Nat.testBit_or, ih]
    by_cases e : j = n
    · subst e
      cases hP : P j
      · simp
      · simp
    · have h1 : (if P n = true then 2 ^ n else 0).testBit j = false := by
        split
        · rw [Nat.testBit_two_pow, decide_eq_false (fun g => e g.symm)]
        · exact Nat.zero_testBit j
      rw [h1, Bool.or_false]
      by_cases h : j < n
      · rw [decide_eq_true h, decide_eq_true (show j < n + 1 by omega)]
      · rw [decide_eq_false h, decide_eq_false (show ¬ j < n + 1 by omega)]
theorem oS_eq {P : Nat → Bool} {n s : Nat} (h : ∀ j, s.testBit j = (decide (j < n) && P j)) : oS P n = s := Nat.eq_of_testBit_eq (fun j => by rw [oS_tb, h])
theorem oS_ext {P Q : Nat → Bool} {n : Nat} (h : ∀ j, j < n → P j = Q j) : oS P n = oS Q n := oS_eq (fun j => by
  rw [oS_tb]
  by_cases hj : j < n
  · rw [h j hj]
  · rw [decide_eq_false hj]; rfl)
theorem oS_t {P : Nat → Bool} {i : Nat} (h : P i = true) : oS P (i + 1) = oS P i ||| 2 ^ i := by show oS P i ||| (if P i = true then 2 ^ i else 0) = _; rw [if_pos h]
theorem oS_f {P : Nat → Bool} {i : Nat} (h : P i = false) : oS P (i + 1) = oS P i := by show oS P i ||| (if P i = true then 2 ^ i else 0) = _; rw [if_neg (by rw [h]; decide), Nat.or_zero]
theorem cT_t {P : Nat → Bool} {i : Nat} (h : P i = true) : cT P (i + 1) = cT P i + 1 := by show cT P i + (P i).toNat = _; rw [h]; rfl
theorem cT_f {P : Nat → Bool} {i : Nat} (h : P i = false) : cT P (i + 1) = cT P i := by show cT P i + (P i).toNat = _; rw [h]; rfl
/-! The class's chain: places and ones -/
theorem ChG_tab {I : MI} {L : ML} {cb n : Nat} {G : PS} (hn : n ≤ 10) (h : ChG I L cb n G) : ∃ rb th, ChT I L cb n rb th ∧ TabG n G (RB (tbR rb)) th ∧ Sub n G := by
  obtain ⟨rb, th, mc, mk, tr, hS, hC, e⟩ := h
  have hm0 := GI_SM hn hS.2.2 hC (Nat.zero_le n) 0 (Nat.le_refl _) (Nat.zero_le n)
  rw [show n - 0 = n from rfl] at hm0
  subst e
  exact ⟨rb, th, hS.1, TabG_of hn hS.2.2.1 hm0, Gen_Sub hn (fun a ha => (SK_P hS.2.2 (k := 0) a ha).1)⟩
section CP
variable {I : MI} {L : ML} {cb n N : Nat} {rb : Nat → Nat} {th : Nat → Nat → Nat → Nat} {G : PS} {e : Nat → Nat → Nat}
theorem sourceOf_eq (hn : n ≤ 10) (hC : ChT I L cb n rb th) {m : Nat → Nat} (hm : IsP n m) {l i : Nat} (hl : l < n) (hi : i < n) (hR : tbR rb l (iv m i) = true) : f_X0_sourceOf cb (nI l) (tn n m) (nI (dg (tbR rb) m l i)) I L = some (nI (iv m i)) := by
  unfold f_X0_sourceOf
  rw [hC.1, ob (invert_eq hn hm)]
  have hv := IsP_iv hn hm
  obtain ⟨c1, c2⟩ := hC.2.2.1 l hl
  have hb : ∀ x, dg (tbR rb) m l x ≤ x := fun x => cT_le _ _
  have hbi := hb i
  exact for0 (fun fu s => f_X0_sourceOf_16 cb (nI l) (nI (dg (tbR rb) m l i)) (tn n (iv m)) I L fu s.1 s.2) (fun x => (nI (dg (tbR rb) m l x), nI x)) i _ (by omega)
    (fun fu => by
      dsimp only
      have := hv.1 i hi
      rw [f_X0_sourceOf_16, hC.1, if_neg (by rw [q_le (by omega) (by omega)]; omega), ob (tn_img hn hv hi), q_chk (by omega) (by decide), q_ix (by omega), c1, ifc (q_bit0 (by omega) (by omega)), if_neg (by rw [show (rb l).testBit (iv m i) = true from hR]; decide), if_pos rfl])
    (fun fu x hx => by
      dsimp only
      have h1 := hv.1 x (by omega)
      have hbx := hb x
      rw [f_X0_sourceOf_16, hC.1, if_neg (by rw [q_le (by omega) (by omega)]; omega), ob (tn_img hn hv (show x < n by omega)), q_chk (by omega) (by decide), q_ix (by omega), c1, ifc (q_bit0 (by omega) (by omega))]
      cases hbt : (rb l).testBit (iv m x)
      · rw [if_pos rfl, bnd_eq, nI_1, show dg (tbR rb) m l (x + 1) = dg (tbR rb) m l x from cT_f (P := fun y => tbR rb l (iv m y)) hbt]
      · have hlt : dg (tbR rb) m l x < dg (tbR rb) m l i := cT_lt (fun y => tbR rb l (iv m y)) hx hbt
        rw [if_neg (by decide), if_neg (by rw [q_eq (by omega) (by omega)]; omega), bnd_eq, nI_1, bnd_eq, nI_1, show dg (tbR rb) m l (x + 1) = dg (tbR rb) m l x + 1 from cT_t (P := fun y => tbR rb l (iv m y)) hbt])
theorem countSources_eq (hn : n ≤ 10) (hC : ChT I L cb n rb th) {m : Nat → Nat} (hm : IsP n m) {l i : Nat} (hl : l < n) (hi : i ≤ n) : f_X0_countSources cb (nI l) (tn n (iv m)) (nI i) I L = some (nI (dg (tbR rb) m l i)) := by
  unfold f_X0_countSources
  have hv := IsP_iv hn hm
  obtain ⟨c1, c2⟩ := hC.2.2.1 l hl
  exact for0 (fun fu s => f_X0_countSources_6 cb (nI l) (tn n (iv m)) (nI i) I L fu s.1 s.2) (fun x => (nI (dg (tbR rb) m l x), nI x)) i _ (by omega)
    (fun fu => by
      dsimp only
      rw [f_X0_countSources_6, if_pos (by rw [q_le (by omega) (by omega)]; omega)])
    (fun fu x hx => by
      dsimp only
      have h1 := hv.1 x (by omega)
      rw [f_X0_countSources_6, if_neg (by rw [q_le (by omega) (by omega)]; omega), q_chk (by omega) (by decide), ob (tn_img hn hv (show x < n by omega)), q_ix (by omega), c1, q_bit (by omega) (by omega), bnd_eq, nI_add, bnd_eq, nI_1]
      rfl)
theorem pick_l (hn : n ≤ 10) (hG : Sub n G) (hC : ChT I L cb n rb th) (h : TabG n G (RB (tbR rb)) th) : ∀ d fu m r, d ≤ n → d < fu → G m → r < sz (tbR rb) n d → ∃ p, f_X0_pick_11 cb I L fu (tn n m) (nI r) (nI (n - d)) = some (tn n p) ∧ G p ∧ (∀ t, t < n - d → p t = m t) ∧ rkF n (tbR rb) th p d = r := by
  intro d
  induction d with
  | zero =>
    intro fu m r _ h2 hm hr
    obtain ⟨fu, rfl⟩ : ∃ m, fu = m + 1 := ⟨fu - 1, by omega⟩
    rw [f_X0_pick_11, hC.1, if_pos (by rw [q_le (by omega) (by omega)]; omega)]
    exact ⟨m, rfl, hm, fun _ _ => rfl, by have : r < 1 := hr; show 0 = r; omega⟩
  | succ d ih =>
    intro fu m r hd h2 hm hr
    obtain ⟨fu, rfl⟩ : ∃ m, fu = m + 1 := ⟨fu - 1, by omega⟩
    have hmP := hG.1 m hm
    generalize hk : n - (d + 1) = k at *
    have hkn : k < n := by omega
    have hdk : n - d = k + 1 := by omega
    have hsz := sz_lt hn h.1 (d := d) (by omega)
    have hsz1 := sz_lt hn h.1 (d := d + 1) (by omega)
    have hsp := sz_pos h.1 d (by omega)
    obtain ⟨c1, c2⟩ := hC.2.2.1 k hkn
    have esz := sizeFrom_eq hn hC h.1 (l := k + 1) (by omega)
    rw [show n - (k + 1) = d by omega] at esz
    have hw := w_le h.1 hkn
    have hw0 := w_pos h.1 hkn
    rw [f_X0_pick_11, hC.1, if_neg (by rw [q_le (by omega) (by omega)]; omega), nI_1, ob esz, if_neg (nI_nle hsp (by omega)), q_chk (by omega) (by decide), q_ix (by omega), c1, ob (bitCount_R hn hkn c2 h.1), show (1 : Int32) = nI 1 from rfl, ifc (q_le (by omega) (by decide))]
    rw [hdk] at ih
    by_cases hw1 : cT (tbR rb k) n ≤ 1
    · rw [if_pos hw1, bnd_eq]
      have hr2 : r < sz (tbR rb) n d := by
        have : sz (tbR rb) n (d + 1) = cT (tbR rb (n - (d + 1))) n * sz (tbR rb) n d := rfl
        rw [this, hk, show cT (tbR rb k) n = 1 by omega, Nat.one_mul] at hr
        exact hr
      obtain ⟨p, p1, p2, p3, p4⟩ := ih fu m r (by omega) (by omega) hm hr2
      have hmk : iv m (m k) = k := iv_l hn hmP k
      have hRk : tbR rb k (iv m (m k)) = true := by rw [hmk]; exact (h.1 k hkn).1.1
      have st := pick_step hn hG h hm p2 (d := d) (r := r) (i := m k) (by omega) (hmP.1 k hkn) (by rw [hk]; exact hRk) (by
        rw [hk, Nat.div_eq_of_lt hr2]
        have a1 : dg (tbR rb) m k (m k) < dg (tbR rb) m k n := cT_lt (fun x => tbR rb k (iv m x)) (hmP.1 k hkn) hRk
        rw [dg_w hn hmP] at a1
        omega) (fun t ht => by
        rw [hk, hmk, (h.1 k hkn).1.2, id_cp]; exact p3 t (by omega)) (by rw [p4, Nat.mod_eq_of_lt hr2])
      rw [hk] at st
      exact ⟨p, p1, p2, st.1, st.2⟩
    · rw [if_neg hw1, chk_pos (decide_eq_true (nI_ne0 hsp (by omega))), pk_div (by omega) hsp (by omega)]
      obtain ⟨i, i1, i2, i3⟩ := pick_i hn hG h hm (d := d) (r := r) (by omega) hr
      rw [hk] at i2 i3
      have hsrc := sourceOf_eq hn hC hmP hkn i1 i2
      rw [i3] at hsrc
      have hvi := (IsP_iv hn hmP).1 i i1
      rw [ob hsrc, chk_pos (decide_eq_true (nI_ne0 hsp (by omega))), bnd_eq, ad_16, q_chk (by omega) (by decide), q_ix (by omega), (hC.2.2.2 k _ hkn i2).1, ob (compose_eq hn ((h.1 k hkn).2 _ i2).2.1 hmP), bnd_eq, show irem (nI r) (nI (sz (tbR rb) n d)) = nI (r % sz (tbR rb) n d) from pk_rem (by omega) hsp (by omega)]
      obtain ⟨p, p1, p2, p3, p4⟩ := ih fu (cp (th k (iv m i)) m) (r % sz (tbR rb) n d) (by omega) (by omega) (hG.2.2.1 _ _ (h.2.2 k _ hkn i2) hm) (Nat.mod_lt _ hsp)
      have st := pick_step hn hG h hm p2 (d := d) (r := r) (i := i) (by omega) i1 (by rw [hk]; exact i2) (by rw [hk]; exact i3) (fun t ht => by rw [hk]; exact p3 t (by omega)) p4
      rw [hk] at st
      exact ⟨p, p1, p2, st.1, st.2⟩
theorem pick_eq (hn : n ≤ 10) (hG : Sub n G) (hC : ChT I L cb n rb th) (h : TabG n G (RB (tbR rb)) th) (he : EL n G N e) {x : Nat} (hx : x < N) : f_X0_pick cb (nI x) I L = some (tn n (e x)) := by
  unfold f_X0_pick
  obtain ⟨eN, er⟩ := EL_tab hn hG h he
  obtain ⟨p, p1, p2, _, p4⟩ := pick_l hn hG hC h n FU idp x (Nat.le_refl n) (by unfold FU; omega) hG.2.1 (by omega)
  rw [show n - n = 0 by omega, nI_0] at p1
  rw [bnd_eq, hC.2.1, p1]
  obtain ⟨i, hi, ei⟩ := he.2.1 p p2
  have := er i hi
  rw [ei, p4] at this
  rw [this, ei]
theorem placeOf_l (hn : n ≤ 10) (hG : Sub n G) (hC : ChT I L cb n rb th) (h : TabG n G (RB (tbR rb)) th) {p : Nat → Nat} (hp : IsP n p) : ∀ d fu a, d ≤ n → d < fu → G (md th p (n - d)) → (∀ t, t < n - d → md th p (n - d) t = p t) → ∃ r, f_X0_placeOf_11 cb (tn n p) I L fu (tn n (md th p (n - d))) (nI a) (nI (n - d)) = some r ∧ ((G p ∧ r = nI (a + rkF n (tbR rb) th p d)) ∨ (¬ G p ∧ r = -1)) := by
  intro d
  induction d with
  | zero =>
    intro fu a _ h2 hm ha
    obtain ⟨fu, rfl⟩ : ∃ m, fu = m + 1 := ⟨fu - 1, by omega⟩
    rw [f_X0_placeOf_11, hC.1, if_pos (by rw [q_le (by omega) (by omega)]; omega)]
    refine ⟨_, rfl, Or.inl ⟨?_, rfl⟩⟩
    have : md th p (n - 0) = p := IsP_ext (hG.1 _ hm) hp (fun i hi => ha i (by omega))
    rw [← this]; exact hm
  | succ d ih =>
    intro fu a hd h2 hm ha
    obtain ⟨fu, rfl⟩ : ∃ m, fu = m + 1 := ⟨fu - 1, by omega⟩
    generalize hk : n - (d + 1) = k at *
    have hkn : k < n := by omega
    have hdk : n - d = k + 1 := by omega
    rw [hdk] at ih
    have hmP := hG.1 _ hm
    have hv := IsP_iv hn hmP
    have hpk := hp.1 k hkn
    have hsrc := hv.1 _ hpk
    obtain ⟨c1, c2⟩ := hC.2.2.1 k hkn
    have esz := sizeFrom_eq hn hC h.1 (l := k + 1) (by omega)
    rw [show n - (k + 1) = d by omega] at esz
    rw [f_X0_placeOf_11, hC.1, if_neg (by rw [q_le (by omega) (by omega)]; omega), ob (tn_img hn hp hkn), ob (invert_eq hn hmP), ob (tn_img hn hv hpk), q_chk (by omega) (by decide), q_ix (by omega), c1, ifc (q_bit0 (by omega) (by omega))]
    cases hb : (rb k).testBit (iv (md th p k) (p k))
    · rw [if_pos rfl]
      refine ⟨-1, rfl, Or.inr ⟨fun hGp => ?_, rfl⟩⟩
      have : tbR rb k (iv (md th p k) (p k)) = true := md_R hn hG h hGp hkn
      rw [show tbR rb k (iv (md th p k) (p k)) = false from hb] at this
      cases this
    · have hRk : tbR rb k (iv (md th p k) (p k)) = true := hb
      rw [if_neg (by decide), ob (countSources_eq hn hC hmP hkn (Nat.le_of_lt hpk)), nI_1, ob esz, pk_mul, nI_add, bnd_eq, ad_16, q_chk (by omega) (by decide), q_ix (by omega), (hC.2.2.2 k _ hkn hb).1, ob (compose_eq hn ((h.1 k hkn).2 _ hRk).2.1 hmP), bnd_eq]
      obtain ⟨s1, s2⟩ := md_step hn hG h hm hkn ha hRk
      obtain ⟨r, r1, r2⟩ := ih fu (a + dg (tbR rb) (md th p k) k (p k) * sz (tbR rb) n d) (by omega) (by omega) s1 s2
      refine ⟨r, r1, r2.imp (fun g => ⟨g.1, ?_⟩) id⟩
      rw [g.2]
      show nI _ = nI (a + (dg (tbR rb) (md th p (n - (d + 1))) (n - (d + 1)) (p (n - (d + 1))) * sz (tbR rb) n d + rkF n (tbR rb) th p d))
      rw [hk, Nat.add_assoc]
theorem placeOf_eq (hn : n ≤ 10) (hG : Sub n G) (hC : ChT I L cb n rb th) (h : TabG n G (RB (tbR rb)) th) (he : EL n G N e) {p : Nat → Nat} (hp : IsP n p) : ∃ r, f_X0_placeOf cb (tn n p) I L = some r ∧ ((∃ i, i < N ∧ e i = p ∧ r = nI i) ∨ (¬ G p ∧ r = -1)) := by
  unfold f_X0_placeOf
  obtain ⟨eN, er⟩ := EL_tab hn hG h he
  obtain ⟨r, r1, r2⟩ := placeOf_l hn hG hC h hp n FU 0 (Nat.le_refl n) (by unfold FU; omega) (by rw [show n - n = 0 by omega]; exact hG.2.1) (fun t ht => by omega)
  rw [show n - n = 0 by omega, nI_0] at r1
  rw [bnd_eq, hC.2.1]
  refine ⟨r, r1, r2.imp (fun g => ?_) id⟩
  obtain ⟨i, hi, ei⟩ := he.2.1 p g.1
  have := er i hi
  rw [ei] at this
  exact ⟨i, hi, ei, by rw [g.2, Nat.zero_add, this]⟩
/-- levels that move their point -/
def wB (R : Nat → Nat → Bool) (n : Nat) : Nat → Bool := fun k => decide (1 < cT (R k) n)
theorem countHeld_eq (hn : n ≤ 10) (hC : ChT I L cb n rb th) (hT : TabOK n (RB (tbR rb)) th) : f_X0_countHeld cb I L = some (nI (cT (wB (tbR rb) n) n)) := by
  unfold f_X0_countHeld
  exact for0 (fun fu s => f_X0_countHeld_4 cb I L fu s.1 s.2) (fun x => (nI (cT (wB (tbR rb) n) x), nI x)) n _ (by omega)
    (fun fu => by
      dsimp only
      rw [f_X0_countHeld_4, hC.1, if_pos (by rw [q_le (by omega) (by omega)]; omega)])
    (fun fu x hx => by
      dsimp only
      obtain ⟨c1, c2⟩ := hC.2.2.1 x hx
      have hw := w_le hT hx
      rw [f_X0_countHeld_4, hC.1, if_neg (by rw [q_le (by omega) (by omega)]; omega), q_chk (by omega) (by decide), q_ix (by omega), c1, ob (bitCount_R hn hx c2 hT), show (1 : Int32) = nI 1 from rfl, ifc (q_le (by omega) (by decide))]
      by_cases h1 : cT (tbR rb x) n ≤ 1
      · rw [if_pos h1, bnd_eq, show nI x + nI 1 = nI (x + 1) from nI_1 x, cT_f (P := wB (tbR rb) n) (decide_eq_false (by omega))]
      · rw [if_neg h1, bnd_eq, bnd_eq, show nI x + nI 1 = nI (x + 1) from nI_1 x, nI_add, cT_t (P := wB (tbR rb) n) (decide_eq_true (by omega))])
theorem heldPoint_eq (hn : n ≤ 10) (hC : ChT I L cb n rb th) (hT : TabOK n (RB (tbR rb)) th) {k : Nat} (hk : k < 2 ^ 31) : ∃ r, f_X0_heldPoint cb (nI k) I L = some r ∧ ((∃ i, i < n ∧ wB (tbR rb) n i = true ∧ cT (wB (tbR rb) n) i = k ∧ r = nI i) ∨ (cT (wB (tbR rb) n) n ≤ k ∧ r = -1)) := by
  unfold f_X0_heldPoint
  have hb : ∀ x, cT (wB (tbR rb) n) x ≤ x := fun x => cT_le _ _
  have step : ∀ fu x, x < n → (wB (tbR rb) n x = true → cT (wB (tbR rb) n) x ≠ k) → f_X0_heldPoint_4 cb (nI k) I L (fu + 1) (nI (cT (wB (tbR rb) n) x)) (nI x) = f_X0_heldPoint_4 cb (nI k) I L fu (nI (cT (wB (tbR rb) n) (x + 1))) (nI (x + 1)) := fun fu x hx hne => by
    obtain ⟨c1, c2⟩ := hC.2.2.1 x hx
    have hw := w_le hT hx
    have hbx := hb x
    rw [f_X0_heldPoint_4, hC.1, if_neg (by rw [q_le (by omega) (by omega)]; omega), q_chk (by omega) (by decide), q_ix (by omega), c1, ob (bitCount_R hn hx c2 hT), show (1 : Int32) = nI 1 from rfl, ifc (q_le (by omega) (by decide))]
    by_cases h1 : cT (tbR rb x) n ≤ 1
    · rw [if_pos h1, bnd_eq, show nI x + nI 1 = nI (x + 1) from nI_1 x, cT_f (P := wB (tbR rb) n) (decide_eq_false (by omega))]
    · have hwx : wB (tbR rb) n x = true := decide_eq_true (by omega)
      rw [if_neg h1, if_neg (by rw [q_eq (by omega) (by omega)]; exact hne hwx), bnd_eq, bnd_eq, show nI x + nI 1 = nI (x + 1) from nI_1 x, nI_add, cT_t (P := wB (tbR rb) n) hwx]
  by_cases hlt : k < cT (wB (tbR rb) n) n
  · obtain ⟨i, i1, i2, i3⟩ := cT_nth (wB (tbR rb) n) n k hlt
    refine ⟨nI i, ?_, Or.inl ⟨i, i1, i2, i3, rfl⟩⟩
    exact for0 (fun fu s => f_X0_heldPoint_4 cb (nI k) I L fu s.1 s.2) (fun x => (nI (cT (wB (tbR rb) n) x), nI x)) i _ (by omega)
      (fun fu => by
        dsimp only
        obtain ⟨c1, c2⟩ := hC.2.2.1 i i1
        have hw := w_le hT i1
        rw [f_X0_heldPoint_4, hC.1, if_neg (by rw [q_le (by omega) (by omega)]; omega), q_chk (by omega) (by decide), q_ix (by omega), c1, ob (bitCount_R hn i1 c2 hT), show (1 : Int32) = nI 1 from rfl, ifc (q_le (by omega) (by decide)), if_neg (by have : 1 < cT (tbR rb i) n := of_decide_eq_true i2; omega), if_pos (by rw [i3])])
      (fun fu x hx => step fu x (by omega) (fun hwx h5 => by
        have := cT_lt (wB (tbR rb) n) hx hwx
        omega))
  · refine ⟨-1, ?_, Or.inr ⟨by omega, rfl⟩⟩
    exact for0 (fun fu s => f_X0_heldPoint_4 cb (nI k) I L fu s.1 s.2) (fun x => (nI (cT (wB (tbR rb) n) x), nI x)) n _ (by omega)
      (fun fu => by
        dsimp only
        rw [f_X0_heldPoint_4, hC.1, if_pos (by rw [q_le (by omega) (by omega)]; omega)])
      (fun fu x hx => step fu x hx (fun hwx h5 => by
        have := cT_lt (wB (tbR rb) n) hx hwx
        omega))
theorem countFree_eq (hn : n ≤ 10) (hC : ChT I L cb n rb th) (hT : TabOK n (RB (tbR rb)) th) {t : Nat} (ht : t ≤ n) (h1 : ∀ k, k < t → cT (tbR rb k) n = n - k) (h2 : t < n → cT (tbR rb t) n ≠ n - t) : f_X0_countFree cb I L = some (nI t) := by
  unfold f_X0_countFree
  exact for0 (fun fu s => f_X0_countFree_2 cb I L fu s) (fun x => nI x) t _ (by omega)
    (fun fu => by
      rw [f_X0_countFree_2, hC.1, ifc (q_le (by omega) (by omega))]
      by_cases h : n ≤ t
      · rw [if_pos h]
      · obtain ⟨c1, c2⟩ := hC.2.2.1 t (by omega)
        have hw := w_le hT (show t < n by omega)
        rw [if_neg h, q_chk (by omega) (by decide), q_ix (by omega), c1, ob (bitCount_R hn (by omega) c2 hT), pk_sub ht, if_neg (by rw [q_eq (by omega) (by omega)]; exact h2 (by omega))])
    (fun fu x hx => by
      obtain ⟨c1, c2⟩ := hC.2.2.1 x (by omega)
      have hw := w_le hT (show x < n by omega)
      rw [f_X0_countFree_2, hC.1, if_neg (by rw [q_le (by omega) (by omega)]; omega), q_chk (by omega) (by decide), q_ix (by omega), c1, ob (bitCount_R hn (by omega) c2 hT), pk_sub (by omega), if_pos (by rw [q_eq (by omega) (by omega)]; exact h1 x hx), bnd_eq, nI_1])
theorem reachedAt_eq (hn : n ≤ 10) (hC : ChT I L cb n rb th) {l : Nat} (hl : l < n) : f_X0_reachedAt cb (nI l) I L = some (nI (rb l)) := by
  unfold f_X0_reachedAt
  rw [if_neg (nI_pos (by omega)), hC.1, if_neg (by rw [q_le (by omega) (by omega)]; omega), q_chk (by omega) (by decide), q_ix (by omega), (hC.2.2.1 l hl).1]
end CP
