/-! The reference: places and ones -/
theorem RT_0 {I : MI} {k j : Nat} (h : j < 10) : RT I 0 k j = decide (I 52 (10 * k + j) ≠ 0) := by
  rw [RT_in h, show 100 * 0 + 10 * k + j = 10 * k + j by omega]
theorem ad_10 (k j : Nat) : (10 * nI k) + nI j = nI (10 * k + j) := by
  rw [show (10 : Int32) = nI 10 from rfl, pk_mul, nI_add]
section RP
variable {I : MI} {L : ML} {n N : Nat} {T : Nat → Nat → Nat → Nat} {G : PS} {e : Nat → Nat → Nat}
theorem orderFrom0 (hn : n ≤ 10) (hG : Sub n G) (h : TabG 10 G (RB (RT I 0)) T) {l : Nat} (hl : l ≤ n) : f_X8_orderFrom 0 (nI l) I L = some (nI (sz (RT I 0) n (n - l))) := by
  have := orderFrom_eq (I := I) (L := L) (s := 0) (l := l) (by decide) (by omega)
  rw [nI_0, sz_n hn hG h hl] at this
  exact this
theorem laysCell0 {k j a : Nat} (hk : k < 10) (hj : j < 10) (ha : a ≠ 53) (hS : SlotOK I 0 T) (hr : RT I 0 k j = true) : f_X8_laysCell 0 (nI k) (nI j) a I L = some (wp I a 0 (T k j), L) := by
  have := laysCell_eq (I := I) (L := L) (s := 0) (by decide) hk hj ha (hS.2 k j hk hj hr)
  rw [nI_0] at this
  exact this
theorem placeOf28 {m p : Nat → Nat} {a k : Nat} (hn : n ≤ 10) (h43 : I 43 2 = nI n) (hm : IsP n m) (hrm : Row I 59 0 m) (hp : IsP n p) (hrp : Row I a 0 p) (hk : k < n) {v2 : Int32} (k0 : Int32 → Int32 → Option (Int32 × Mm)) : f_X8_placeOf_28 a v2 (nI k) I L k0 FU 0 0 0 = k0 (nI (iv m (p k))) (nI (dg (RT I 0) m k (p k))) := by
  have hv := (IsP_iv hn hm).1 _ (hp.1 k hk)
  have hpk := hp.1 k hk
  have fin : f_X8_placeOf_28 a v2 (nI k) I L k0 FU 0 0 0 = k0 (nI (iv m (p k))) (nI (cT (fun x => RT I 0 k x && decide (m x < p k)) n)) := by
    have := for0 (fun fu s => f_X8_placeOf_28 a v2 (nI k) I L k0 fu s.1 s.2.1 s.2.2) (fun x => (nI (if iv m (p k) < x then iv m (p k) else 0), nI (cT (fun x => RT I 0 k x && decide (m x < p k)) x), nI x)) n (k0 (nI (iv m (p k))) (nI (cT (fun x => RT I 0 k x && decide (m x < p k)) n))) (by omega)
      (fun fu => by
        dsimp only
        rw [f_X8_placeOf_28, h43, if_pos (by rw [q_le (by omega) (by omega)]; omega), if_pos hv])
      (fun fu x hx => by
        dsimp only
        have hmx := hm.1 x hx
        have ej : (if nI (m x) = nI (p k) then nI x else nI (if iv m (p k) < x then iv m (p k) else 0)) = nI (if iv m (p k) < x + 1 then iv m (p k) else 0) := by
          by_cases g : m x = p k
          · have g2 : iv m (p k) = x := iv_of hn hm g
            rw [if_pos (by rw [g]), g2, if_pos (by omega)]
          · have g2 : iv m (p k) ≠ x := fun g3 => g (by rw [← g3, iv_r hn hm])
            rw [if_neg (by rw [q_eq (by omega) (by omega)]; exact g)]
            by_cases g4 : iv m (p k) < x
            · rw [if_pos g4, if_pos (by omega)]
            · rw [if_neg g4, if_neg (by omega)]
        rw [f_X8_placeOf_28, h43, if_neg (by rw [q_le (by omega) (by omega)]; omega), q_chk (by omega) (by decide), q_chk (by omega) (by decide), bnd_eq, ad_10, q_ix (by omega), q_ix (by omega), q_ix (by omega), Row0 hrm (by omega), Row0 hrp (by omega), ← ej]
        have key : ∀ J : Int32, (chk (inb (nI (10 * k + x)) 400) (if I 52 (10 * k + x) = 0 then bnd (nI (cT (fun x => RT I 0 k x && decide (m x < p k)) x) + 0) (fun v5_12 => bnd (nI x + 1) (fun v6_13 => f_X8_placeOf_28 a v2 (nI k) I L k0 fu J v5_12 v6_13)) else chk (inb (nI x) 10) (chk (inb (nI k) 10) (if nI (p k) ≤ nI (m x) then bnd (nI (cT (fun x => RT I 0 k x && decide (m x < p k)) x) + 0) (fun v5_14 => bnd (nI x + 1) (fun v6_15 => f_X8_placeOf_28 a v2 (nI k) I L k0 fu J v5_14 v6_15)) else bnd (nI (cT (fun x => RT I 0 k x && decide (m x < p k)) x) + 1) (fun v5_16 => bnd (nI x + 1) (fun v6_17 => f_X8_placeOf_28 a v2 (nI k) I L k0 fu J v5_16 v6_17)))))) = f_X8_placeOf_28 a v2 (nI k) I L k0 fu J (nI (cT (fun x => RT I 0 k x && decide (m x < p k)) (x + 1))) (nI (x + 1)) := by
          intro J
          rw [q_chk (by omega) (by decide)]
          by_cases hz : I 52 (10 * k + x) = 0
          · rw [if_pos hz, bnd_eq, bnd_eq, nI_1, show (0 : Int32) = nI 0 from rfl, nI_add, cT_f (P := fun x => RT I 0 k x && decide (m x < p k)) (by rw [RT_0 (by omega), decide_eq_false (fun g => g hz)]; rfl)]
            rfl
          · rw [if_neg hz, q_chk (by omega) (by decide), q_chk (by omega) (by decide), ifc (q_le (by omega) (by omega))]
            by_cases g : p k ≤ m x
            · rw [if_pos g, bnd_eq, bnd_eq, nI_1, show (0 : Int32) = nI 0 from rfl, nI_add, cT_f (P := fun x => RT I 0 k x && decide (m x < p k)) (by rw [decide_eq_false (by omega), Bool.and_false])]
              rfl
            · rw [if_neg g, bnd_eq, bnd_eq, nI_1, nI_1, cT_t (P := fun x => RT I 0 k x && decide (m x < p k)) (by rw [RT_0 (by omega), decide_eq_true hz, decide_eq_true (by omega)]; rfl)]
        by_cases g : nI (m x) = nI (p k)
        · rw [if_pos g, if_pos g]; exact key _
        · rw [if_neg g, if_neg g]; exact key _)
    rw [nI_0] at this
    exact this
  rw [fin]
  refine congrArg (fun z => k0 (nI (iv m (p k))) (nI z)) (Nat.le_antisymm (cT_bij m (fun x hx h => ?_) (fun i j _ _ _ _ h => hm.2.2 i j h)) (cT_bij (iv m) (fun x hx h => ?_) (fun i j _ _ _ _ h => (IsP_iv hn hm).2.2 i j h)))
  · have h := Bool.and_eq_true_iff.mp h
    refine ⟨of_decide_eq_true h.2, ?_⟩
    show RT I 0 k (iv m (m x)) = true
    rw [iv_l hn hm]; exact h.1
  · refine ⟨(IsP_iv hn hm).1 x (by omega), ?_⟩
    show (RT I 0 k (iv m x) && decide (m (iv m x) < p k)) = true
    rw [iv_r hn hm, decide_eq_true hx, Bool.and_true]; exact h
theorem placeOf8_l {p : Nat → Nat} {a : Nat} (hn : n ≤ 10) (hG : Sub n G) (ha : a ∉ [57, 58, 59]) (hp : IsP n p) : ∀ d fu s I, d ≤ n → d < fu → I 43 2 = nI n → SlotOK I 0 T → TabG 10 G (RB (RT I 0)) T → Row I a 0 p → Row I 59 0 (md T p (n - d)) → G (md T p (n - d)) → (∀ t, t < n - d → md T p (n - d) t = p t) → ∃ r I', f_X8_placeOf_11 a fu (nI s) (nI (n - d)) I L = some (r, I', L) ∧ Fr [57, 58, 59] I I' ∧ ((G p ∧ r = nI (s + rkF n (RT I 0) T p d)) ∨ (¬ G p ∧ r = -1)) := by
  intro d
  induction d with
  | zero =>
    intro fu s I _ h2 h43 hS hT hr hr59 hm hag
    obtain ⟨fu, rfl⟩ : ∃ m, fu = m + 1 := ⟨fu - 1, by omega⟩
    rw [f_X8_placeOf_11, h43, if_pos (by rw [q_le (by omega) (by omega)]; omega)]
    refine ⟨_, I, rfl, Fr.refl, Or.inl ⟨?_, rfl⟩⟩
    have : md T p (n - 0) = p := IsP_ext (hG.1 _ hm) hp (fun i hi => hag i (by omega))
    rw [← this]; exact hm
  | succ d ih =>
    intro fu s I hd h2 h43 hS hT hr hr59 hm hag
    obtain ⟨fu, rfl⟩ : ∃ m, fu = m + 1 := ⟨fu - 1, by omega⟩
    generalize hk : n - (d + 1) = k at *
    have hkn : k < n := by omega
    have hdk : n - d = k + 1 := by omega
    rw [hdk] at ih
    have hT' := TabG_n hn hG hT
    have hmP := hG.1 _ hm
    have hpk := hp.1 k hkn
    have hsrc := (IsP_iv hn hmP).1 _ hpk
    rw [f_X8_placeOf_11, h43, if_neg (by rw [q_le (by omega) (by omega)]; omega), placeOf28 hn h43 hmP hr59 hp hr hkn, ad_10, q_chk (by omega) (by decide), q_ix (by omega)]
    have hRv := RT_0 (I := I) (k := k) (j := iv (md T p k) (p k)) (by omega)
    by_cases hz : I 52 (10 * k + iv (md T p k) (p k)) = 0
    · rw [if_pos hz]
      refine ⟨-1, I, rfl, Fr.refl, Or.inr ⟨fun hGp => ?_, rfl⟩⟩
      have := md_R hn hG hT' hGp hkn
      rw [hRv] at this
      exact absurd hz (of_decide_eq_true this)
    · have hRk : RT I 0 k (iv (md T p k) (p k)) = true := by rw [hRv]; exact decide_eq_true hz
      have of0 := orderFrom0 (L := L) hn hG hT (l := k + 1) (by omega)
      rw [show n - (k + 1) = d by omega] at of0
      rw [if_neg hz, nI_1, ob of0, pk_mul, nI_add, bnd_eq, ob (laysCell0 (by omega) (by omega) (by decide) hS hRk)]
      have r1 : Row (wp I 57 0 (T k (iv (md T p k) (p k)))) 59 0 (md T p k) := Row_ne (by decide) hr59
      rw [ob (copies10 r1 (by decide))]
      have r2 : Row (wp (wp I 57 0 (T k (iv (md T p k) (p k)))) 58 0 (md T p k)) 57 0 (T k (iv (md T p k) (p k))) := Row_ne (by decide) Row_wp
      rw [ob (makes_eq r2 Row_wp (IsP_mono ((hT'.1 k hkn).2 _ hRk).2.1 hn) (by decide) (by decide)), bnd_eq]
      have hfr : Fr [57, 58, 59] I (wp (wp (wp I 57 0 (T k (iv (md T p k) (p k)))) 58 0 (md T p k)) 59 0 (cp (T k (iv (md T p k) (p k))) (md T p k))) := ((Fr_wp (by decide)).trans (Fr_wp (by decide))).trans (Fr_wp (by decide))
      have eR : RT (wp (wp (wp I 57 0 (T k (iv (md T p k) (p k)))) 58 0 (md T p k)) 59 0 (cp (T k (iv (md T p k) (p k))) (md T p k))) 0 = RT I 0 := by
        funext k j; unfold RT; rw [hfr 52 (by decide)]
      obtain ⟨s1, s2⟩ := md_step hn hG hT' hm hkn hag hRk
      obtain ⟨r, I', i1, i2, i3⟩ := ih fu (s + dg (RT I 0) (md T p k) k (p k) * sz (RT I 0) n d) _ (by omega) (by omega) (by rw [hfr 43 (by decide)]; exact h43) (hS.fr (hfr 52 (by decide)) (hfr 53 (by decide))) (by rw [eR]; exact hT) (Row_of (hfr a ha) hr) Row_wp s1 s2
      refine ⟨r, I', i1, hfr.trans i2, i3.imp (fun g => ⟨g.1, ?_⟩) id⟩
      rw [g.2, eR]
      show nI _ = nI (s + (dg (RT I 0) (md T p (n - (d + 1))) (n - (d + 1)) (p (n - (d + 1))) * sz (RT I 0) n d + rkF n (RT I 0) T p d))
      rw [hk, Nat.add_assoc]
theorem placeOf8_eq {p : Nat → Nat} {a : Nat} (hn : n ≤ 10) (hG : Sub n G) (ha : a ∉ [57, 58, 59]) (hp : IsP n p) (h43 : I 43 2 = nI n) (hSG : SlotG I 0 G) (hr : Row I a 0 p) (he : EL n G N e) : ∃ r I', f_X8_placeOf a I L = some (r, I', L) ∧ Fr [57, 58, 59] I I' ∧ ((∃ i, i < N ∧ e i = p ∧ r = nI i) ∨ (¬ G p ∧ r = -1)) := by
  obtain ⟨T, hS, hT, _⟩ := hSG
  unfold f_X8_placeOf
  rw [ob isHome_eq]
  have hfr : Fr [57, 58, 59] I (wp I 59 0 idp) := Fr_wp (by decide)
  have eR : RT (wp I 59 0 idp) 0 = RT I 0 := by funext k j; unfold RT; rw [hfr 52 (by decide)]
  obtain ⟨r, I', i1, i2, i3⟩ := placeOf8_l (L := L) (T := T) hn hG ha hp n FU 0 (wp I 59 0 idp) (Nat.le_refl n) (by unfold FU; omega) (by rw [hfr 43 (by decide)]; exact h43) (hS.fr (hfr 52 (by decide)) (hfr 53 (by decide))) (by rw [eR]; exact hT) (Row_of (hfr a ha) hr) (by rw [show n - n = 0 by omega]; exact Row_wp) (by rw [show n - n = 0 by omega]; exact hG.2.1) (fun t ht => by omega)
  rw [show n - n = 0 by omega, nI_0] at i1
  refine ⟨r, I', i1, hfr.trans i2, i3.imp (fun g => ?_) id⟩
  obtain ⟨eN, er⟩ := EL_tab hn hG (TabG_n hn hG hT) he
  obtain ⟨i, hi, ei⟩ := he.2.1 p g.1
  have := er i hi
  rw [ei] at this
  exact ⟨i, hi, ei, by rw [g.2, Nat.zero_add, eR, this]⟩
theorem laysNth67 {m : Nat → Nat} {a k i : Nat} (hn : n ≤ 10) (h43 : I 43 2 = nI n) (hm : IsP n m) (hrm : Row I 59 0 m) (hk : k < n) (hi : i < n) {v3 s0 j0 : Int32} (k0 : Int32 → Int32 → Option Mm) : f_X8_laysNth_67 a v3 (nI k) (nI i) I L k0 FU s0 j0 0 = if RT I 0 k (iv m i) = true then k0 (s0 + (-1)) (if s0 = 0 then nI (iv m i) else j0) else k0 s0 j0 := by
  have hv := (IsP_iv hn hm).1 i hi
  have := for0 (fun fu s => f_X8_laysNth_67 a v3 (nI k) (nI i) I L k0 fu s.1 s.2.1 s.2.2) (fun x => (if iv m i < x ∧ RT I 0 k (iv m i) = true then s0 + (-1) else s0, if iv m i < x ∧ RT I 0 k (iv m i) = true ∧ s0 = 0 then nI (iv m i) else j0, nI x)) n (if RT I 0 k (iv m i) = true then k0 (s0 + (-1)) (if s0 = 0 then nI (iv m i) else j0) else k0 s0 j0) (by omega)
    (fun fu => by
      dsimp only
      rw [f_X8_laysNth_67, h43, if_pos (by rw [q_le (by omega) (by omega)]; omega)]
      by_cases hR : RT I 0 k (iv m i) = true
      · rw [if_pos ⟨hv, hR⟩, if_pos hR]
        by_cases hs : s0 = 0
        · rw [if_pos ⟨hv, hR, hs⟩, if_pos hs]
        · rw [if_neg (fun g => hs g.2.2), if_neg hs]
      · rw [if_neg (fun g => hR g.2), if_neg (fun g => hR g.2.1), if_neg hR])
    (fun fu x hx => by
      dsimp only
      have hmx := hm.1 x hx
      rw [f_X8_laysNth_67, h43, if_neg (by rw [q_le (by omega) (by omega)]; omega), q_chk (by omega) (by decide), q_ix (by omega), Row0 hrm (by omega), ifc (q_eq (by omega) (by omega))]
      by_cases g : m x = i
      · have g2 : iv m i = x := iv_of hn hm g
        rw [if_pos g, ad_10, q_chk (by omega) (by decide), q_ix (by omega), g2]
        have hRv := RT_0 (I := I) (k := k) (j := x) (by omega)
        by_cases hz : I 52 (10 * k + x) = 0
        · have hR : ¬ RT I 0 k x = true := by rw [hRv]; simp [hz]
          rw [if_pos hz, bnd_eq, nI_1, if_neg (fun g => hR g.2), if_neg (fun g => hR g.2.1), if_neg (fun g => hR g.2), if_neg (fun g => hR g.2.1)]
        · have hR : RT I 0 k x = true := by rw [hRv]; exact decide_eq_true hz
          have c1 : ¬ (x < x ∧ RT I 0 k x = true) := fun g => Nat.lt_irrefl _ g.1
          have c2 : ¬ (x < x ∧ RT I 0 k x = true ∧ s0 = 0) := fun g => Nat.lt_irrefl _ g.1
          have c3 : x < x + 1 ∧ RT I 0 k x = true := ⟨by omega, hR⟩
          rw [if_neg hz, if_neg c1, if_neg c2, if_pos c3]
          by_cases hs : s0 = 0
          · rw [if_pos hs, bnd_eq, bnd_eq, nI_1, if_pos (show x < x + 1 ∧ RT I 0 k x = true ∧ s0 = 0 from ⟨by omega, hR, hs⟩)]
          · rw [if_neg hs, bnd_eq, bnd_eq, nI_1, if_neg (show ¬ (x < x + 1 ∧ RT I 0 k x = true ∧ s0 = 0) from fun g => hs g.2.2)]
      · have g2 : iv m i ≠ x := fun g3 => g (by rw [← g3, iv_r hn hm])
        rw [if_neg g, bnd_eq, nI_1]
        by_cases g4 : iv m i < x
        · have e1 : (iv m i < x ∧ RT I 0 k (iv m i) = true) = (iv m i < x + 1 ∧ RT I 0 k (iv m i) = true) := propext ⟨fun h => ⟨by omega, h.2⟩, fun h => ⟨g4, h.2⟩⟩
          have e2 : (iv m i < x ∧ RT I 0 k (iv m i) = true ∧ s0 = 0) = (iv m i < x + 1 ∧ RT I 0 k (iv m i) = true ∧ s0 = 0) := propext ⟨fun h => ⟨by omega, h.2⟩, fun h => ⟨g4, h.2⟩⟩
          rw [ifc e1, ifc e2]
        · rw [if_neg (fun h => g4 h.1), if_neg (fun h => g4 h.1), if_neg (fun h => by omega), if_neg (fun h => by omega)])
  rw [if_neg (by omega), if_neg (by omega), nI_0] at this
  exact this
theorem nI_nm1 {k : Nat} (h : k < 2 ^ 31) : ¬ nI k = -1 := fun g => by
  have := nI_pos (n := k) h
  rw [g] at this
  exact this (by decide)
theorem laysNth49 {m : Nat → Nat} {a k i : Nat} (hn : n ≤ 10) (h43 : I 43 2 = nI n) (hm : IsP n m) (hrm : Row I 59 0 m) (hk : k < n) (hi : i < n) (hR : RT I 0 k (iv m i) = true) {v3 : Int32} (k0 : Int32 → Option Mm) : f_X8_laysNth_49 a v3 (nI k) I L k0 FU (nI (dg (RT I 0) m k i)) (-1) 0 = k0 (nI (iv m i)) := by
  have hv := (IsP_iv hn hm).1 i hi
  have hb : ∀ x, dg (RT I 0) m k x ≤ x := fun x => cT_le _ _
  have hbi := hb i
  have := for0 (fun fu s => f_X8_laysNth_49 a v3 (nI k) I L k0 fu s.1 s.2.1 s.2.2) (fun x => (if x ≤ i then nI (dg (RT I 0) m k i - dg (RT I 0) m k x) else -1, if x ≤ i then -1 else nI (iv m i), nI x)) (i + 1) (k0 (nI (iv m i))) (by omega)
    (fun fu => by
      dsimp only
      rw [f_X8_laysNth_49, if_neg (show ¬ i + 1 ≤ i by omega), if_neg (show ¬ i + 1 ≤ i by omega), h43, if_neg (nI_nm1 (by omega))]
      split <;> rfl)
    (fun fu x hx => by
      dsimp only
      have hbx := hb x
      rw [f_X8_laysNth_49, h43, if_pos (show x ≤ i by omega), if_pos (show x ≤ i by omega), if_neg (by rw [q_le (by omega) (by omega)]; omega), if_pos rfl, laysNth67 hn h43 hm hrm hk (show x < n by omega)]
      by_cases e : x = i
      · subst e
        rw [if_pos hR, bnd_eq, if_neg (show ¬ x + 1 ≤ x by omega), if_neg (show ¬ x + 1 ≤ x by omega), nI_1, Nat.sub_self, if_pos nI_0]
        rfl
      · have hxi : x + 1 ≤ i := by omega
        have hmono : dg (RT I 0) m k (x + 1) ≤ dg (RT I 0) m k i := cT_mono _ hxi
        rw [if_pos hxi, if_pos hxi]
        cases hRx : RT I 0 k (iv m x)
        · rw [if_neg (by decide), bnd_eq, nI_1, show dg (RT I 0) m k (x + 1) = dg (RT I 0) m k x from cT_f (P := fun y => RT I 0 k (iv m y)) hRx]
        · have e2 : dg (RT I 0) m k (x + 1) = dg (RT I 0) m k x + 1 := cT_t (P := fun y => RT I 0 k (iv m y)) hRx
          rw [if_pos rfl, bnd_eq, nI_1, e2, if_neg (nI_ne0 (by omega) (by omega)), show dg (RT I 0) m k i - dg (RT I 0) m k x = (dg (RT I 0) m k i - (dg (RT I 0) m k x + 1)) + 1 by omega, pk_m1])
  rw [if_pos (Nat.zero_le _), if_pos (Nat.zero_le _), nI_0] at this
  exact this
theorem laysNth12 {a : Nat} (hn : n ≤ 10) (hG : Sub n G) (k0 : MI → ML → Option Mm) : ∀ d fu m r I, d ≤ n → d < fu → I 43 2 = nI n → SlotOK I 0 T → TabG 10 G (RB (RT I 0)) T → Row I 59 0 m → G m → r < sz (RT I 0) n d → ∃ p I', f_X8_laysNth_12 a k0 fu (nI r) (nI (n - d)) I L = k0 I' L ∧ Fr [57, 58, 59] I I' ∧ Row I' 59 0 p ∧ G p ∧ (∀ t, t < n - d → p t = m t) ∧ rkF n (RT I 0) T p d = r := by
  intro d
  induction d with
  | zero =>
    intro fu m r I _ h2 h43 hS hT hr59 hm hr
    obtain ⟨fu, rfl⟩ : ∃ m, fu = m + 1 := ⟨fu - 1, by omega⟩
    rw [f_X8_laysNth_12, h43, if_pos (by rw [q_le (by omega) (by omega)]; omega)]
    exact ⟨m, I, rfl, Fr.refl, hr59, hm, fun _ _ => rfl, by have : r < 1 := hr; show 0 = r; omega⟩
  | succ d ih =>
    intro fu m r I hd h2 h43 hS hT hr59 hm hr
    obtain ⟨fu, rfl⟩ : ∃ m, fu = m + 1 := ⟨fu - 1, by omega⟩
    generalize hk : n - (d + 1) = k at *
    have hkn : k < n := by omega
    have hdk : n - d = k + 1 := by omega
    rw [hdk] at ih
    have hT' := TabG_n hn hG hT
    have hmP := hG.1 _ hm
    have hsz := sz_lt hn hT'.1 (d := d) (by omega)
    have hsz1 := sz_lt hn hT'.1 (d := d + 1) (by omega)
    have hsp := sz_pos hT'.1 d (by omega)
    have of0 := orderFrom0 (L := L) hn hG hT (l := k + 1) (by omega)
    rw [show n - (k + 1) = d by omega] at of0
    obtain ⟨i, i1, i2, i3⟩ := pick_i hn hG hT' hm (d := d) (r := r) (by omega) hr
    rw [hk] at i2 i3
    have hvi := (IsP_iv hn hmP).1 i i1
    rw [f_X8_laysNth_12, h43, if_neg (by rw [q_le (by omega) (by omega)]; omega), nI_1, ob of0, chk_pos (decide_eq_true (nI_ne0 hsp (by omega))), bnd_eq, pk_div (by omega) hsp (by omega), chk_pos (decide_eq_true (nI_ne0 hsp (by omega))), bnd_eq, ← i3, laysNth49 hn h43 hmP hr59 hkn i1 i2, ob (laysCell0 (by omega) (by omega) (by decide) hS i2)]
    have r1 : Row (wp I 57 0 (T k (iv m i))) 59 0 m := Row_ne (by decide) hr59
    rw [ob (copies10 r1 (by decide))]
    have r2 : Row (wp (wp I 57 0 (T k (iv m i))) 58 0 m) 57 0 (T k (iv m i)) := Row_ne (by decide) Row_wp
    rw [ob (makes_eq r2 Row_wp (IsP_mono ((hT'.1 k hkn).2 _ i2).2.1 hn) (by decide) (by decide)), bnd_eq, show irem (nI r) (nI (sz (RT I 0) n d)) = nI (r % sz (RT I 0) n d) from pk_rem (by omega) hsp (by omega)]
    have hfr : Fr [57, 58, 59] I (wp (wp (wp I 57 0 (T k (iv m i))) 58 0 m) 59 0 (cp (T k (iv m i)) m)) := ((Fr_wp (by decide)).trans (Fr_wp (by decide))).trans (Fr_wp (by decide))
    have eR : RT (wp (wp (wp I 57 0 (T k (iv m i))) 58 0 m) 59 0 (cp (T k (iv m i)) m)) 0 = RT I 0 := by
      funext k j; unfold RT; rw [hfr 52 (by decide)]
    obtain ⟨p, I', p1, p2, p3, p4, p5, p6⟩ := ih fu (cp (T k (iv m i)) m) (r % sz (RT I 0) n d) _ (by omega) (by omega) (by rw [hfr 43 (by decide)]; exact h43) (hS.fr (hfr 52 (by decide)) (hfr 53 (by decide))) (by rw [eR]; exact hT) Row_wp (hG.2.2.1 _ _ (hT'.2.2 k _ hkn i2) hm) (by rw [eR]; exact Nat.mod_lt _ hsp)
    rw [eR] at p6
    have st := pick_step hn hG hT' hm p4 (d := d) (r := r) (i := i) (by omega) i1 (by rw [hk]; exact i2) (by rw [hk]; exact i3) (fun t ht => by rw [hk]; exact p5 t (by omega)) p6
    rw [hk] at st
    exact ⟨p, I', p1, hfr.trans p2, p3, p4, st.1, st.2⟩
theorem laysNth_eq {a x : Nat} (hn : n ≤ 10) (hG : Sub n G) (ha : a ∉ [57, 58, 59]) (h43 : I 43 2 = nI n) (hSG : SlotG I 0 G) (he : EL n G N e) (hx : x < N) : ∃ I', f_X8_laysNth (nI x) a I L = some (I', L) ∧ Fr [a, 57, 58, 59] I I' ∧ Row I' a 0 (e x) := by
  obtain ⟨T, hS, hT, _⟩ := hSG
  unfold f_X8_laysNth
  rw [ob isHome_eq]
  have hfr : Fr [57, 58, 59] I (wp I 59 0 idp) := Fr_wp (by decide)
  have eR : RT (wp I 59 0 idp) 0 = RT I 0 := by funext k j; unfold RT; rw [hfr 52 (by decide)]
  obtain ⟨eN, er⟩ := EL_tab hn hG (TabG_n hn hG hT) he
  obtain ⟨p, I', p1, p2, p3, p4, _, p6⟩ := laysNth12 (L := L) (T := T) (a := a) hn hG (fun (I_34 : MI) (L_35 : ML) => Option.bind (f_X8_copies 59 10 0 a 10 0 I_34 L_35) (fun q_36 => some (q_36.1, q_36.2))) n FU idp x (wp I 59 0 idp) (Nat.le_refl n) (by unfold FU; omega) (by rw [hfr 43 (by decide)]; exact h43) (hS.fr (hfr 52 (by decide)) (hfr 53 (by decide))) (by rw [eR]; exact hT) Row_wp hG.2.1 (by rw [eR, ← eN]; exact hx)
  rw [show n - n = 0 by omega, nI_0] at p1
  rw [p1, ob (copies10 p3 (fun h => ha (by rw [← h]; decide)))]
  obtain ⟨i, hi, ei⟩ := he.2.1 p p4
  have := er i hi
  rw [ei, ← eR, p6] at this
  rw [← this] at ei
  refine ⟨_, rfl, ((hfr.trans p2).mono (fun q hq => List.mem_cons_of_mem _ hq)).trans (Fr_wp (by simp)), ?_⟩
  rw [ei]; exact Row_wp
end RP
