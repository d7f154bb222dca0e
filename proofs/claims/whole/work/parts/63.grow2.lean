/-! The class's chain grows: in memory -/
def ChM (I : MI) (L : ML) (cb n : Nat) (rb mc : Nat → Nat) (mk : Nat → Nat → Nat → Nat) (tr : Nat → Nat → Nat) : Prop := (∀ k, k < n → I (cb + 5) k = nI (mc k)) ∧ (∀ k i, k < n → i < mc k → L (cb + 4) (16 * k + i) = tn n (mk k i)) ∧ (∀ k j, k < n → tbR rb k j = true → I (cb + 6) (16 * k + j) = nI (tr k j))
def ChS (I : MI) (L : ML) (cb n : Nat) (rb : Nat → Nat) (th : Nat → Nat → Nat → Nat) (mc : Nat → Nat) (mk : Nat → Nat → Nat → Nat) (tr : Nat → Nat → Nat) : Prop := ChT I L cb n rb th ∧ ChM I L cb n rb mc mk tr ∧ GI n rb th mc mk tr
/-- a chain's own places -/
def FrC (cb : Nat) (I : MI) (L : ML) (I' : MI) (L' : ML) : Prop := (∀ q, q ≠ cb → q ≠ cb + 1 → q ≠ cb + 5 → q ≠ cb + 6 → I' q = I q) ∧ (∀ q, q ≠ cb → q ≠ cb + 2 → q ≠ cb + 3 → q ≠ cb + 4 → L' q = L q)
theorem FrC.refl {cb : Nat} {I : MI} {L : ML} : FrC cb I L I L := ⟨fun _ _ _ _ _ => rfl, fun _ _ _ _ _ => rfl⟩
theorem FrC.trans {cb : Nat} {I I' I'' : MI} {L L' L'' : ML} (h : FrC cb I L I' L') (g : FrC cb I' L' I'' L'') : FrC cb I L I'' L'' :=
  ⟨fun q a b c d => (g.1 q a b c d).trans (h.1 q a b c d), fun q a b c d => (g.2 q a b c d).trans (h.2 q a b c d)⟩
theorem TabOK_ge {n : Nat} {R : Nat → Nat → Prop} {T : Nat → Nat → Nat → Nat} (hT : TabOK n R T) {k j : Nat} (hk : k < n) (h : R k j) : k ≤ j := by
  obtain ⟨t1, t2, t3, t4⟩ := (hT k hk).2 j h
  refine Nat.le_of_not_lt fun hlt => ?_
  have := t2.2.2 j k ((t3 j hlt).trans t4.symm)
  omega
section G2
variable {cb n : Nat} {rb : Nat → Nat} {th : Nat → Nat → Nat → Nat} {mc : Nat → Nat} {mk : Nat → Nat → Nat → Nat} {tr : Nat → Nat → Nat}
theorem insert19 {I : MI} {L : ML} (hn : n ≤ 10) {a b : Nat} {r : Nat → Nat} (hab : a ≤ b) (hb : b < n) (hm : ∀ k, k < n → mc k ≤ 15) :
    ∀ d fu l J M, l + d = b + 1 → a ≤ l → d < fu → (∀ k, k < n → J (cb + 5) k = nI (if a ≤ k ∧ k < l then mc k + 1 else mc k)) → (∀ k i, k < n → i < mc k → M (cb + 4) (16 * k + i) = tn n (mk k i)) → (∀ k, a ≤ k → k < l → M (cb + 4) (16 * k + mc k) = tn n r) → (∀ q, q ≠ cb + 5 → J q = I q) → (∀ q, q ≠ cb + 4 → M q = L q) →
    ∃ I' L', f_X0_insert_19 cb (tn n r) (nI b) fu (nI l) J M = some (nI b, I', L') ∧ (∀ k, k < n → I' (cb + 5) k = nI (if a ≤ k ∧ k < b + 1 then mc k + 1 else mc k)) ∧ (∀ k i, k < n → i < mc k → L' (cb + 4) (16 * k + i) = tn n (mk k i)) ∧ (∀ k, a ≤ k → k < b + 1 → L' (cb + 4) (16 * k + mc k) = tn n r) ∧ (∀ q, q ≠ cb + 5 → I' q = I q) ∧ (∀ q, q ≠ cb + 4 → L' q = L q) := by
  intro d
  induction d with
  | zero =>
    intro fu l J M h1 _ h2 a1 a2 a3 a4 a5
    obtain ⟨fu, rfl⟩ : ∃ m, fu = m + 1 := ⟨fu - 1, by omega⟩
    have e : l = b + 1 := by omega
    subst e
    rw [f_X0_insert_19, if_pos (by rw [q_lt (by omega) (by omega)]; omega)]
    exact ⟨J, M, rfl, a1, a2, a3, a4, a5⟩
  | succ d ih =>
    intro fu l J M h1 hal h2 a1 a2 a3 a4 a5
    obtain ⟨fu, rfl⟩ : ∃ m, fu = m + 1 := ⟨fu - 1, by omega⟩
    have hln : l < n := by omega
    have hml := hm l hln
    have e5 : J (cb + 5) l = nI (mc l) := by rw [a1 l hln, if_neg (by omega)]
    rw [f_X0_insert_19, if_neg (by rw [q_lt (by omega) (by omega)]; omega), q_chk (by omega) (by decide), q_ix (by omega), e5, if_neg (by rw [show (16 : Int32) = nI 16 from rfl, q_le (by decide) (by omega)]; omega), q_chk (by omega) (by decide), ad_16, q_chk (by omega) (by decide), bnd_eq, q_chk (by omega) (by decide), q_chk (by omega) (by decide), bnd_eq, bnd_eq, q_ix (by omega), nI_1, nI_1]
    refine ih fu (l + 1) _ _ (by omega) (by omega) (by omega) (fun k hk => ?_) (fun k i hk hi => ?_) (fun k hk1 hk2 => ?_) (fun q hq => ?_) (fun q hq => ?_)
    · unfold up2
      rw [if_pos rfl]
      by_cases e : k = l
      · rw [if_pos e, if_pos (by omega), e]
      · rw [if_neg e, a1 k hk]
        by_cases h : a ≤ k ∧ k < l
        · rw [if_pos h, if_pos (by omega)]
        · rw [if_neg h, if_neg (by omega)]
    · unfold up2
      rw [if_pos rfl, if_neg]
      · exact a2 k i hk hi
      · have := hm k hk
        intro e
        have : k = l := by omega
        subst this
        omega
    · unfold up2
      rw [if_pos rfl]
      by_cases e : k = l
      · rw [e, if_pos rfl]
      · rw [if_neg]
        · exact a3 k hk1 (by omega)
        · have := hm k (by omega)
          omega
    · rw [up2_ne hq]; exact a4 q hq
    · rw [up2_ne hq]; exact a5 q hq
theorem insert_eq {I : MI} {L : ML} {tr2 : Nat → Nat → Nat} (hn : n ≤ 10) (hT : ChT I L cb n rb th) (hM : ChM I L cb n rb mc mk tr2) (hG : GI n rb th mc mk tr) {a b : Nat} (hab : a ≤ b) (hb : b < n) (hc : Cpl n rb mc tr a) {r : Nat → Nat} (hr : IsP n r) (hrf : ∀ i, i < b → r i = i) (hrb : r b ≠ b) (hno : ∀ k, a ≤ k → k ≤ b → ¬ SM n (RB (tbR rb)) th (n - k) r) (hup : ∀ k, k + 1 = a → Gen n (SK n mc mk k) r) :
    ∃ I' L', f_X0_insert cb (tn n r) (nI a) I L = some (nI b, I', L') ∧ ChT I' L' cb n rb th ∧ ChM I' L' cb n rb (imc mc a b) (imk mc mk a b r) tr2 ∧ GI n rb th (imc mc a b) (imk mc mk a b r) tr ∧ Cpl n rb (imc mc a b) tr (b + 1) ∧ FrC cb I L I' L' := by
  obtain ⟨g1, g2⟩ := GI_ins hn hG hab hb hc hr hrf hno hup
  unfold f_X0_insert
  rw [ob (firstMoved_eq hn hT.1 hr (Nat.le_of_lt hb) hrf (fun _ => hrb)), bnd_eq, hT.1]
  have e1 : imin (nI b) (nI n - 1) = nI b := by
    rw [show nI n - 1 = nI (n - 1) by rw [show (1 : Int32) = nI 1 from rfl]; exact pk_sub (by omega)]
    unfold imin
    rw [if_neg (by rw [q_lt (by omega) (by omega)]; omega)]
  rw [e1]
  obtain ⟨I', L', i1, i2, i3, i4, i5, i6⟩ := insert19 (cb := cb) (mc := mc) (mk := mk) (r := r) (I := I) (L := L) hn hab hb (fun k hk => GI_mc hn hG hk) (b + 1 - a) FU a I L (by omega) (Nat.le_refl a) (by unfold FU; omega) (fun k hk => by rw [if_neg (by omega)]; exact hM.1 k hk) hM.2.1 (fun k h1 h2 => by omega) (fun _ _ => rfl) (fun _ _ => rfl)
  refine ⟨I', L', i1, ⟨?_, ?_, fun k hk => ?_, fun k j hk hr' => ?_⟩, ⟨fun k hk => ?_, fun k i hk hi => ?_, fun k j hk hr' => ?_⟩, g1, g2, ⟨fun q _ _ h5 _ => i5 q h5, fun q _ _ _ h4 => i6 q h4⟩⟩
  · rw [i5 cb (by omega)]; exact hT.1
  · rw [i6 cb (by omega)]; exact hT.2.1
  · rw [i5 (cb + 1) (by omega)]; exact hT.2.2.1 k hk
  · rw [i6 (cb + 2) (by omega), i6 (cb + 3) (by omega)]; exact hT.2.2.2 k j hk hr'
  · rw [i2 k hk]
    unfold imc
    by_cases h : a ≤ k ∧ k ≤ b
    · rw [if_pos h, if_pos (by omega)]
    · rw [if_neg h, if_neg (by omega)]
  · by_cases h : (a ≤ k ∧ k ≤ b) ∧ i = mc k
    · have e : imk mc mk a b r k i = r := if_pos h
      rw [e, h.2]; exact i4 k h.1.1 (by omega)
    · have e : imk mc mk a b r k i = mk k i := if_neg h
      rw [e]
      refine i3 k i hk ?_
      unfold imc at hi
      split at hi
      · rename_i h3
        have : i ≠ mc k := fun e => h ⟨h3, e⟩
        omega
      · exact hi
  · rw [i5 (cb + 6) (by omega)]; exact hM.2.2 k j hk hr'
theorem untried_l {I : MI} {L : ML} (hn : n ≤ 10) (hS : ChS I L cb n rb th mc mk tr) {lv : Nat} (hl : lv < n) : ∀ d fu i, i + d = n → d < fu → (∀ j, j < i → tbR rb lv j = true → mc lv ≤ tr lv j) → ∃ r, f_X0_untried_2 cb (nI lv) I L fu (nI i) = some r ∧ ((r = -1 ∧ ∀ j, tbR rb lv j = true → mc lv ≤ tr lv j) ∨ ∃ j, r = nI j ∧ j < n ∧ tbR rb lv j = true ∧ tr lv j < mc lv) := by
  obtain ⟨hT, hM, hG⟩ := hS
  intro d
  induction d with
  | zero =>
    intro fu i h1 h2 h3
    obtain ⟨fu, rfl⟩ : ∃ m, fu = m + 1 := ⟨fu - 1, by omega⟩
    rw [f_X0_untried_2, hT.1, if_pos (by rw [q_le (by omega) (by omega)]; omega)]
    refine ⟨-1, rfl, Or.inl ⟨rfl, fun j hj => h3 j ?_ hj⟩⟩
    have := ((hG.1 lv hl).2 j hj).1
    omega
  | succ d ih =>
    intro fu i h1 h2 h3
    obtain ⟨fu, rfl⟩ : ∃ m, fu = m + 1 := ⟨fu - 1, by omega⟩
    obtain ⟨c1, c2⟩ := hT.2.2.1 lv hl
    rw [f_X0_untried_2, hT.1, if_neg (by rw [q_le (by omega) (by omega)]; omega), q_chk (by omega) (by decide), q_ix (by omega), c1, ifc (q_bit0 (by omega) (by omega))]
    by_cases hR : tbR rb lv i = true
    · have hm := GI_mc hn hG hl
      have ht := hG.2.2.2.2.2.2 lv i hl hR
      rw [if_neg (fun g => by rw [show (rb lv).testBit i = true from hR] at g; cases g), ad_16, q_chk (by omega) (by decide), q_chk (by omega) (by decide), q_ix (by omega), hM.1 lv hl, hM.2.2 lv i hl hR, ifc (q_le (by omega) (by omega)), bnd_eq, nI_1]
      by_cases h : mc lv ≤ tr lv i
      · rw [if_pos h]
        refine ih fu (i + 1) (by omega) (by omega) (fun j hj hr => ?_)
        by_cases e : j = i
        · rw [e]; exact h
        · exact h3 j (by omega) hr
      · rw [if_neg h]
        exact ⟨_, rfl, Or.inr ⟨i, rfl, by omega, hR, by omega⟩⟩
    · have hR2 : (rb lv).testBit i = false := by
        have : ¬ (rb lv).testBit i = true := hR
        simpa using this
      rw [if_pos hR2, bnd_eq, nI_1]
      refine ih fu (i + 1) (by omega) (by omega) (fun j hj hr => ?_)
      by_cases e : j = i
      · rw [e] at hr; exact absurd hr hR
      · exact h3 j (by omega) hr
theorem untried_eq {I : MI} {L : ML} (hn : n ≤ 10) (hS : ChS I L cb n rb th mc mk tr) {lv : Nat} (hl : lv < n) : ∃ r, f_X0_untried cb (nI lv) I L = some r ∧ ((r = -1 ∧ ∀ j, tbR rb lv j = true → mc lv ≤ tr lv j) ∨ ∃ j, r = nI j ∧ j < n ∧ tbR rb lv j = true ∧ tr lv j < mc lv) := by
  unfold f_X0_untried
  refine untried_l hn hS hl (n - lv) FU lv (by omega) (by unfold FU; omega) (fun j hj hr => ?_)
  have := TabOK_ge hS.2.2.1 hl hr
  omega
end G2
