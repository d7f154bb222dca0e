/-! The reference's tables grow and close -/
def Ent (I : MI) (s : Nat) (T : Nat → Nat → Nat → Nat) : PS := fun q => ∃ k j, k < 10 ∧ j < 10 ∧ RT I s k j = true ∧ q = T k j
def FrS (s : Nat) (I I' : MI) : Prop := (∀ i, (i < 100 * s ∨ 100 * s + 100 ≤ i) → I' 52 i = I 52 i) ∧ (∀ i, (i < 1000 * s ∨ 1000 * s + 1000 ≤ i) → I' 53 i = I 53 i) ∧ (∀ i, I' 52 i = I 52 i ∨ I' 52 i = 0 ∨ I' 52 i = 1)
theorem FrS.refl {s : Nat} {I : MI} : FrS s I I := ⟨fun _ _ => rfl, fun _ _ => rfl, fun _ => Or.inl rfl⟩
theorem FrS.trans {s : Nat} {I I' I'' : MI} (h : FrS s I I') (h2 : FrS s I' I'') : FrS s I I'' := ⟨fun i hi => (h2.1 i hi).trans (h.1 i hi), fun i hi => (h2.2.1 i hi).trans (h.2.1 i hi), fun i => (h2.2.2 i).elim (fun e => by rw [e]; exact h.2.2 i) Or.inr⟩
theorem FrS.of {s : Nat} {I I' : MI} (h1 : I' 52 = I 52) (h2 : I' 53 = I 53) : FrS s I I' := ⟨fun i _ => by rw [h1], fun i _ => by rw [h2], fun i => Or.inl (by rw [h1])⟩
def SC : List Nat := [52, 53, 54, 55, 56, 57, 58, 59]
/-- a slot's table has become another one, of the same group -/
def Grw (s : Nat) (I : MI) (T : Nat → Nat → Nat → Nat) (I' : MI) (T' : Nat → Nat → Nat → Nat) : Prop := SlotOK I' s T' ∧ Fr SC I I' ∧ FrS s I I' ∧ (∀ k j, k < 10 → j < 10 → RT I s k j = true → RT I' s k j = true) ∧ (∀ H : PS, Sub 10 H → ((∀ q, Ent I' s T' q → H q) ↔ (∀ q, Ent I s T q → H q)))
theorem Grw.refl {s : Nat} {I : MI} {T : Nat → Nat → Nat → Nat} (h : SlotOK I s T) : Grw s I T I T := ⟨h, Fr.refl, FrS.refl, fun _ _ _ _ h => h, fun _ _ => Iff.rfl⟩
theorem Grw.trans {s : Nat} {I I' I'' : MI} {T T' T'' : Nat → Nat → Nat → Nat} (h : Grw s I T I' T') (h2 : Grw s I' T' I'' T'') : Grw s I T I'' T'' :=
  ⟨h2.1, h.2.1.trans h2.2.1, h.2.2.1.trans h2.2.2.1, fun k j a b c => h2.2.2.2.1 k j a b (h.2.2.2.1 k j a b c), fun H hH => (h2.2.2.2.2 H hH).trans (h.2.2.2.2 H hH)⟩
theorem RT_fr {s : Nat} {I I' : MI} (h : I' 52 = I 52) : RT I' s = RT I s := by funext k j; unfold RT; rw [h]
theorem Ent_fr {s : Nat} {I I' : MI} {T : Nat → Nat → Nat → Nat} (h : I' 52 = I 52) : Ent I' s T = Ent I s T := by funext q; unfold Ent; rw [RT_fr h]
theorem Grw_fr {s : Nat} {I I' : MI} {T : Nat → Nat → Nat → Nat} (hS : SlotOK I s T) (h : Fr [54, 55, 56, 57, 58, 59] I I') : Grw s I T I' T := by
  have h1 := h 52 (by decide)
  have h2 := h 53 (by decide)
  refine ⟨hS.fr h1 h2, h.mono (by decide), FrS.of h1 h2, fun k j _ _ hr => by rw [RT_fr h1]; exact hr, fun H _ => by rw [Ent_fr h1]⟩
def cntN (R : Nat → Nat → Bool) : Nat → Nat
  | 0 => 0
  | c + 1 => cntN R c + (R (c / 10) (c % 10)).toNat
theorem cntN_le {R R' : Nat → Nat → Bool} (h : ∀ k j, k < 10 → j < 10 → R k j = true → R' k j = true) : ∀ c, c ≤ 100 → cntN R c ≤ cntN R' c := by
  intro c
  induction c with
  | zero => intro _; exact Nat.le_refl _
  | succ c ih =>
    intro hc
    have h1 := ih (by omega)
    have h2 := h (c / 10) (c % 10) (by omega) (by omega)
    show cntN R c + (R (c / 10) (c % 10)).toNat ≤ cntN R' c + (R' (c / 10) (c % 10)).toNat
    cases hr : R (c / 10) (c % 10)
    · simp only [Bool.toNat_false]; omega
    · rw [h2 hr]; omega
theorem cntN_lt {R R' : Nat → Nat → Bool} (h : ∀ k j, k < 10 → j < 10 → R k j = true → R' k j = true) {k j : Nat} (hk : k < 10) (hj : j < 10) (h1 : R k j = false) (h2 : R' k j = true) : ∀ c, c ≤ 100 → 10 * k + j < c → cntN R c < cntN R' c := by
  intro c
  induction c with
  | zero => intro _ h; omega
  | succ c ih =>
    intro hc hlt
    show cntN R c + (R (c / 10) (c % 10)).toNat < cntN R' c + (R' (c / 10) (c % 10)).toNat
    by_cases e : 10 * k + j = c
    · have e1 : c / 10 = k := by omega
      have e2 : c % 10 = j := by omega
      rw [e1, e2, h1, h2]
      have := cntN_le h c (by omega)
      simp only [Bool.toNat_false, Bool.toNat_true]; omega
    · have h3 := ih (by omega) (by omega)
      have h4 := h (c / 10) (c % 10) (by omega) (by omega)
      cases hr : R (c / 10) (c % 10)
      · simp only [Bool.toNat_false]; omega
      · rw [h4 hr]; omega
theorem cntN_max (R : Nat → Nat → Bool) : ∀ c, cntN R c ≤ c := by
  intro c
  induction c with
  | zero => exact Nat.le_refl _
  | succ c ih =>
    show cntN R c + (R (c / 10) (c % 10)).toNat ≤ c + 1
    have : (R (c / 10) (c % 10)).toNat ≤ 1 := by cases R (c / 10) (c % 10) <;> decide
    omega
section TC
variable {I : MI} {L : ML} {p : Nat → Nat} {s : Nat} {T : Nat → Nat → Nat → Nat}
theorem SM_of_Ent (hS : SlotOK I s T) {k j : Nat} (hk : k < 10) (h : RT I s k j = true) : SM 10 (RB (RT I s)) T 10 (T k j) := by
  have := (SM_dec (Nat.le_refl 10) hS.1 (d := 10 - k - 1) (by omega) (p := T k j)).mpr ⟨j, idp, by rw [show 10 - (10 - k - 1 + 1) = k by omega]; exact h, SM_id (Nat.le_refl 10) hS.1 (by omega), by rw [id_cp, show 10 - (10 - k - 1 + 1) = k by omega]⟩
  exact SM_le (Nat.le_refl 10) hS.1 (by omega) (Nat.le_refl 10) this
theorem SM_in (hS : SlotOK I s T) {H : PS} (hH : Sub 10 H) (hE : ∀ q, Ent I s T q → H q) (hp : IsP 10 p) (h : SM 10 (RB (RT I s)) T 10 p) : H p := by
  have h1 := (sft_ok (Nat.le_refl 10) hS.1 10 (Nat.le_refl 10) p hp (fun i hi => by omega)).2.2.2.2.2.mp h
  have h2 := (sft_id (Nat.le_refl 10) hS.1 (Nat.le_refl 10) hp (fun i hi => by omega)).mpr h1
  refine (sft_in (Nat.le_refl 10) hS.1 hH 10 (Nat.le_refl 10) (fun k j _ hk hr => hE _ ⟨k, j, hk, ((hS.1 k hk).2 j hr).1, hr, rfl⟩) p hp (fun i hi => by omega)).mp ?_
  rw [h2]; exact hH.2.1
theorem isMember_eq (hs : s < 4) {a : Nat} (ha : a ≠ 56) (hS : SlotOK I s T) (hr : Row I a 0 p) (hp : IsP 10 p) {c : Bool} (hc : c = true ↔ SM 10 (RB (RT I s)) T 10 p) : ∃ I', f_X8_isMember (nI s) a I L = some (c, I', L) ∧ Fr [54, 55, 56] I I' := by
  obtain ⟨I', h1, h2, h3⟩ := sifts_eq (L := L) hs ha hS hr hp
  have ho := sft_ok (Nat.le_refl 10) hS.1 10 (Nat.le_refl 10) p hp (fun i hi => by omega)
  unfold f_X8_isMember
  rw [ob h1, show (10 : Int32) = nI 10 from rfl, ifc (q_eq (by have := ho.2.2.1; omega) (by decide))]
  refine ⟨I', ?_, h2⟩
  have hc2 := hc.trans ho.2.2.2.2.2
  by_cases h : (sft 10 (RT I s) T 10 p).1 = 10
  · rw [if_pos h, hc2.mpr h]
  · rw [if_neg h]
    have : ¬ c = true := fun g => h (hc2.mp g)
    rw [show c = false by simpa using this]
theorem comesTo_eq (hs : s < 4) {a : Nat} (ha : a ≠ 56) (hS : SlotOK I s T) (hr : Row I a 0 p) (hp : IsP 10 p) : ∃ c I' T', f_X8_comesTo (nI s) a I L = some (c, I', L) ∧ SlotOK I' s T' ∧ Fr SC I I' ∧ FrS s I I' ∧ (∀ k j, k < 10 → j < 10 → RT I s k j = true → RT I' s k j = true) ∧ (∀ H : PS, Sub 10 H → ((∀ q, Ent I' s T' q → H q) ↔ ((∀ q, Ent I s T q → H q) ∧ H p))) ∧ (c = false → RT I' s = RT I s ∧ T' = T ∧ SM 10 (RB (RT I s)) T 10 p) ∧ (c = true → cntN (RT I s) 100 < cntN (RT I' s) 100) := by
  obtain ⟨I1, h1, h2, h3⟩ := sifts_eq (L := L) hs ha hS hr hp
  obtain ⟨o1, o2, o3, o4, o5, o6⟩ := sft_ok (Nat.le_refl 10) hS.1 10 (Nat.le_refl 10) p hp (fun i hi => by omega)
  have hin := fun (H : PS) (hH : Sub 10 H) (hE : ∀ q, Ent I s T q → H q) => sft_in (Nat.le_refl 10) hS.1 hH 10 (Nat.le_refl 10) (fun k j _ hk hr => hE _ ⟨k, j, hk, ((hS.1 k hk).2 j hr).1, hr, rfl⟩) p hp (fun i hi => by omega)
  unfold f_X8_comesTo
  rw [ob h1]
  rw [bnd_eq, show (10 : Int32) = nI 10 from rfl, ifc (q_eq (by omega) (by decide))]
  by_cases h : (sft 10 (RT I s) T 10 p).1 = 10
  · rw [if_pos h]
    have e52 := h2 52 (by decide)
    have e53 := h2 53 (by decide)
    refine ⟨false, I1, T, rfl, hS.fr e52 e53, h2.mono (by decide), FrS.of e52 e53, fun k j _ _ hr => by rw [RT_fr e52]; exact hr, fun H hH => ?_, fun _ => ⟨RT_fr e52, rfl, o6.mpr h⟩, fun g => by cases g⟩
    rw [Ent_fr e52]
    exact ⟨fun g => ⟨g, SM_in hS hH g hp (o6.mpr h)⟩, fun g => g.1⟩
  · rw [if_neg h]
    have o5 := o5 (by omega)
    revert h3 o1 o2 o3 o4 o5 o6 hin h
    generalize sft 10 (RT I s) T 10 p = kr
    obtain ⟨k, r⟩ := kr
    intro h3 o1 o2 o3 o4 o6 hin h o5
    have h3 : Row I1 56 0 r := h3
    have o1 : IsP 10 r := o1
    have o4 : ∀ i, i < k → r i = i := o4
    have hk : k < 10 := by have : k ≤ 10 := o3; have : ¬ k = 10 := h; omega
    have hj : r k < 10 := o1.1 k hk
    have o5 : RT I s k (r k) = false := o5
    have hin : ∀ (H : PS), Sub 10 H → (∀ q, Ent I s T q → H q) → (H r ↔ H p) := hin
    have hrow := Row0 h3 hk
    show ∃ c I' T', chk (inb (nI k) 10) (chk (inb (((100 * nI s) + (10 * nI k)) + (I1 56 (ix (nI k)))) 400) (bnd (up2 I1 52 (ix (((100 * nI s) + (10 * nI k)) + (I1 56 (ix (nI k))))) (vp_nar .boolean 1)) (fun I_3 => chk (inb (nI k) 10) (Option.bind (f_X8_copies 56 10 0 53 4000 (((1000 * nI s) + (100 * nI k)) + (10 * (I_3 56 (ix (nI k))))) I_3 L) (fun q_4 => some (true, q_4.1, q_4.2)))))) = some (c, I', L) ∧ _
    have e56 : ∀ x v, up2 I1 52 x v 56 = I1 56 := fun x v => up2_ne (by decide)
    have hone : vp_nar .boolean 1 = 1 := by decide
    rw [q_chk hk (by decide), q_ix (by omega), hrow, ad_100, q_chk (by omega) (by decide), bnd_eq, q_ix (by omega), q_chk hk (by decide), e56, hrow, ad_1000, hone]
    have hr2 : Row (up2 I1 52 (100 * s + 10 * k + r k) 1) 56 0 r := Row_of (e56 _ _) h3
    rw [ob (copies0y hr2 (by decide) (by decide) (by omega) (by decide) (by decide))]
    -- the new table
    generalize hI2 : wp (up2 I1 52 (100 * s + 10 * k + r k) 1) 53 (1000 * s + 100 * k + 10 * r k) r = I2
    have g52 : ∀ i, i ≠ 100 * s + 10 * k + r k → I2 52 i = I 52 i := fun i hi => by
      rw [← hI2, wp_ne (by decide)]
      unfold up2
      rw [if_pos rfl, if_neg hi, h2 52 (by decide)]
    have g52' : I2 52 (100 * s + 10 * k + r k) = 1 := by
      rw [← hI2, wp_ne (by decide)]
      simp [up2]
    have g53 : ∀ i, (i < 1000 * s + 100 * k + 10 * r k ∨ 1000 * s + 100 * k + 10 * r k + 10 ≤ i) → I2 53 i = I 53 i := fun i hi => by
      rw [← hI2]
      unfold wp
      rw [wr_out hi, up2_ne (by decide), h2 53 (by decide)]
    have g53' : Row I2 53 (1000 * s + 100 * k + 10 * r k) r := by rw [← hI2]; exact Row_wp
    have eR : ∀ k' j', k' < 10 → RT I2 s k' j' = (if k' = k ∧ j' = r k then true else RT I s k' j') := by
      intro k' j' hk'
      by_cases hj' : j' < 10
      · rw [RT_in hj', RT_in hj']
        by_cases e : k' = k ∧ j' = r k
        · rw [if_pos e, e.1, e.2, g52']; decide
        · rw [if_neg e, g52 _ (by omega)]
      · have a1 : RT I2 s k' j' = false := by
          cases h : RT I2 s k' j'
          · rfl
          · exact absurd (RT_lt h) hj'
        have a2 : RT I s k' j' = false := by
          cases h : RT I s k' j'
          · rfl
          · exact absurd (RT_lt h) hj'
        rw [a1, a2, if_neg (by omega)]
    have hmono : ∀ k' j', k' < 10 → j' < 10 → RT I s k' j' = true → RT I2 s k' j' = true := fun k' j' hk' _ hr' => by
      rw [eR k' j' hk']; split
      · rfl
      · exact hr'
    have hrk : r k ≠ k := fun e => by
      have h9 : RT I s k k = true := ((hS.1 k hk).1).1
      rw [e] at o5
      rw [o5] at h9; cases h9
    have hT2 : SlotOK I2 s (fun k' j' => if k' = k ∧ j' = r k then r else T k' j') := by
      refine ⟨fun k' hk' => ⟨⟨?_, ?_⟩, fun j' hr' => ?_⟩, fun k' j' hk' hj' hr' => ?_⟩
      · exact hmono k' k' hk' hk' (hS.1 k' hk').1.1
      · show (if k' = k ∧ k' = r k then r else T k' k') = idp
        rw [if_neg (fun e => hrk (by omega))]
        exact (hS.1 k' hk').1.2
      · have hr' : RT I2 s k' j' = true := hr'
        rw [eR k' j' hk'] at hr'
        show j' < 10 ∧ IsP 10 (if k' = k ∧ j' = r k then r else T k' j') ∧ (∀ i, i < k' → (if k' = k ∧ j' = r k then r else T k' j') i = i) ∧ (if k' = k ∧ j' = r k then r else T k' j') k' = j'
        by_cases e : k' = k ∧ j' = r k
        · rw [if_pos e, e.1, e.2]
          exact ⟨hj, o1, o4, rfl⟩
        · rw [if_neg e] at hr' ⊢
          exact (hS.1 k' hk').2 j' hr'
      · rw [eR k' j' hk'] at hr'
        by_cases e : k' = k ∧ j' = r k
        · show Row I2 53 _ (if k' = k ∧ j' = r k then r else T k' j')
          rw [if_pos e, e.1, e.2]
          exact g53'
        · rw [if_neg e] at hr'
          show Row I2 53 _ (if k' = k ∧ j' = r k then r else T k' j')
          rw [if_neg e]
          intro i hi
          rw [g53 _ (by omega)]
          exact hS.2 k' j' hk' hj' hr' i hi
    refine ⟨true, I2, _, rfl, hT2, ?_, ?_, hmono, fun H hH => ?_, (fun g => by cases g), fun _ => cntN_lt hmono hk hj o5 (by rw [eR k _ hk, if_pos ⟨rfl, rfl⟩]) 100 (Nat.le_refl _) (by omega)⟩
    · intro q hq
      rw [← hI2, wp_ne (fun e => hq (by rw [e]; decide)), up2_ne (fun e => hq (by rw [e]; decide))]
      exact h2 q (fun e => hq (by revert e; simp [SC]; omega))
    · exact ⟨fun i hi => g52 i (by omega), fun i hi => g53 i (by omega), fun i => by
        by_cases e : i = 100 * s + 10 * k + r k
        · rw [e]; exact Or.inr (Or.inr g52')
        · exact Or.inl (g52 i e)⟩
    · constructor
      · intro g
        have g1 : ∀ q, Ent I s T q → H q := fun q ⟨k', j', hk', hj', hr', e⟩ => g q ⟨k', j', hk', hj', hmono k' j' hk' hj' hr', by
          show q = if k' = k ∧ j' = r k then r else T k' j'
          rw [if_neg]
          · exact e
          · intro e2
            rw [e2.1, e2.2, o5] at hr'; cases hr'⟩
        refine ⟨g1, (hin H hH g1).mp (g r ⟨k, r k, hk, hj, by rw [eR k _ hk, if_pos ⟨rfl, rfl⟩], ?_⟩)⟩
        show r = if k = k ∧ r k = r k then r else T k (r k)
        rw [if_pos ⟨rfl, rfl⟩]
      · intro ⟨g1, g2⟩ q ⟨k', j', hk', hj', hr', e⟩
        rw [eR k' j' hk'] at hr'
        have e : q = if k' = k ∧ j' = r k then r else T k' j' := e
        by_cases e2 : k' = k ∧ j' = r k
        · rw [if_pos e2] at e
          rw [e]; exact (hin H hH g1).mpr g2
        · rw [if_neg e2] at e hr'
          exact g1 q ⟨k', j', hk', hj', hr', e⟩
end TC
