/-! Growing keeps the earlier makers: the contract -/
section G6
variable {cb n : Nat}
/-- a chain with its makers of level 0 -/
def ChK (I : MI) (L : ML) (cb n c0 : Nat) (mk0 : Nat → Nat → Nat) (G : PS) : Prop := ∃ rb th mc mk tr, ChS I L cb n rb th mc mk tr ∧ Cpl n rb mc tr 0 ∧ G = Gen n (SK n mc mk 0) ∧ mc 0 = c0 ∧ mk 0 = mk0
theorem ChK.g {I : MI} {L : ML} {c0 : Nat} {mk0 : Nat → Nat → Nat} {G : PS} (h : ChK I L cb n c0 mk0 G) : ChG I L cb n G := by
  obtain ⟨rb, th, mc, mk, tr, a, b, c, _⟩ := h
  exact ⟨rb, th, mc, mk, tr, a, b, c⟩
theorem ChG.k {I : MI} {L : ML} {G : PS} (h : ChG I L cb n G) : ∃ c0 mk0, ChK I L cb n c0 mk0 G := by
  obtain ⟨rb, th, mc, mk, tr, a, b, c⟩ := h
  exact ⟨_, _, rb, th, mc, mk, tr, a, b, c, rfl, rfl⟩
theorem grow_mk {I : MI} {L : ML} {G : PS} {p : Nat → Nat} {c0 : Nat} {mk0 : Nat → Nat → Nat} (hn : n ≤ 10) (h : ChK I L cb n c0 mk0 G) (hp : IsP n p) {c : Bool} (hc : c = true ↔ ¬ G p) : ∃ I' L' c1 mk1, f_X0_grow cb (tn n p) I L = some (c, I', L') ∧ ChK I' L' cb n c1 mk1 (Gen n (fun q => G q ∨ q = p)) ∧ FrC cb I L I' L' ∧ c0 ≤ c1 ∧ ∀ i, i < c0 → mk1 i = mk0 i := by
  obtain ⟨rb, th, mc, mk, tr, hS, hC, e, ec, ek⟩ := h
  subst e ec ek
  have hmem := GI_SM hn hS.2.2 hC (Nat.zero_le n)
  have hm0 := hmem 0 (Nat.le_refl _) (Nat.zero_le n)
  have hf0 : ∀ i, i < n - n → p i = i := fun i hi => by omega
  have o := sft_ok hn hS.2.2.1 n (Nat.le_refl n) p hp hf0
  have o2 := sft_id hn hS.2.2.1 (Nat.le_refl n) hp hf0
  have o3 := sft_moved hn hS.2.2.1 (Nat.le_refl n) hp hf0
  have hs := sift_eq hn hS.1 hS.2.2.1 hp (Nat.zero_le n) (fun i hi => by omega)
  rw [show n - 0 = n from rfl, nI_0] at hs
  have hSub := Gen_Sub hn (fun a ha => (SK_P hS.2.2 (k := 0) a ha).1)
  unfold f_X0_grow
  rw [ob hs, hS.1.2.1]
  by_cases hid : (sft n (tbR rb) th n p).2 = idp
  · rw [if_pos ((q_cmp0 _ _).mpr (by rw [hid]))]
    have hG : Gen n (SK n mc mk 0) p := (hm0 p).mp (o.2.2.2.2.2.mpr (o2.mp hid))
    have : c = false := by
      cases h : c
      · rfl
      · exact absurd hG (hc.mp h)
    rw [this]
    have eG : Gen n (fun q => Gen n (SK n mc mk 0) q ∨ q = p) = Gen n (SK n mc mk 0) := by
      funext q
      exact propext ⟨fun g => g _ hSub (fun a ha => ha.elim id (fun e => e ▸ hG)), fun g => Gen_in (Or.inl g)⟩
    exact ⟨I, L, _, _, rfl, ⟨rb, th, mc, mk, tr, hS, hC, eG, rfl, rfl⟩, FrC.refl, Nat.le_refl _, fun _ _ => rfl⟩
  · rw [if_neg (fun g => hid ((tn_inj hn o.1 (IsP_id n)).mp ((q_cmp0 _ _).mp g)))]
    have hlt : (sft n (tbR rb) th n p).1 < n := by
      have h1 := o.2.2.1
      have h2 : ¬ (sft n (tbR rb) th n p).1 = n := fun g => hid (o2.mpr g)
      omega
    have hnG : ¬ Gen n (SK n mc mk 0) p := fun g => by
      have := o.2.2.2.2.2.mp ((hm0 p).mpr g)
      omega
    have : c = true := hc.mpr hnG
    rw [this]
    have hno : ∀ k, 0 ≤ k → k ≤ (sft n (tbR rb) th n p).1 → ¬ SM n (RB (tbR rb)) th (n - k) (sft n (tbR rb) th n p).2 := fun k _ h2 h3 => by
      have h4 := SM_down hn hS.2.2.1 (d := n - (sft n (tbR rb) th n p).1) (n - k) (by omega) (by omega) h3 (fun i hi => o.2.2.2.1 i (by omega))
      rw [show n - (sft n (tbR rb) th n p).1 = (n - (sft n (tbR rb) th n p).1 - 1) + 1 by omega] at h4
      have h5 := h4.1
      rw [show n - (n - (sft n (tbR rb) th n p).1 - 1 + 1) = (sft n (tbR rb) th n p).1 by omega] at h5
      have h6 := o.2.2.2.2.1 hlt
      have h7 : tbR rb (sft n (tbR rb) th n p).1 ((sft n (tbR rb) th n p).2 (sft n (tbR rb) th n p).1) = true := h5
      rw [h6] at h7; cases h7
    obtain ⟨I2, L2, j1, j2, j3, j4, j5, j6⟩ := insert_eq hn hS.1 hS.2.1 hS.2.2 (Nat.zero_le _) hlt hC o.1 o.2.2.2.1 (o3 hlt) hno (fun k hk => by omega)
    rw [nI_0] at j1
    rw [ob j1, bnd_eq]
    have hmu := muN_max rb tr 100
    obtain ⟨I', L', rb2, th2, mc2, mk2, tr2, i1, i2, i3, i4, i5⟩ := grow29m (cb := cb) hn (11 * muN rb tr 100 + ((sft n (tbR rb) th n p).1 + 1)) FU ((sft n (tbR rb) th n p).1 + 1) 0 I2 L2 rb th _ _ tr (Nat.le_refl _) (by unfold FU; omega) (by omega) (by omega) ⟨j2, j3, j4⟩ j5
    rw [pk_m1, nI_0] at i1
    have hSKe : SK n mc2 mk2 0 = SK n (imc mc 0 (sft n (tbR rb) th n p).1) (imk mc mk 0 (sft n (tbR rb) th n p).1 (sft n (tbR rb) th n p).2) 0 := by unfold SK; rw [i5.1, i5.2]
    refine ⟨I', L', _, _, i1, ⟨rb2, th2, mc2, mk2, tr2, i2, i3, ?_, rfl, rfl⟩, j6.trans i4, ?_, ?_⟩
    case refine_2 => rw [i5.1]; unfold imc; split <;> omega
    case refine_3 => intro i hi; rw [i5.2]; exact if_neg (fun g => by omega)
    rw [hSKe]
    have hins : ∀ s, SK n (imc mc 0 (sft n (tbR rb) th n p).1) (imk mc mk 0 (sft n (tbR rb) th n p).1 (sft n (tbR rb) th n p).2) 0 s ↔ (SK n mc mk 0 s ∨ s = (sft n (tbR rb) th n p).2) := fun s => SK_ins.trans ⟨fun h => h.imp id (fun g => g.2.2), fun h => h.imp id (fun g => ⟨by omega, ⟨Nat.le_refl _, Nat.zero_le _⟩, g⟩)⟩
    have hinH : ∀ H : PS, Sub n H → (∀ a, SK n mc mk 0 a → H a) → (H (sft n (tbR rb) th n p).2 ↔ H p) := fun H hH hE => sft_in hn hS.2.2.1 hH n (Nat.le_refl n) (fun k j _ h2 h3 => by
      have := SK_down hS.2.2 (k := 0) k (th k j)
      rw [Nat.zero_add] at this
      exact this (hS.2.2.2.2.1 k j h2 h3) H hH hE) p hp hf0
    funext q
    refine propext ⟨fun g H hH hS' => g H hH (fun a ha => ?_), fun g H hH hS' => g H hH (fun a ha => ?_)⟩
    · have hE : ∀ a, SK n mc mk 0 a → H a := fun a ha => hS' a ((hins a).mpr (Or.inl ha))
      rcases ha with ha | ha
      · exact ha H hH hE
      · rw [ha]; exact (hinH H hH hE).mp (hS' _ ((hins _).mpr (Or.inr rfl)))
    · have hE : ∀ a, SK n mc mk 0 a → H a := fun a ha => hS' a (Or.inl (Gen_in ha))
      rcases (hins a).mp ha with ha | ha
      · exact hE a ha
      · rw [ha]; exact (hinH H hH hE).mpr (hS' p (Or.inr rfl))
end G6
