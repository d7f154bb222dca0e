/-! grow -/
section G4
variable {cb n : Nat}
theorem m1_lt : ((-1 : Int32) < 0) = True := eq_true (by decide)
theorem nI_m1 : nI 0 + (-1) = -1 := by decide
theorem grow29 (hn : n ≤ 10) : ∀ M fu c rd I L rb th mc mk tr, 11 * muN rb tr 100 + c ≤ M → M < fu → rd + M < 100000 → c ≤ n → ChS I L cb n rb th mc mk tr → Cpl n rb mc tr c → ∃ I' L' rb' th' mc' mk' tr', f_X0_grow_29 cb fu (nI c + (-1)) (nI rd) I L = some (true, I', L') ∧ ChS I' L' cb n rb' th' mc' mk' tr' ∧ Cpl n rb' mc' tr' 0 ∧ FrC cb I L I' L' ∧ SK n mc' mk' 0 = SK n mc mk 0 := by
  intro M
  induction M with
  | zero =>
    intro fu c rd I L rb th mc mk tr h1 h2 h3 h4 hS hC
    obtain ⟨fu, rfl⟩ : ∃ m, fu = m + 1 := ⟨fu - 1, by omega⟩
    have hc : c = 0 := by omega
    subst hc
    rw [f_X0_grow_29, if_neg (by rw [show (100000 : Int32) = nI 100000 from rfl, q_le (by decide) (by omega)]; omega), nI_m1, if_pos (by decide)]
    exact ⟨I, L, rb, th, mc, mk, tr, rfl, hS, hC, FrC.refl, rfl⟩
  | succ M ih =>
    intro fu c rd I L rb th mc mk tr h1 h2 h3 h4 hS hC
    obtain ⟨fu, rfl⟩ : ∃ m, fu = m + 1 := ⟨fu - 1, by omega⟩
    rw [f_X0_grow_29, if_neg (by rw [show (100000 : Int32) = nI 100000 from rfl, q_le (by decide) (by omega)]; omega)]
    cases c with
    | zero =>
      rw [nI_m1, if_pos (by decide)]
      exact ⟨I, L, rb, th, mc, mk, tr, rfl, hS, hC, FrC.refl, rfl⟩
    | succ lv =>
      have hl : lv < n := by omega
      rw [pk_m1, if_neg (nI_pos (by omega))]
      obtain ⟨r, u1, u2⟩ := untried_eq hn hS hl
      rw [ob u1]
      rcases u2 with ⟨e, hall⟩ | ⟨pt, e, hpt, hp, hm⟩
      · rw [e, if_neg (by decide), bnd_eq, bnd_eq, nI_1]
        refine ih fu lv (rd + 1) I L rb th mc mk tr (by omega) (by omega) (by omega) (by omega) hS (fun k j a b d => ?_)
        by_cases e : k = lv
        · rw [e] at d ⊢; exact hall j d
        · exact hC k j (by omega) b d
      · rw [e, if_pos (nI_pos' (by omega))]
        obtain ⟨r, I1, L1, t1, t2, t3⟩ := tryMaker_eq hn hS hl hp hm hC
        rw [ob t1, bnd_eq]
        dsimp only
        have hmu := muN_max rb tr 100
        rcases t3 with ⟨e1, rb', th', tr', s1, s2, s3⟩ | ⟨e1, s1, s2, s3, s4, ⟨b, b1, b2, b3, b4, b5⟩, s6, s7⟩
        · rw [if_pos ((q_cmp0 _ _).mpr (by rw [e1, s1.1.2.1])), bnd_eq, nI_1]
          obtain ⟨I', L', rb2, th2, mc2, mk2, tr2, i1, i2, i3, i4, i5⟩ := ih fu (lv + 1) (rd + 1) I1 L1 rb' th' mc mk tr' (by omega) (by omega) (by omega) h4 s1 s2
          rw [pk_m1] at i1
          exact ⟨I', L', rb2, th2, mc2, mk2, tr2, i1, i2, i3, t2.trans i4, i5⟩
        · rw [if_neg (fun g => e1 ((tn_inj hn s3 (IsP_id n)).mp (((q_cmp0 _ _).mp g).trans s1.2.1))), nI_1]
          obtain ⟨I2, L2, j1, j2, j3, j4, j5, j6⟩ := insert_eq hn s1 s2 hS.2.2 b1 b2 hC s3 b3 b4 b5 (fun k hk => by rw [show k = lv by omega]; exact s6)
          rw [ob j1, bnd_eq, bnd_eq, nI_1]
          have hmc' : imc mc (lv + 1) b lv = mc lv := if_neg (by omega)
          have hmk' : imk mc mk (lv + 1) b r lv (tr lv pt) = mk lv (tr lv pt) := imk_old hm
          have hSub1 := Gen_Sub hn (fun a ha => (SK_P j4 (k := lv + 1) a ha).1)
          have g := GI_try j4 (lv := lv) (pt := pt) hl (by rw [hmc']; exact hm) (by rw [hmk']; exact s4) (by
            rw [hmk']
            refine s7 _ hSub1 (fun k j a1 a2 a3 => ?_) (Gen_in (SK_ins.mpr (Or.inr ⟨by omega, ⟨Nat.le_refl _, b1⟩, rfl⟩)))
            have := SK_down j4 (k := lv + 1) (k - (lv + 1)) (th k j)
            rw [show lv + 1 + (k - (lv + 1)) = k by omega] at this
            exact this (j4.2.2.1 k j a2 a3))
          have hmc15 := GI_mc hn hS.2.2 hl
          have hmt := mu_try (rb := rb) (tr := tr) hn hl hpt hp (by omega)
          obtain ⟨I', L', rb2, th2, mc2, mk2, tr2, i1, i2, i3, i4, i5⟩ := ih fu (b + 1) (rd + 1) I2 L2 rb th _ _ (itr tr lv pt (tr lv pt + 1)) (by omega) (by omega) (by omega) (by omega) ⟨j2, j3, g⟩ (fun k j a1 a2 a3 => by
            have := j5 k j a1 a2 a3
            unfold itr
            rw [if_neg (by omega)]
            exact this)
          rw [pk_m1] at i1
          refine ⟨I', L', rb2, th2, mc2, mk2, tr2, i1, i2, i3, (t2.trans j6).trans i4, ?_⟩
          rw [i5]
          funext s
          refine propext (SK_ins.trans ⟨fun h => h.resolve_right (fun g => by have := g.2.1.1; omega), Or.inl⟩)
/-- a chain holds a group -/
def ChG (I : MI) (L : ML) (cb n : Nat) (G : PS) : Prop := ∃ rb th mc mk tr, ChS I L cb n rb th mc mk tr ∧ Cpl n rb mc tr 0 ∧ G = Gen n (SK n mc mk 0)
theorem grow_eq {I : MI} {L : ML} {G : PS} {p : Nat → Nat} (hn : n ≤ 10) (h : ChG I L cb n G) (hp : IsP n p) {c : Bool} (hc : c = true ↔ ¬ G p) : ∃ I' L', f_X0_grow cb (tn n p) I L = some (c, I', L') ∧ ChG I' L' cb n (Gen n (fun q => G q ∨ q = p)) ∧ FrC cb I L I' L' := by
  obtain ⟨rb, th, mc, mk, tr, hS, hC, e⟩ := h
  subst e
  have hmem := GI_SM hn hS.2.2 hC (Nat.zero_le n)
  have hm0 := hmem 0 (Nat.le_refl _) (Nat.zero_le n)
  have hf0 : ∀ i, i < n - n → p i = i := fun i hi => by omega
  have o := sft_ok hn hS.2.2.1 n (Nat.le_refl n) p hp hf0
  have o2 := sft_id hn hS.2.2.1 (Nat.le_refl n) hp hf0
  have o3 := sft_moved hn hS.2.2.1 (Nat.le_refl n) hp hf0
  have hs := sift_eq hn hS.1 hS.2.2.1 hp (Nat.zero_le n) (fun i hi => by omega)
  rw [show n - 0 = n from rfl, nI_0] at hs
  have hSub := Gen_Sub hn (fun a ha => (SK_P hS.2.2 (k := 0) a ha).1)
  unfold f_X0_grow
  rw [ob hs, hS.1.2.1]
  by_cases hid : (sft n (tbR rb) th n p).2 = idp
  · rw [if_pos ((q_cmp0 _ _).mpr (by rw [hid]))]
    have hG : Gen n (SK n mc mk 0) p := (hm0 p).mp (o.2.2.2.2.2.mpr (o2.mp hid))
    have : c = false := by
      cases h : c
      · rfl
      · exact absurd hG (hc.mp h)
    rw [this]
    have eG : Gen n (fun q => Gen n (SK n mc mk 0) q ∨ q = p) = Gen n (SK n mc mk 0) := by
      funext q
      exact propext ⟨fun g => g _ hSub (fun a ha => ha.elim id (fun e => e ▸ hG)), fun g => Gen_in (Or.inl g)⟩
    exact ⟨I, L, rfl, ⟨rb, th, mc, mk, tr, hS, hC, eG⟩, FrC.refl⟩
  · rw [if_neg (fun g => hid ((tn_inj hn o.1 (IsP_id n)).mp ((q_cmp0 _ _).mp g)))]
    have hlt : (sft n (tbR rb) th n p).1 < n := by
      have h1 := o.2.2.1
      have h2 : ¬ (sft n (tbR rb) th n p).1 = n := fun g => hid (o2.mpr g)
      omega
    have hnG : ¬ Gen n (SK n mc mk 0) p := fun g => by
      have := o.2.2.2.2.2.mp ((hm0 p).mpr g)
      omega
    have : c = true := hc.mpr hnG
    rw [this]
    have hno : ∀ k, 0 ≤ k → k ≤ (sft n (tbR rb) th n p).1 → ¬ SM n (RB (tbR rb)) th (n - k) (sft n (tbR rb) th n p).2 := fun k _ h2 h3 => by
      have h4 := SM_down hn hS.2.2.1 (d := n - (sft n (tbR rb) th n p).1) (n - k) (by omega) (by omega) h3 (fun i hi => o.2.2.2.1 i (by omega))
      rw [show n - (sft n (tbR rb) th n p).1 = (n - (sft n (tbR rb) th n p).1 - 1) + 1 by omega] at h4
      have h5 := h4.1
      rw [show n - (n - (sft n (tbR rb) th n p).1 - 1 + 1) = (sft n (tbR rb) th n p).1 by omega] at h5
      have h6 := o.2.2.2.2.1 hlt
      have h7 : tbR rb (sft n (tbR rb) th n p).1 ((sft n (tbR rb) th n p).2 (sft n (tbR rb) th n p).1) = true := h5
      rw [h6] at h7; cases h7
    obtain ⟨I2, L2, j1, j2, j3, j4, j5, j6⟩ := insert_eq hn hS.1 hS.2.1 hS.2.2 (Nat.zero_le _) hlt hC o.1 o.2.2.2.1 (o3 hlt) hno (fun k hk => by omega)
    rw [nI_0] at j1
    rw [ob j1, bnd_eq]
    have hmu := muN_max rb tr 100
    obtain ⟨I', L', rb2, th2, mc2, mk2, tr2, i1, i2, i3, i4, i5⟩ := grow29 (cb := cb) hn (11 * muN rb tr 100 + ((sft n (tbR rb) th n p).1 + 1)) FU ((sft n (tbR rb) th n p).1 + 1) 0 I2 L2 rb th _ _ tr (Nat.le_refl _) (by unfold FU; omega) (by omega) (by omega) ⟨j2, j3, j4⟩ j5
    rw [pk_m1, nI_0] at i1
    refine ⟨I', L', i1, ⟨rb2, th2, mc2, mk2, tr2, i2, i3, ?_⟩, j6.trans i4⟩
    rw [i5]
    have hins : ∀ s, SK n (imc mc 0 (sft n (tbR rb) th n p).1) (imk mc mk 0 (sft n (tbR rb) th n p).1 (sft n (tbR rb) th n p).2) 0 s ↔ (SK n mc mk 0 s ∨ s = (sft n (tbR rb) th n p).2) := fun s => SK_ins.trans ⟨fun h => h.imp id (fun g => g.2.2), fun h => h.imp id (fun g => ⟨by omega, ⟨Nat.le_refl _, Nat.zero_le _⟩, g⟩)⟩
    have hinH : ∀ H : PS, Sub n H → (∀ a, SK n mc mk 0 a → H a) → (H (sft n (tbR rb) th n p).2 ↔ H p) := fun H hH hE => sft_in hn hS.2.2.1 hH n (Nat.le_refl n) (fun k j _ h2 h3 => by
      have := SK_down hS.2.2 (k := 0) k (th k j)
      rw [Nat.zero_add] at this
      exact this (hS.2.2.2.2.1 k j h2 h3) H hH hE) p hp hf0
    funext q
    refine propext ⟨fun g H hH hS' => g H hH (fun a ha => ?_), fun g H hH hS' => g H hH (fun a ha => ?_)⟩
    · have hE : ∀ a, SK n mc mk 0 a → H a := fun a ha => hS' a ((hins a).mpr (Or.inl ha))
      rcases ha with ha | ha
      · exact ha H hH hE
      · rw [ha]; exact (hinH H hH hE).mp (hS' _ ((hins _).mpr (Or.inr rfl)))
    · have hE : ∀ a, SK n mc mk 0 a → H a := fun a ha => hS' a (Or.inl (Gen_in ha))
      rcases (hins a).mp ha with ha | ha
      · exact hE a ha
      · rw [ha]; exact (hinH H hH hE).mpr (hS' p (Or.inr rfl))
end G4
