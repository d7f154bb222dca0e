/-! Growing keeps the earlier makers -/
section G5
variable {n cb : Nat}
theorem grow29m (hn : n ≤ 10) : ∀ M fu c rd I L rb th mc mk tr, 11 * muN rb tr 100 + c ≤ M → M < fu → rd + M < 100000 → c ≤ n → ChS I L cb n rb th mc mk tr → Cpl n rb mc tr c → ∃ I' L' rb' th' mc' mk' tr', f_X0_grow_29 cb fu (nI c + (-1)) (nI rd) I L = some (true, I', L') ∧ ChS I' L' cb n rb' th' mc' mk' tr' ∧ Cpl n rb' mc' tr' 0 ∧ FrC cb I L I' L' ∧ (mc' 0 = mc 0 ∧ mk' 0 = mk 0) := by
  intro M
  induction M with
  | zero =>
    intro fu c rd I L rb th mc mk tr h1 h2 h3 h4 hS hC
    obtain ⟨fu, rfl⟩ : ∃ m, fu = m + 1 := ⟨fu - 1, by omega⟩
    have hc : c = 0 := by omega
    subst hc
    rw [f_X0_grow_29, if_neg (by rw [show (100000 : Int32) = nI 100000 from rfl, q_le (by decide) (by omega)]; omega), nI_m1, if_pos (by decide)]
    exact ⟨I, L, rb, th, mc, mk, tr, rfl, hS, hC, FrC.refl, rfl, rfl⟩
  | succ M ih =>
    intro fu c rd I L rb th mc mk tr h1 h2 h3 h4 hS hC
    obtain ⟨fu, rfl⟩ : ∃ m, fu = m + 1 := ⟨fu - 1, by omega⟩
    rw [f_X0_grow_29, if_neg (by rw [show (100000 : Int32) = nI 100000 from rfl, q_le (by decide) (by omega)]; omega)]
    cases c with
    | zero =>
      rw [nI_m1, if_pos (by decide)]
      exact ⟨I, L, rb, th, mc, mk, tr, rfl, hS, hC, FrC.refl, rfl, rfl⟩
    | succ lv =>
      have hl : lv < n := by omega
      rw [pk_m1, if_neg (nI_pos (by omega))]
      obtain ⟨r, u1, u2⟩ := untried_eq hn hS hl
      rw [ob u1]
      rcases u2 with ⟨e, hall⟩ | ⟨pt, e, hpt, hp, hm⟩
      · rw [e, if_neg (by decide), bnd_eq, bnd_eq, nI_1]
        refine ih fu lv (rd + 1) I L rb th mc mk tr (by omega) (by omega) (by omega) (by omega) hS (fun k j a b d => ?_)
        by_cases e : k = lv
        · rw [e] at d ⊢; exact hall j d
        · exact hC k j (by omega) b d
      · rw [e, if_pos (nI_pos' (by omega))]
        obtain ⟨r, I1, L1, t1, t2, t3⟩ := tryMaker_eq hn hS hl hp hm hC
        rw [ob t1, bnd_eq]
        dsimp only
        have hmu := muN_max rb tr 100
        rcases t3 with ⟨e1, rb', th', tr', s1, s2, s3⟩ | ⟨e1, s1, s2, s3, s4, ⟨b, b1, b2, b3, b4, b5⟩, s6, s7⟩
        · rw [if_pos ((q_cmp0 _ _).mpr (by rw [e1, s1.1.2.1])), bnd_eq, nI_1]
          obtain ⟨I', L', rb2, th2, mc2, mk2, tr2, i1, i2, i3, i4, i5⟩ := ih fu (lv + 1) (rd + 1) I1 L1 rb' th' mc mk tr' (by omega) (by omega) (by omega) h4 s1 s2
          rw [pk_m1] at i1
          exact ⟨I', L', rb2, th2, mc2, mk2, tr2, i1, i2, i3, t2.trans i4, i5⟩
        · rw [if_neg (fun g => e1 ((tn_inj hn s3 (IsP_id n)).mp (((q_cmp0 _ _).mp g).trans s1.2.1))), nI_1]
          obtain ⟨I2, L2, j1, j2, j3, j4, j5, j6⟩ := insert_eq hn s1 s2 hS.2.2 b1 b2 hC s3 b3 b4 b5 (fun k hk => by rw [show k = lv by omega]; exact s6)
          rw [ob j1, bnd_eq, bnd_eq, nI_1]
          have hmc' : imc mc (lv + 1) b lv = mc lv := if_neg (by omega)
          have hmk' : imk mc mk (lv + 1) b r lv (tr lv pt) = mk lv (tr lv pt) := imk_old hm
          have hSub1 := Gen_Sub hn (fun a ha => (SK_P j4 (k := lv + 1) a ha).1)
          have g := GI_try j4 (lv := lv) (pt := pt) hl (by rw [hmc']; exact hm) (by rw [hmk']; exact s4) (by
            rw [hmk']
            refine s7 _ hSub1 (fun k j a1 a2 a3 => ?_) (Gen_in (SK_ins.mpr (Or.inr ⟨by omega, ⟨Nat.le_refl _, b1⟩, rfl⟩)))
            have := SK_down j4 (k := lv + 1) (k - (lv + 1)) (th k j)
            rw [show lv + 1 + (k - (lv + 1)) = k by omega] at this
            exact this (j4.2.2.1 k j a2 a3))
          have hmc15 := GI_mc hn hS.2.2 hl
          have hmt := mu_try (rb := rb) (tr := tr) hn hl hpt hp (by omega)
          obtain ⟨I', L', rb2, th2, mc2, mk2, tr2, i1, i2, i3, i4, i5⟩ := ih fu (b + 1) (rd + 1) I2 L2 rb th _ _ (itr tr lv pt (tr lv pt + 1)) (by omega) (by omega) (by omega) (by omega) ⟨j2, j3, g⟩ (fun k j a1 a2 a3 => by
            have := j5 k j a1 a2 a3
            unfold itr
            rw [if_neg (by omega)]
            exact this)
          rw [pk_m1] at i1
          refine ⟨I', L', rb2, th2, mc2, mk2, tr2, i1, i2, i3, (t2.trans j6).trans i4, ?_⟩
          refine ⟨i5.1.trans (if_neg (by omega)), i5.2.trans ?_⟩
          funext i
          exact if_neg (by omega)
end G5
