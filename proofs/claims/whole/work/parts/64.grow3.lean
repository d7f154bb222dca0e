/-! tryMaker and grow -/
def muF (rb : Nat → Nat) (tr : Nat → Nat → Nat) (k j : Nat) : Nat := 16 - (if tbR rb k j = true then tr k j else 0)
def muN (rb : Nat → Nat) (tr : Nat → Nat → Nat) : Nat → Nat
  | 0 => 0
  | c + 1 => muN rb tr c + muF rb tr (c / 10) (c % 10)
theorem muN_le {rb rb' : Nat → Nat} {tr tr' : Nat → Nat → Nat} (h : ∀ k j, muF rb' tr' k j ≤ muF rb tr k j) : ∀ c, muN rb' tr' c ≤ muN rb tr c := by
  intro c
  induction c with
  | zero => exact Nat.le_refl _
  | succ c ih => exact Nat.add_le_add ih (h _ _)
theorem muN_lt {rb rb' : Nat → Nat} {tr tr' : Nat → Nat → Nat} (h : ∀ k j, muF rb' tr' k j ≤ muF rb tr k j) {k j : Nat} (hj : j < 10) (hlt : muF rb' tr' k j < muF rb tr k j) : ∀ c, 10 * k + j < c → muN rb' tr' c < muN rb tr c := by
  intro c
  induction c with
  | zero => intro h; omega
  | succ c ih =>
    intro hc
    by_cases e : c = 10 * k + j
    · have e1 : c / 10 = k := by omega
      have e2 : c % 10 = j := by omega
      show muN rb' tr' c + muF rb' tr' (c / 10) (c % 10) < muN rb tr c + muF rb tr (c / 10) (c % 10)
      rw [e1, e2]
      have := muN_le h c
      omega
    · have h1 := ih (by omega)
      have h2 := h (c / 10) (c % 10)
      show muN rb' tr' c + muF rb' tr' (c / 10) (c % 10) < muN rb tr c + muF rb tr (c / 10) (c % 10)
      omega
theorem muN_max (rb : Nat → Nat) (tr : Nat → Nat → Nat) : ∀ c, muN rb tr c ≤ 16 * c := by
  intro c
  induction c with
  | zero => exact Nat.le_refl _
  | succ c ih =>
    have : muF rb tr (c / 10) (c % 10) ≤ 16 := Nat.sub_le _ _
    show muN rb tr c + muF rb tr (c / 10) (c % 10) ≤ _
    omega
section G3
variable {cb n : Nat} {rb : Nat → Nat} {th : Nat → Nat → Nat → Nat} {mc : Nat → Nat} {mk : Nat → Nat → Nat → Nat} {tr : Nat → Nat → Nat}
theorem mu_try (hn : n ≤ 10) {lv pt : Nat} (hl : lv < n) (hpt : pt < n) (hp : tbR rb lv pt = true) (hm : tr lv pt < 16) : muN rb (itr tr lv pt (tr lv pt + 1)) 100 < muN rb tr 100 := by
  refine muN_lt (fun k j => ?_) (k := lv) (j := pt) (by omega) ?_ 100 (by omega)
  · unfold muF itr
    by_cases h : k = lv ∧ j = pt
    · rw [if_pos h, h.1, h.2]; split <;> omega
    · rw [if_neg h]; exact Nat.le_refl _
  · unfold muF itr
    rw [if_pos hp, if_pos hp, if_pos ⟨rfl, rfl⟩]
    omega
theorem mu_new (hn : n ≤ 10) {lv pt im : Nat} (hl : lv < n) (hpt : pt < n) (hp : tbR rb lv pt = true) (hi : tbR rb lv im = false) (hm : tr lv pt < 16) : muN (irb rb lv im) (itr (itr tr lv pt (tr lv pt + 1)) lv im 0) 100 < muN rb tr 100 := by
  have hpi : pt ≠ im := fun e => by rw [← e, hp] at hi; cases hi
  refine muN_lt (fun k j => ?_) (k := lv) (j := pt) (by omega) ?_ 100 (by omega)
  · unfold muF
    rw [irb_tb]
    by_cases h : k = lv ∧ j = im
    · rw [if_pos h, if_pos rfl, h.1, h.2, hi]
      have : itr (itr tr lv pt (tr lv pt + 1)) lv im 0 lv im = 0 := if_pos ⟨rfl, rfl⟩
      rw [this]; exact Nat.le_refl _
    · rw [if_neg h]
      have : itr (itr tr lv pt (tr lv pt + 1)) lv im 0 k j = itr tr lv pt (tr lv pt + 1) k j := if_neg h
      rw [this]
      unfold itr
      by_cases h : k = lv ∧ j = pt
      · rw [if_pos h, h.1, h.2]; split <;> omega
      · rw [if_neg h]; exact Nat.le_refl _
  · unfold muF
    have e1 : itr (itr tr lv pt (tr lv pt + 1)) lv im 0 lv pt = tr lv pt + 1 := by
      unfold itr
      rw [if_neg (fun g => hpi g.2), if_pos ⟨rfl, rfl⟩]
    have e2 : tbR (irb rb lv im) lv pt = true := by rw [irb_tb, if_neg (fun g => hpi g.2)]; exact hp
    rw [if_pos e2, if_pos hp, e1]
    omega
/-- what trying a maker does -/
theorem tryMaker_eq {I : MI} {L : ML} (hn : n ≤ 10) (hS : ChS I L cb n rb th mc mk tr) {lv pt : Nat} (hl : lv < n) (hp : tbR rb lv pt = true) (hm : tr lv pt < mc lv) (hc : Cpl n rb mc tr (lv + 1)) :
    ∃ r I' L', f_X0_tryMaker cb (nI lv) (nI pt) I L = some (tn n r, I', L') ∧ FrC cb I L I' L' ∧
    ((r = idp ∧ ∃ rb' th' tr', ChS I' L' cb n rb' th' mc mk tr' ∧ Cpl n rb' mc tr' (lv + 1) ∧ muN rb' tr' 100 < muN rb tr 100) ∨
     (r ≠ idp ∧ ChT I' L' cb n rb th ∧ ChM I' L' cb n rb mc mk (itr tr lv pt (tr lv pt + 1)) ∧ IsP n r ∧ tbR rb lv (mk lv (tr lv pt) pt) = true ∧ (∃ b, lv + 1 ≤ b ∧ b < n ∧ (∀ i, i < b → r i = i) ∧ r b ≠ b ∧ (∀ k, lv + 1 ≤ k → k ≤ b → ¬ SM n (RB (tbR rb)) th (n - k) r)) ∧ Gen n (SK n mc mk lv) r ∧
       (∀ H : PS, Sub n H → (∀ k j, lv + 1 ≤ k → k < n → tbR rb k j = true → H (th k j)) → H r → H (cp (cp (th lv pt) (mk lv (tr lv pt))) (iv (th lv (mk lv (tr lv pt) pt))))))) := by
  obtain ⟨hT, hM, hG⟩ := hS
  obtain ⟨m1, m2⟩ := hG.2.1 lv _ hl hm
  obtain ⟨t1, t2, t3, t4⟩ := (hG.1 lv hl).2 pt hp
  have hmc := GI_mc hn hG hl
  have him := m1.1 pt t1
  obtain ⟨c1, c2⟩ := hT.2.2.1 lv hl
  unfold f_X0_tryMaker
  rw [bnd_eq, ad_16, q_chk (by omega) (by decide), q_ix (by omega), hM.2.2 lv pt hl hp, ad_16, q_chk (by omega) (by decide), bnd_eq, q_ix (by omega), hM.2.1 lv _ hl hm, q_chk (by omega) (by decide), q_chk (by omega) (by decide), bnd_eq, nI_1, ob (tn_img hn m1 t1), bnd_eq, ad_16, q_chk (by omega) (by decide)]
  have e0 : up2 I (cb + 6) (16 * lv + pt) (nI (tr lv pt + 1)) cb 0 = nI n := by rw [up2_ne (by omega)]; exact hT.1
  have e1 : up2 I (cb + 6) (16 * lv + pt) (nI (tr lv pt + 1)) (cb + 1) lv = nI (rb lv) := by rw [up2_ne (by omega)]; exact c1
  rw [(hT.2.2.2 lv pt hl hp).1, e0, ob (compose_eq hn t2 m1), q_chk (by omega) (by decide), q_ix (by omega), e1, ifc (q_bit0 (by omega) (by omega))]
  have hT1 : ChT (up2 I (cb + 6) (16 * lv + pt) (nI (tr lv pt + 1))) L cb n rb th := ⟨e0, hT.2.1, fun k hk => by rw [up2_ne (by omega)]; exact hT.2.2.1 k hk, hT.2.2.2⟩
  have hM1 : ChM (up2 I (cb + 6) (16 * lv + pt) (nI (tr lv pt + 1))) L cb n rb mc mk (itr tr lv pt (tr lv pt + 1)) := by
    refine ⟨fun k hk => by rw [up2_ne (by omega)]; exact hM.1 k hk, hM.2.1, fun k j hk hr => ?_⟩
    have hj := ((hG.1 k hk).2 j hr).1
    unfold up2 itr
    rw [if_pos rfl]
    by_cases e : k = lv ∧ j = pt
    · rw [if_pos e, if_pos (by rw [e.1, e.2])]
    · rw [if_neg e, if_neg (by omega)]
      exact hM.2.2 k j hk hr
  have hF1 : FrC cb I L (up2 I (cb + 6) (16 * lv + pt) (nI (tr lv pt + 1))) L := ⟨fun q _ _ _ h6 => up2_ne h6, fun _ _ _ _ _ => rfl⟩
  have hSub := Gen_Sub hn (fun a ha => (SK_P hG (k := lv) a ha).1)
  have hturn : Gen n (SK n mc mk lv) (cp (th lv pt) (mk lv (tr lv pt))) := hSub.2.2.1 _ _ (hG.2.2.1 lv pt hl hp) (Gen_in ⟨hl, _, hm, rfl⟩)
  cases hR : (rb lv).testBit (mk lv (tr lv pt) pt)
  · rw [if_pos rfl, q_chk (by omega) (by decide), q_chk (by omega) (by decide), bnd_eq, q_shl1 (by omega), q_or, q_chk (by omega) (by decide), bnd_eq, q_ix (by omega)]
    have e2 : ∀ v, up2 (up2 I (cb + 6) (16 * lv + pt) (nI (tr lv pt + 1))) (cb + 1) lv v cb 0 = nI n := fun v => by rw [up2_ne (by omega)]; exact e0
    rw [e2, ob (invert_eq hn (IsP_cp t2 m1)), q_chk (by omega) (by decide), bnd_eq, q_chk (by omega) (by decide), bnd_eq]
    have hnew := GI_new hn hG hl hp hm hR
    have eL : ∀ x y v w, up2 (up2 L (cb + 2) x v) (cb + 3) y w cb 1 = tn n idp := fun x y v w => by
      rw [up2_ne (show cb ≠ cb + 3 by omega), up2_ne (show cb ≠ cb + 2 by omega), hT.2.1]
    rw [eL]
    refine ⟨idp, _, _, rfl, ?_, Or.inl ⟨rfl, _, _, _, ⟨?_, ?_, hnew⟩, ?_, mu_new hn hl t1 hp hR (by omega)⟩⟩
    · refine ⟨fun q h1 h2 h3 h4 => ?_, fun q h1 h2 h3 h4 => ?_⟩
      · rw [up2_ne h4, up2_ne h2, up2_ne h4]
      · rw [up2_ne h3, up2_ne h2]
    · refine ⟨?_, ?_, fun k hk => ?_, fun k j hk hr => ?_⟩
      · rw [up2_ne (by omega)]; exact e2 _
      · rw [up2_ne (by omega), up2_ne (by omega)]; exact hT.2.1
      · rw [up2_ne (show cb + 1 ≠ cb + 6 by omega)]
        unfold up2 irb
        rw [if_pos rfl]
        by_cases e : k = lv
        · rw [if_pos e, if_pos e]
          exact ⟨rfl, Nat.or_lt_two_pow c2 (Nat.pow_lt_pow_right (by decide) (by omega))⟩
        · rw [if_neg e, if_neg e, if_neg (by omega)]
          exact hT.2.2.1 k hk
      · have hr : tbR (irb rb lv (mk lv (tr lv pt) pt)) k j = true := hr
        rw [irb_tb] at hr
        have a2 : ∀ v w, up2 (up2 L (cb + 2) (16 * lv + mk lv (tr lv pt) pt) v) (cb + 3) (16 * lv + mk lv (tr lv pt) pt) w (cb + 2) (16 * k + j) = if 16 * k + j = 16 * lv + mk lv (tr lv pt) pt then v else L (cb + 2) (16 * k + j) := fun v w => by
          rw [up2_ne (by omega)]; unfold up2; rw [if_pos rfl]
        have a3 : ∀ v w, up2 (up2 L (cb + 2) (16 * lv + mk lv (tr lv pt) pt) v) (cb + 3) (16 * lv + mk lv (tr lv pt) pt) w (cb + 3) (16 * k + j) = if 16 * k + j = 16 * lv + mk lv (tr lv pt) pt then w else L (cb + 3) (16 * k + j) := fun v w => by
          unfold up2
          rw [if_pos rfl]
          by_cases h : 16 * k + j = 16 * lv + mk lv (tr lv pt) pt
          · rw [if_pos h, if_pos h]
          · rw [if_neg h, if_neg h, if_neg (by omega), if_neg h]
        rw [a2, a3]
        unfold ith
        by_cases e : k = lv ∧ j = mk lv (tr lv pt) pt
        · rw [if_pos e, if_pos (by omega), if_pos (by omega)]; exact ⟨rfl, rfl⟩
        · rw [if_neg e] at hr
          have hj := ((hG.1 k hk).2 j hr).1
          rw [if_neg e, if_neg (by omega), if_neg (by omega)]
          exact hT.2.2.2 k j hk hr
    · refine ⟨fun k hk => ?_, fun k i hk hi => ?_, fun k j hk hr => ?_⟩
      · rw [up2_ne (by omega), up2_ne (by omega)]; exact hM1.1 k hk
      · rw [up2_ne (by omega), up2_ne (by omega)]; exact hM.2.1 k i hk hi
      · rw [irb_tb] at hr
        by_cases e : k = lv ∧ j = mk lv (tr lv pt) pt
        · have : itr (itr tr lv pt (tr lv pt + 1)) lv (mk lv (tr lv pt) pt) 0 k j = 0 := if_pos e
          rw [this, e.1, e.2]
          unfold up2
          rw [if_pos rfl, if_pos rfl]; rfl
        · rw [if_neg e] at hr
          have hj := ((hG.1 k hk).2 j hr).1
          have : itr (itr tr lv pt (tr lv pt + 1)) lv (mk lv (tr lv pt) pt) 0 k j = itr tr lv pt (tr lv pt + 1) k j := if_neg e
          rw [this]
          have e9 : ∀ (J : MI) x v, x ≠ 16 * k + j → up2 J (cb + 6) x v (cb + 6) (16 * k + j) = J (cb + 6) (16 * k + j) := fun J x v hx => by
            unfold up2; rw [if_pos rfl, if_neg (fun g => hx g.symm)]
          rw [e9 _ _ _ (by omega), up2_ne (by omega)]
          exact hM1.2.2 k j hk hr
    · intro k j h1 h2 h3
      rw [irb_tb, if_neg (by omega)] at h3
      have := hc k j h1 h2 h3
      unfold itr
      rw [if_neg (by omega), if_neg (by omega)]
      exact this
  · have hR' : tbR rb lv (mk lv (tr lv pt) pt) = true := hR
    obtain ⟨u1, u2, u3, u4⟩ := (hG.1 lv hl).2 _ hR'
    rw [if_neg (by decide), q_chk (by omega) (by decide), q_ix (by omega), (hT.2.2.2 lv _ hl hR).1, ifc (q_cmp0 _ _)]
    have hsub1 := Gen_Sub hn (fun a ha => (SK_P hG (k := lv + 1) a ha).1)
    have good : Gen n (SK n mc mk (lv + 1)) (cp (cp (th lv pt) (mk lv (tr lv pt))) (iv (th lv (mk lv (tr lv pt) pt)))) → ∃ rb' th' tr', ChS (up2 I (cb + 6) (16 * lv + pt) (nI (tr lv pt + 1))) L cb n rb' th' mc mk tr' ∧ Cpl n rb' mc tr' (lv + 1) ∧ muN rb' tr' 100 < muN rb tr 100 := fun hg => by
      refine ⟨rb, th, _, ⟨hT1, hM1, GI_try hG hl hm hR' hg⟩, fun k j h1 h2 h3 => ?_, mu_try hn hl t1 hp (by omega)⟩
      have := hc k j h1 h2 h3
      unfold itr
      rw [if_neg (by omega)]
      exact this
    by_cases e : cp (th lv pt) (mk lv (tr lv pt)) = th lv (mk lv (tr lv pt) pt)
    · rw [if_pos (by rw [e])]
      refine ⟨idp, _, _, by rw [hT.2.1], hF1, Or.inl ⟨rfl, good ?_⟩⟩
      rw [e, cp_iv hn u2]; exact hsub1.2.1
    · rw [if_neg (fun g => e ((tn_inj hn (IsP_cp t2 m1) u2).mp g)), q_chk (by omega) (by decide), (hT.2.2.2 lv _ hl hR).2, ob (compose_eq hn (IsP_cp t2 m1) (IsP_iv hn u2))]
      have hsg : IsP n (cp (cp (th lv pt) (mk lv (tr lv pt))) (iv (th lv (mk lv (tr lv pt) pt)))) := IsP_cp (IsP_cp t2 m1) (IsP_iv hn u2)
      have hsf : ∀ i, i < lv + 1 → cp (cp (th lv pt) (mk lv (tr lv pt))) (iv (th lv (mk lv (tr lv pt) pt))) i = i := fun i hi => by
        show iv (th lv (mk lv (tr lv pt) pt)) (mk lv (tr lv pt) (th lv pt i)) = i
        by_cases e2 : i = lv
        · rw [e2, t4]; exact iv_of hn u2 u4
        · rw [t3 i (by omega), m2 i (by omega)]; exact iv_of hn u2 (u3 i (by omega))
      have hgl : Gen n (SK n mc mk lv) (cp (cp (th lv pt) (mk lv (tr lv pt))) (iv (th lv (mk lv (tr lv pt) pt)))) := hSub.2.2.1 _ _ hturn (hSub.2.2.2 _ (hG.2.2.1 lv _ hl hR'))
      rw [nI_1, ob (sift_eq hn hT1 hG.1 hsg (k := lv + 1) (by omega) hsf)]
      generalize hsgE : cp (cp (th lv pt) (mk lv (tr lv pt))) (iv (th lv (mk lv (tr lv pt) pt))) = sg at *
      have hsf' : ∀ i, i < n - (n - (lv + 1)) → sg i = i := fun i hi => hsf i (by omega)
      have o := sft_ok hn hG.1 (n - (lv + 1)) (by omega) sg hsg hsf'
      have o2 := sft_id hn hG.1 (show n - (lv + 1) ≤ n by omega) hsg hsf'
      have o3 := sft_moved hn hG.1 (show n - (lv + 1) ≤ n by omega) hsg hsf'
      have hmem := GI_SM hn hG hc (by omega)
      refine ⟨_, _, _, rfl, hF1, ?_⟩
      by_cases hid : (sft n (tbR rb) th (n - (lv + 1)) sg).2 = idp
      · left
        refine ⟨hid, good ?_⟩
        exact (hmem (lv + 1) (Nat.le_refl _) (by omega) sg).mp (o.2.2.2.2.2.mpr (o2.mp hid))
      · right
        have hlt : (sft n (tbR rb) th (n - (lv + 1)) sg).1 < n := by
          have h1 := o.2.2.1
          have h2 : ¬ (sft n (tbR rb) th (n - (lv + 1)) sg).1 = n := fun g => hid (o2.mpr g)
          omega
        refine ⟨hid, hT1, hM1, o.1, hR', ⟨_, ?_, hlt, o.2.2.2.1, o3 hlt, fun k h1 h2 h3 => ?_⟩, ?_, fun H hH h1 h2 => ?_⟩
        · have := o.2.1; omega
        · -- what is left isn't taken back
          have h4 := SM_down hn hG.1 (d := n - (sft n (tbR rb) th (n - (lv + 1)) sg).1) (n - k) (by omega) (by omega) h3 (fun i hi => o.2.2.2.1 i (by omega))
          rw [show n - (sft n (tbR rb) th (n - (lv + 1)) sg).1 = (n - (sft n (tbR rb) th (n - (lv + 1)) sg).1 - 1) + 1 by omega] at h4
          have h5 := h4.1
          rw [show n - (n - (sft n (tbR rb) th (n - (lv + 1)) sg).1 - 1 + 1) = (sft n (tbR rb) th (n - (lv + 1)) sg).1 by omega] at h5
          have h6 := o.2.2.2.2.1 hlt
          have h7 : tbR rb (sft n (tbR rb) th (n - (lv + 1)) sg).1 ((sft n (tbR rb) th (n - (lv + 1)) sg).2 (sft n (tbR rb) th (n - (lv + 1)) sg).1) = true := h5
          rw [h6] at h7; cases h7
        · refine (sft_in hn hG.1 hSub (n - (lv + 1)) (by omega) (fun k j h1 h2 h3 => ?_) sg hsg hsf').mpr hgl
          have := SK_down hG (k := lv) (k - lv) (th k j)
          rw [show lv + (k - lv) = k by omega] at this
          exact this (hG.2.2.1 k j h2 h3)
        · exact (sft_in hn hG.1 hH (n - (lv + 1)) (by omega) (fun k j h3 h4 h5 => h1 k j (by omega) h4 h5) sg hsg hsf').mp h2
end G3
