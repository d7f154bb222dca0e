/-! The class's Chain -/
/-- the class's table lies in memory -/
def ChT (I : MI) (L : ML) (cb n : Nat) (rb : Nat → Nat) (th : Nat → Nat → Nat → Nat) : Prop :=
  I cb 0 = nI n ∧ L cb 1 = tn n idp ∧ (∀ k, k < n → I (cb + 1) k = nI (rb k) ∧ rb k < 2 ^ 10) ∧ (∀ k j, k < n → (rb k).testBit j = true → L (cb + 2) (16 * k + j) = tn n (th k j) ∧ L (cb + 3) (16 * k + j) = tn n (iv (th k j)))
def tbR (rb : Nat → Nat) : Nat → Nat → Bool := fun k j => (rb k).testBit j
theorem ad_16 (k j : Nat) : (nI k * 16) + nI j = nI (16 * k + j) := by
  rw [show (16 : Int32) = nI 16 from rfl, pk_mul, nI_add, Nat.mul_comm]
section CH
variable {I : MI} {L : ML} {cb n : Nat} {rb : Nat → Nat} {th : Nat → Nat → Nat → Nat} {p : Nat → Nat}
theorem sft_one (hn : n ≤ 10) (hT : TabOK n (RB (tbR rb)) th) : ∀ d, d ≤ n → sft n (tbR rb) th d idp = (n, idp) := by
  intro d
  induction d with
  | zero => intro _; rfl
  | succ d ih =>
    intro hd
    have h0 := (hT (n - (d + 1)) (by omega)).1
    have h1 : tbR rb (n - (d + 1)) (n - (d + 1)) = true := h0.1
    show (if tbR rb (n - (d + 1)) (idp (n - (d + 1))) = true then sft n (tbR rb) th d (cp idp (iv (th (n - (d + 1)) (idp (n - (d + 1)))))) else (n - (d + 1), idp)) = (n, idp)
    rw [if_pos (show tbR rb (n - (d + 1)) (idp (n - (d + 1))) = true from h1)]
    show sft n (tbR rb) th d (cp idp (iv (th (n - (d + 1)) (n - (d + 1))))) = _
    rw [h0.2, iv_id]
    exact ih (by omega)
theorem sift_l (hn : n ≤ 10) (hC : ChT I L cb n rb th) (hT : TabOK n (RB (tbR rb)) th) : ∀ d fu p, d ≤ n → d < fu → IsP n p → (∀ i, i < n - d → p i = i) → f_X0_sift_6 cb I L fu (tn n p) (nI (n - d)) = some (tn n (sft n (tbR rb) th d p).2) := by
  intro d
  induction d with
  | zero =>
    intro fu p _ h2 hp hf
    obtain ⟨fu, rfl⟩ : ∃ m, fu = m + 1 := ⟨fu - 1, by omega⟩
    rw [f_X0_sift_6, hC.1, if_pos (by rw [q_le (by omega) (by omega)]; omega)]
    rfl
  | succ d ih =>
    intro fu p hd h2 hp hf
    obtain ⟨fu, rfl⟩ : ∃ m, fu = m + 1 := ⟨fu - 1, by omega⟩
    generalize hk : n - (d + 1) = k at *
    have hkn : k < n := by omega
    have hdk : n - d = k + 1 := by omega
    rw [f_X0_sift_6, hC.1, if_neg (by rw [q_le (by omega) (by omega)]; omega), hC.2.1, ifc (q_cmp0 _ _)]
    by_cases hid : p = idp
    · rw [if_pos ((tn_inj hn hp (IsP_id n)).mpr hid), hid, sft_one hn hT (d + 1) hd]
    · have hpk := hp.1 k hkn
      obtain ⟨c1, c2⟩ := hC.2.2.1 k hkn
      rw [if_neg (fun g => hid ((tn_inj hn hp (IsP_id n)).mp g)), ob (tn_img hn hp hkn), q_chk (by omega) (by decide), q_ix (by omega), c1, ifc (q_bit0 (by omega) (by omega))]
      have es : sft n (tbR rb) th (d + 1) p = if tbR rb k (p k) = true then sft n (tbR rb) th d (cp p (iv (th k (p k)))) else (k, p) := by rw [← hk]; rfl
      rw [es]
      by_cases hR : (rb k).testBit (p k) = true
      · rw [if_neg (by rw [hR]; decide), if_pos (show tbR rb k (p k) = true from hR), ifc (q_eq (by omega) (by omega))]
        have hst := sft_step hn hT (d := d) (by omega) hp (by rw [hk]; exact hf) (by rw [hk]; exact hR)
        rw [hk] at hst
        obtain ⟨s1, s2⟩ := hst
        obtain ⟨t1, t2, t3, t4⟩ := (hT k hkn).2 _ hR
        rw [hdk] at ih
        by_cases e : p k = k
        · rw [if_pos e, bnd_eq, nI_1]
          have e2 : cp p (iv (th k (p k))) = p := by rw [e, ((hT k hkn).1).2, iv_id, cp_id]
          rw [e2] at s1 s2 ⊢
          exact ih fu p (by omega) (by omega) s1 (by rw [← hdk]; exact s2)
        · rw [if_neg e, ad_16, q_chk (by omega) (by decide), q_ix (by omega), (hC.2.2.2 k _ hkn hR).2, ob (compose_eq hn hp (IsP_iv hn t2)), bnd_eq, nI_1]
          exact ih fu _ (by omega) (by omega) s1 (by rw [← hdk]; exact s2)
      · rw [if_pos (by simpa using hR), if_neg (show ¬ tbR rb k (p k) = true from hR)]
theorem sift_eq (hn : n ≤ 10) (hC : ChT I L cb n rb th) (hT : TabOK n (RB (tbR rb)) th) (hp : IsP n p) {k : Nat} (hk : k ≤ n) (hf : ∀ i, i < k → p i = i) : f_X0_sift cb (tn n p) (nI k) I L = some (tn n (sft n (tbR rb) th (n - k) p).2) := by
  unfold f_X0_sift
  have := sift_l hn hC hT (n - k) FU p (by omega) (by unfold FU; omega) hp (fun i hi => hf i (by omega))
  rwa [show n - (n - k) = k by omega] at this
theorem firstMoved_l (hn : n ≤ 10) (h0 : I cb 0 = nI n) (hp : IsP n p) {k : Nat} (hk : k ≤ n) (hf : ∀ i, i < k → p i = i) (hm : k < n → p k ≠ k) : ∀ d fu i, i + d = k → d < fu → f_X0_firstMoved_2 cb (tn n p) I L fu (nI i) = some (nI k) := by
  intro d
  induction d with
  | zero =>
    intro fu i h1 h2
    obtain ⟨fu, rfl⟩ : ∃ m, fu = m + 1 := ⟨fu - 1, by omega⟩
    have : i = k := by omega
    subst this
    rw [f_X0_firstMoved_2, h0, ifc (q_le (by omega) (by omega))]
    by_cases h : n ≤ i
    · rw [if_pos h, show n = i by omega]
    · have := hp.1 i (by omega)
      rw [if_neg h, ob (tn_img hn hp (by omega)), ifc (q_eq (by omega) (by omega)), if_neg (hm (by omega))]
  | succ d ih =>
    intro fu i h1 h2
    obtain ⟨fu, rfl⟩ : ∃ m, fu = m + 1 := ⟨fu - 1, by omega⟩
    have := hp.1 i (by omega)
    rw [f_X0_firstMoved_2, h0, if_neg (by rw [q_le (by omega) (by omega)]; omega), ob (tn_img hn hp (by omega)), ifc (q_eq (by omega) (by omega)), if_pos (hf i (by omega)), bnd_eq, nI_1]
    exact ih fu (i + 1) (by omega) (by omega)
theorem firstMoved_eq (hn : n ≤ 10) (h0 : I cb 0 = nI n) (hp : IsP n p) {k : Nat} (hk : k ≤ n) (hf : ∀ i, i < k → p i = i) (hm : k < n → p k ≠ k) : f_X0_firstMoved cb (tn n p) I L = some (nI k) := by
  unfold f_X0_firstMoved
  exact firstMoved_l hn h0 hp hk hf hm k FU 0 (by omega) (by unfold FU; omega)
/-- what is left moves the level where it got stuck -/
theorem sft_moved (hn : n ≤ 10) (hT : TabOK n (RB (tbR rb)) th) {d : Nat} (hd : d ≤ n) (hp : IsP n p) (hf : ∀ i, i < n - d → p i = i) : (sft n (tbR rb) th d p).1 < n → (sft n (tbR rb) th d p).2 (sft n (tbR rb) th d p).1 ≠ (sft n (tbR rb) th d p).1 := by
  intro h e
  have h1 := (sft_ok hn hT d hd p hp hf).2.2.2.2.1 h
  rw [e] at h1
  have h2 : tbR rb (sft n (tbR rb) th d p).1 (sft n (tbR rb) th d p).1 = true := ((hT _ h).1).1
  rw [h2] at h1
  cases h1
theorem contains_eq (hn : n ≤ 10) (hC : ChT I L cb n rb th) (hT : TabOK n (RB (tbR rb)) th) (hp : IsP n p) {c : Bool} (hc : c = true ↔ SM n (RB (tbR rb)) th n p) : f_X0_contains cb (tn n p) I L = some c := by
  unfold f_X0_contains
  have h := sift_eq hn hC hT hp (Nat.zero_le n) (fun i hi => by omega)
  have o := sft_ok hn hT n (Nat.le_refl n) p hp (fun i hi => by omega)
  have o2 := sft_id hn hT (Nat.le_refl n) hp (fun i hi => by omega)
  rw [show n - 0 = n from rfl, nI_0] at h
  rw [ob h, hC.2.1, ifc (q_cmp0 _ _)]
  have hc2 := hc.trans (o.2.2.2.2.2.trans o2.symm)
  by_cases e : (sft n (tbR rb) th n p).2 = idp
  · rw [if_pos ((tn_inj hn o.1 (IsP_id n)).mpr e), hc2.mpr e]
  · rw [if_neg (fun g => e ((tn_inj hn o.1 (IsP_id n)).mp g))]
    have : ¬ c = true := fun g => e (hc2.mp g)
    rw [show c = false by simpa using this]
theorem follow_eq (hn : n ≤ 10) (hC : ChT I L cb n rb th) (hT : TabOK n (RB (tbR rb)) th) (hp : IsP n p) : f_X0_follow cb (tn n p) I L = some (nI (sft n (tbR rb) th n p).1) := by
  unfold f_X0_follow
  have h := sift_eq hn hC hT hp (Nat.zero_le n) (fun i hi => by omega)
  have o := sft_ok hn hT n (Nat.le_refl n) p hp (fun i hi => by omega)
  rw [show n - 0 = n from rfl, nI_0] at h
  rw [ob h, ob (firstMoved_eq hn hC.1 o.1 o.2.2.1 o.2.2.2.1 (sft_moved hn hT (Nat.le_refl n) hp (fun i hi => by omega)))]
end CH
/-- from each level on the makers, if what is tried of each level comes from the makers behind -/
theorem chain2 {n : Nat} {R : Nat → Nat → Prop} {T : Nat → Nat → Nat → Nat} (hn : n ≤ 10) (hT : TabOK n R T) (S : Nat → PS) (hS : ∀ k s, S k s → IsP n s ∧ ∀ i, i < k → s i = i) (hTG : ∀ k j, k < n → R k j → Gen n (S k) (T k j)) (hSS : ∀ k s, S (k + 1) s → Gen n (S k) s) :
    ∀ m k0, k0 + m = n → (∀ k j s, k0 ≤ k → k < n → R k j → S k s → R k (s j) ∧ Gen n (S (k + 1)) (cp (cp (T k j) s) (iv (T k (s j))))) → ∀ k, k0 ≤ k → k ≤ n → ∀ p, SM n R T (n - k) p ↔ Gen n (S k) p := by
  intro m
  induction m with
  | zero =>
    intro k0 hk0 _ k h1 h2 p
    rw [show n - k = 0 by omega, show k = n by omega]
    refine ⟨fun h => ?_, fun h => ?_⟩
    · rw [show p = idp from h]; exact (Gen_Sub hn (fun a ha => (hS n a ha).1)).2.1
    · refine h _ (Sub_triv n) (fun a ha => ?_)
      obtain ⟨a1, a2⟩ := hS n a ha
      exact IsP_ext a1 (IsP_id n) (fun i hi => a2 i hi)
  | succ m ih =>
    intro k0 hk0 hC k h1 h2
    have ih2 := ih (k0 + 1) (by omega) (fun k j s a => hC k j s (by omega))
    by_cases e : k = k0
    · subst e
      have hc := chain hn hT S k hS (fun k' j _ => hTG k' j) (fun k' s _ _ => hSS k' s) (fun k' j s a1 a2 a3 a4 => by
        obtain ⟨b1, b2⟩ := hC k' j s a1 a2 a3 a4
        have b3 := (ih2 (k' + 1) (by omega) (by omega) _).mpr b2
        obtain ⟨t1, t2, t3, t4⟩ := (hT k' a2).2 _ b1
        have := (SM_dec hn hT (d := n - (k' + 1)) (by omega) (p := cp (T k' j) s)).mpr ⟨s j, _, by rw [show n - (n - (k' + 1) + 1) = k' by omega]; exact b1, b3, by rw [show n - (n - (k' + 1) + 1) = k' by omega, cp_as, iv_cp hn t2, cp_id]⟩
        rwa [show n - (k' + 1) + 1 = n - k' by omega] at this) (n - k - 1) (by omega) (by omega)
      intro p
      have := hc p
      rwa [show n - k - 1 + 1 = n - k by omega, show n - (n - k) = k by omega] at this
    · exact ih2 k (by omega) h2
