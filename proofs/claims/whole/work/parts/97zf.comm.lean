/-! Commutators: makers are enough -/
section CMM
variable {n : Nat}
theorem cm_ap {a b : Nat → Nat} (hn : n ≤ 10) (ha : IsP n a) (hb : IsP n b) (x : Nat) : cm a b x = b (a (iv b (iv a x))) := by
  show (cp a b) (iv (cp b a) x) = _
  rw [iv_cpp hn hb ha]
  rfl
theorem cj_ap {a g : Nat → Nat} (x : Nat) : cj a g x = g (a (iv g x)) := rfl
theorem iv_ap {a b : Nat → Nat} (hn : n ≤ 10) (ha : IsP n a) (hb : IsP n b) (x : Nat) : iv (cp a b) x = iv a (iv b x) := by
  rw [iv_cpp hn ha hb]; rfl
theorem cm_l {h s k : Nat → Nat} (hn : n ≤ 10) (hh : IsP n h) (hs : IsP n s) (hk : IsP n k) : cm (cp h s) k = cp (cj (cm h k) s) (cm s k) := by
  funext x
  show _ = cm s k (cj (cm h k) s x)
  rw [cm_ap hn (IsP_cp hh hs) hk, iv_ap hn hh hs, cm_ap hn hs hk, cj_ap, iv_l hn hs, cm_ap hn hh hk, iv_l hn hk]
  rfl
theorem cm_r {h k t : Nat → Nat} (hn : n ≤ 10) (hh : IsP n h) (hk : IsP n k) (ht : IsP n t) : cm h (cp k t) = cp (cm h t) (cj (cm h k) t) := by
  funext x
  show _ = cj (cm h k) t (cm h t x)
  rw [cm_ap hn hh (IsP_cp hk ht), iv_ap hn hk ht, cj_ap, cm_ap hn hh ht, iv_l hn ht, cm_ap hn hh hk, iv_l hn hh]
  rfl
theorem cm_1r {h : Nat → Nat} (hn : n ≤ 10) (hh : IsP n h) : cm h idp = idp := by
  have e : iv idp = idp := by
    funext j
    exact iv_l (Nat.le_refl 10) (IsP_id 10) j
  funext x
  rw [cm_ap hn hh (IsP_id n), e]
  show h (iv h x) = x
  exact iv_r hn hh x
theorem cm_1l {k : Nat → Nat} (hn : n ≤ 10) (hk : IsP n k) : cm idp k = idp := by
  have e : iv idp = idp := by
    funext j
    exact iv_l (Nat.le_refl 10) (IsP_id 10) j
  funext x
  rw [cm_ap hn (IsP_id n) hk, e]
  show k (iv k x) = x
  exact iv_r hn hk x
/-- kept by makers' turning: kept by turning -/
theorem cj_all {T M : PS} (hn : n ≤ 10) (hT : ∀ t, T t → IsP n t) (h : ∀ a t, M a → T t → M (cj a t)) : ∀ k, Gen n T k → ∀ a, M a → M (cj a k) := by
  intro k hk
  have := Gen_right (M := fun k => IsP n k ∧ ∀ a, M a → M (cj a k)) hn hT ⟨IsP_id n, fun a ha => by rw [cj_id]; exact ha⟩ (fun m s hm hs => ⟨IsP_cp hm.1 (hT s hs), fun a ha => by rw [cj_cp hn hm.1 (hT s hs)]; exact h _ s (hm.2 a ha) hs⟩) k hk
  exact this.2
theorem cm_all {S T M : PS} (hn : n ≤ 10) (hS : ∀ s, S s → IsP n s) (hT : ∀ t, T t → IsP n t) (hM : Sub n M) (hST : ∀ s, S s → Gen n T s) (hc : ∀ a t, M a → T t → M (cj a t)) (hm : ∀ s t, S s → T t → M (cm s t)) : ∀ h k, Gen n S h → Gen n T k → M (cm h k) := by
  have hcj := cj_all hn hT hc
  have hTs := Gen_Sub hn hT
  have k1 : ∀ s, S s → ∀ k, Gen n T k → M (cm s k) := fun s hs k hk => by
    have := Gen_right (M := fun k => IsP n k ∧ M (cm s k)) hn hT ⟨IsP_id n, by rw [cm_1r hn (hS s hs)]; exact hM.2.1⟩ (fun m t hmm ht => ⟨IsP_cp hmm.1 (hT t ht), by rw [cm_r hn (hS s hs) hmm.1 (hT t ht)]; exact hM.2.2.1 _ _ (hm s t hs ht) (hc _ t hmm.2 ht)⟩) k hk
    exact this.2
  intro h k hh hk
  have hkP := hTs.1 k hk
  have := Gen_right (M := fun h => IsP n h ∧ M (cm h k)) hn hS ⟨IsP_id n, by rw [cm_1l hn hkP]; exact hM.2.1⟩ (fun m s hmm hs => ⟨IsP_cp hmm.1 (hS s hs), by rw [cm_l hn hmm.1 (hS s hs) hkP]; exact hM.2.2.1 _ _ (hcj s (hST s hs) _ hmm.2) (k1 s hs k hk)⟩) h hh
  exact this.2
/-- the group that both programs build -/
theorem CmK_eq {S T M : PS} (hn : n ≤ 10) (hS : ∀ s, S s → IsP n s) (hT : ∀ t, T t → IsP n t) (hM : Sub n M) (hST : ∀ s, S s → Gen n T s) (hc : ∀ a t, M a → T t → M (cj a t)) (hm : ∀ s t, S s → T t → M (cm s t)) (hle : ∀ p, M p → CmK n (Gen n S) (Gen n T) p) : M = CmK n (Gen n S) (Gen n T) := by
  funext p
  apply propext
  exact ⟨hle p, fun g => g M hM (fun a k ha hk => cj_all hn hT hc k hk a ha) (cm_all hn hS hT hM hST hc hm)⟩
theorem CmK_Sub {H K : PS} (hn : n ≤ 10) (hH : Sub n H) (hK : Sub n K) : Sub n (CmK n H K) := by
  refine ⟨fun a ha => ha (IsP n) ⟨fun a h => h, IsP_id n, fun a b ha hb => IsP_cp ha hb, fun a ha => IsP_iv hn ha⟩ (fun a k ha hk => IsP_cj hn ha (hK.1 k hk)) (fun h k hh hk => IsP_cm hn (hH.1 h hh) (hK.1 k hk)), fun M hM _ _ => hM.2.1, fun a b ha hb M hM h1 h2 => hM.2.2.1 _ _ (ha M hM h1 h2) (hb M hM h1 h2), fun a ha M hM h1 h2 => hM.2.2.2 _ (ha M hM h1 h2)⟩
theorem CmK_cj {H K : PS} {a k : Nat → Nat} (ha : CmK n H K a) (hk : K k) : CmK n H K (cj a k) := fun M hM h1 h2 => h1 _ _ (ha M hM h1 h2) hk
theorem CmK_cm {H K : PS} {h k : Nat → Nat} (hh : H h) (hk : K k) : CmK n H K (cm h k) := fun _ _ _ h2 => h2 _ _ hh hk
end CMM
