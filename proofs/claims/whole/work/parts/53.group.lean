/-! Groups of arrangements, and tables of a chain -/
abbrev PS : Type := (Nat → Nat) → Prop
def Sub (n : Nat) (H : PS) : Prop := (∀ a, H a → IsP n a) ∧ H idp ∧ (∀ a b, H a → H b → H (cp a b)) ∧ (∀ a, H a → H (iv a))
def Gen (n : Nat) (S : PS) : PS := fun p => ∀ H : PS, Sub n H → (∀ a, S a → H a) → H p
theorem Sub_all {n : Nat} (hn : n ≤ 10) : Sub n (IsP n) := ⟨fun _ h => h, IsP_id n, fun _ _ => IsP_cp, fun _ => IsP_iv hn⟩
theorem Gen_in {n : Nat} {S : PS} {a : Nat → Nat} (h : S a) : Gen n S a := fun _ _ h2 => h2 a h
theorem Gen_Sub {n : Nat} {S : PS} (hn : n ≤ 10) (hS : ∀ a, S a → IsP n a) : Sub n (Gen n S) :=
  ⟨fun _ h => h _ (Sub_all hn) hS, fun _ hH _ => hH.2.1, fun _ _ ha hb H hH hSH => hH.2.2.1 _ _ (ha H hH hSH) (hb H hH hSH), fun _ ha H hH hSH => hH.2.2.2 _ (ha H hH hSH)⟩
theorem Gen_le {n : Nat} {S H : PS} (hH : Sub n H) (h : ∀ a, S a → H a) : ∀ p, Gen n S p → H p := fun _ hp => hp H hH h
theorem Gen_mono {n : Nat} {S T : PS} (h : ∀ a, S a → Gen n T a) : ∀ p, Gen n S p → Gen n T p := fun _ hp H hH hT => hp H hH (fun a ha => h a ha H hH hT)
theorem Sub_pw {n : Nat} {H : PS} (hH : Sub n H) {a : Nat → Nat} (h : H a) : ∀ k, H (pw a k) := by
  intro k
  induction k with
  | zero => exact hH.2.1
  | succ k ih => exact hH.2.2.1 _ _ ih h
/-- what holds for the unit and is kept by each maker holds for all -/
theorem Gen_right {n : Nat} {S M : PS} (hn : n ≤ 10) (hS : ∀ a, S a → IsP n a) (h0 : M idp) (h : ∀ m s, M m → S s → M (cp m s)) : ∀ p, Gen n S p → M p := by
  intro p hp
  have hH : Sub n (fun q => IsP n q ∧ ∀ m, M m → M (cp m q)) := by
    have hc : ∀ a b, (IsP n a ∧ ∀ m, M m → M (cp m a)) → (IsP n b ∧ ∀ m, M m → M (cp m b)) → (IsP n (cp a b) ∧ ∀ m, M m → M (cp m (cp a b))) :=
      fun a b ha hb => ⟨IsP_cp ha.1 hb.1, fun m hm => by rw [← cp_as]; exact hb.2 _ (ha.2 m hm)⟩
    refine ⟨fun _ h => h.1, ⟨IsP_id n, fun m hm => hm⟩, hc, fun a ha => ?_⟩
    obtain ⟨k, hk⟩ := iv_pw hn ha.1
    rw [hk]
    have : ∀ k, (IsP n (pw a k) ∧ ∀ m, M m → M (cp m (pw a k))) := by
      intro k
      induction k with
      | zero => exact ⟨IsP_id n, fun m hm => hm⟩
      | succ k ih => exact hc _ _ ih ha
    exact this k
  have := hp _ hH (fun a ha => ⟨hS a ha, fun m hm => h m a hm ha⟩)
  exact this.2 idp h0
/-- a set of arrangements that holds products and the unit is a group -/
theorem Sub_of {n : Nat} {M : PS} (hn : n ≤ 10) (hP : ∀ a, M a → IsP n a) (h0 : M idp) (hc : ∀ a b, M a → M b → M (cp a b)) : Sub n M :=
  ⟨hP, h0, hc, fun a ha => by
    obtain ⟨k, hk⟩ := iv_pw hn (hP a ha)
    rw [hk]
    induction k generalizing a with
    | zero => exact h0
    | succ k ih =>
      have : ∀ k, M (pw a k) := fun k => by
        induction k with
        | zero => exact h0
        | succ k ih2 => exact hc _ _ ih2 ha
      exact this _⟩
/-- a table: R k j tells whether there is one at level k that takes k to j, T k j which -/
def TabOK (n : Nat) (R : Nat → Nat → Prop) (T : Nat → Nat → Nat → Nat) : Prop := ∀ k, k < n → (R k k ∧ T k k = idp) ∧ ∀ j, R k j → j < n ∧ IsP n (T k j) ∧ (∀ i, i < k → T k j i = i) ∧ T k j k = j
/-- what d levels at the end take back to the unit -/
def SM (n : Nat) (R : Nat → Nat → Prop) (T : Nat → Nat → Nat → Nat) : Nat → PS
  | 0 => fun p => p = idp
  | d + 1 => fun p => R (n - (d + 1)) (p (n - (d + 1))) ∧ SM n R T d (cp p (iv (T (n - (d + 1)) (p (n - (d + 1))))))
section TB
variable {n : Nat} {R : Nat → Nat → Prop} {T : Nat → Nat → Nat → Nat}
theorem SM_P (hn : n ≤ 10) (hT : TabOK n R T) : ∀ d, d ≤ n → ∀ p, SM n R T d p → IsP n p ∧ ∀ i, i < n - d → p i = i := by
  intro d
  induction d with
  | zero => intro _ p h; rw [show p = idp from h]; exact ⟨IsP_id n, fun _ _ => rfl⟩
  | succ d ih =>
    intro hd p h
    obtain ⟨h1, h2⟩ := h
    obtain ⟨a, b⟩ := ih (by omega) _ h2
    obtain ⟨t1, t2, t3, t4⟩ := (hT (n - (d + 1)) (by omega)).2 _ h1
    have e : p = cp (cp p (iv (T (n - (d + 1)) (p (n - (d + 1)))))) (T (n - (d + 1)) (p (n - (d + 1)))) := by
      rw [cp_as, iv_cp hn t2, cp_id]
    refine ⟨by rw [e]; exact IsP_cp a t2, fun i hi => ?_⟩
    rw [e]
    show T _ _ (cp p _ i) = i
    rw [b i (by omega), t3 i hi]
theorem SM_dec (hn : n ≤ 10) (hT : TabOK n R T) {d : Nat} (hd : d < n) {p : Nat → Nat} : SM n R T (d + 1) p ↔ ∃ j r, R (n - (d + 1)) j ∧ SM n R T d r ∧ p = cp r (T (n - (d + 1)) j) := by
  constructor
  · intro h
    obtain ⟨h1, h2⟩ := h
    obtain ⟨t1, t2, t3, t4⟩ := (hT (n - (d + 1)) (by omega)).2 _ h1
    exact ⟨_, _, h1, h2, by rw [cp_as, iv_cp hn t2, cp_id]⟩
  · intro ⟨j, r, h1, h2, e⟩
    obtain ⟨t1, t2, t3, t4⟩ := (hT (n - (d + 1)) (by omega)).2 _ h1
    have hr := (SM_P hn hT d (by omega) r h2).2 (n - (d + 1)) (by omega)
    have e2 : p (n - (d + 1)) = j := by rw [e]; show T _ _ (r _) = j; rw [hr, t4]
    refine ⟨by rw [e2]; exact h1, ?_⟩
    rw [e2, e, cp_as, cp_iv hn t2, cp_id]
    exact h2
theorem SM_up (hn : n ≤ 10) (hT : TabOK n R T) {d : Nat} (hd : d < n) {p : Nat → Nat} (h : SM n R T d p) : SM n R T (d + 1) p := by
  have h0 := (hT (n - (d + 1)) (by omega)).1
  exact (SM_dec hn hT hd).mpr ⟨_, p, h0.1, h, by rw [h0.2, cp_id]⟩
theorem SM_le (hn : n ≤ 10) (hT : TabOK n R T) {d d' : Nat} (h1 : d ≤ d') (hd : d' ≤ n) {p : Nat → Nat} (h : SM n R T d p) : SM n R T d' p := by
  induction d' with
  | zero => rw [show d = 0 by omega] at h; exact h
  | succ d' ih =>
    by_cases e : d = d' + 1
    · rw [← e]; exact h
    · exact SM_up hn hT (by omega) (ih (by omega) (by omega))
theorem SM_id (hn : n ≤ 10) (hT : TabOK n R T) {d : Nat} (hd : d ≤ n) : SM n R T d idp := SM_le hn hT (Nat.zero_le d) hd rfl
/-- one that stays up to a level is taken back by the levels from there on -/
theorem SM_down (hn : n ≤ 10) (hT : TabOK n R T) {d : Nat} {p : Nat → Nat} : ∀ d', d ≤ d' → d' ≤ n → SM n R T d' p → (∀ i, i < n - d → p i = i) → SM n R T d p := by
  intro d'
  induction d' with
  | zero => intro h _ h2 _; rw [show d = 0 by omega]; exact h2
  | succ d' ih =>
    intro h1 h2 h3 h4
    by_cases e : d = d' + 1
    · rw [e]; exact h3
    · obtain ⟨a, b⟩ := h3
      have e2 := h4 (n - (d' + 1)) (by omega)
      rw [e2, ((hT (n - (d' + 1)) (by omega)).1).2, iv_id, cp_id] at b
      exact ih (by omega) (by omega) b h4
/-- THE CHAIN: if each level's ones, followed by its makers, are taken back, the levels from each on are the group of its makers -/
theorem chain (hn : n ≤ 10) (hT : TabOK n R T) (S : Nat → PS) (k0 : Nat) (hS : ∀ k s, S k s → IsP n s ∧ ∀ i, i < k → s i = i) (hTG : ∀ k j, k0 ≤ k → k < n → R k j → Gen n (S k) (T k j)) (hSS : ∀ k s, k0 ≤ k → k + 1 < n → S (k + 1) s → Gen n (S k) s)
    (hC : ∀ k j s, k0 ≤ k → k < n → R k j → S k s → SM n R T (n - k) (cp (T k j) s)) : ∀ d, d < n → k0 ≤ n - (d + 1) → ∀ p, SM n R T (d + 1) p ↔ Gen n (S (n - (d + 1))) p := by
  intro d
  induction d with
  | zero =>
    intro hd hk p
    constructor
    · intro h
      obtain ⟨j, r, h1, h2, e⟩ := (SM_dec hn hT hd).mp h
      rw [show r = idp from h2, id_cp] at e
      rw [e]
      exact hTG _ _ hk (by omega) h1
    · refine Gen_right hn (fun a ha => (hS _ a ha).1) (SM_id hn hT (by omega)) (fun m s hm hs => ?_) p
      obtain ⟨j, r, h1, h2, e⟩ := (SM_dec hn hT hd).mp hm
      rw [show r = idp from h2, id_cp] at e
      rw [e]
      have := hC _ j s hk (by omega) h1 hs
      rwa [show n - (n - (0 + 1)) = 0 + 1 by omega] at this
  | succ d ih =>
    intro hd hk p
    have ih2 := ih (by omega) (by omega)
    have ek : n - (d + 1) = n - (d + 1 + 1) + 1 := by omega
    have hsub : ∀ q, SM n R T (d + 1) q → Gen n (S (n - (d + 1 + 1))) q := fun q hq => by
      have h2 := (ih2 q).mp hq
      rw [ek] at h2
      exact Gen_mono (fun s hs => hSS _ s hk (by omega) hs) q h2
    have hSP : ∀ a, S (n - (d + 1 + 1)) a → IsP n a := fun a ha => (hS _ a ha).1
    have hSP2 : ∀ a, S (n - (d + 1)) a → IsP n a := fun a ha => (hS _ a ha).1
    constructor
    · intro h
      obtain ⟨j, r, h1, h2, e⟩ := (SM_dec hn hT hd).mp h
      rw [e]
      exact (Gen_Sub hn hSP).2.2.1 _ _ (hsub r h2) (hTG _ _ hk (by omega) h1)
    · refine Gen_right hn hSP (SM_id hn hT (by omega)) (fun m s hm hs => ?_) p
      obtain ⟨j, r, h1, h2, e⟩ := (SM_dec hn hT hd).mp hm
      have hC2 := hC _ j s hk (by omega) h1 hs
      rw [show n - (n - (d + 1 + 1)) = d + 1 + 1 by omega] at hC2
      obtain ⟨j2, r2, g1, g2, e2⟩ := (SM_dec hn hT hd).mp hC2
      refine (SM_dec hn hT hd).mpr ⟨j2, cp r r2, g1, ?_, ?_⟩
      · exact (ih2 _).mpr ((Gen_Sub hn hSP2).2.2.1 _ _ ((ih2 r).mp h2) ((ih2 r2).mp g2))
      · rw [e, cp_as, e2, cp_as]
end TB
/-- some one of a group stays up to k and takes k to j -/
def Orb (G : PS) (k j : Nat) : Prop := ∃ g, G g ∧ (∀ i, i < k → g i = i) ∧ g k = j
/-- a table of a group -/
def TabG (n : Nat) (G : PS) (R : Nat → Nat → Prop) (T : Nat → Nat → Nat → Nat) : Prop := TabOK n R T ∧ (∀ k j, k < n → (R k j ↔ Orb G k j)) ∧ ∀ k j, k < n → R k j → G (T k j)
section TG
variable {n : Nat} {R : Nat → Nat → Prop} {T : Nat → Nat → Nat → Nat} {G : PS}
theorem TabG_of (hn : n ≤ 10) (hT : TabOK n R T) (hG : ∀ p, SM n R T n p ↔ G p) : TabG n G R T := by
  have hTG : ∀ k j, k < n → R k j → SM n R T (n - k) (T k j) := fun k j hk hj => by
    have := (SM_dec hn hT (d := n - k - 1) (by omega) (p := T k j)).mpr ⟨j, idp, by rw [show n - (n - k - 1 + 1) = k by omega]; exact hj, SM_id hn hT (by omega), by rw [id_cp, show n - (n - k - 1 + 1) = k by omega]⟩
    rwa [show n - k - 1 + 1 = n - k by omega] at this
  refine ⟨hT, fun k j hk => ⟨fun h => ?_, fun ⟨g, h1, h2, h3⟩ => ?_⟩, fun k j hk h => (hG _).mp (SM_le hn hT (by omega) (Nat.le_refl n) (hTG k j hk h))⟩
  · obtain ⟨t1, t2, t3, t4⟩ := (hT k hk).2 j h
    exact ⟨_, (hG _).mp (SM_le hn hT (by omega) (Nat.le_refl n) (hTG k j hk h)), t3, t4⟩
  · have h4 := SM_down hn hT (d := n - k) n (by omega) (Nat.le_refl n) ((hG g).mpr h1) (fun i hi => h2 i (by omega))
    rw [show n - k = n - k - 1 + 1 by omega] at h4
    have h5 := h4.1
    rw [show n - (n - k - 1 + 1) = k by omega, h3] at h5
    exact h5
theorem TabG_SM (hn : n ≤ 10) (hG : Sub n G) (h : TabG n G R T) : ∀ d, d ≤ n → ∀ p, SM n R T d p ↔ (G p ∧ ∀ i, i < n - d → p i = i) := by
  intro d
  induction d with
  | zero =>
    intro _ p
    refine ⟨fun e => by rw [show p = idp from e]; exact ⟨hG.2.1, fun _ _ => rfl⟩, fun ⟨a, b⟩ => ?_⟩
    exact IsP_ext (hG.1 p a) (IsP_id n) (fun i hi => b i (by omega))
  | succ d ih =>
    intro hd p
    have ih2 := ih (by omega)
    constructor
    · intro hs
      obtain ⟨j, r, h1, h2, e⟩ := (SM_dec hn h.1 (by omega)).mp hs
      exact ⟨by rw [e]; exact hG.2.2.1 _ _ ((ih2 r).mp h2).1 (h.2.2 _ _ (by omega) h1), (SM_P hn h.1 (d + 1) hd p hs).2⟩
    · intro ⟨a, b⟩
      have h1 : R (n - (d + 1)) (p (n - (d + 1))) := (h.2.1 _ _ (by omega)).mpr ⟨p, a, b, rfl⟩
      refine ⟨h1, (ih2 _).mpr ⟨hG.2.2.1 _ _ a (hG.2.2.2 _ (h.2.2 _ _ (by omega) h1)), fun i hi => ?_⟩⟩
      obtain ⟨t1, t2, t3, t4⟩ := (h.1 (n - (d + 1)) (by omega)).2 _ h1
      show iv (T _ _) (p i) = i
      by_cases e : i = n - (d + 1)
      · rw [← e]; rw [← e] at t4 t2; exact iv_of hn t2 t4
      · rw [b i (by omega)]; exact iv_of hn t2 (t3 i (by omega))
end TG
