/-! What is left when a table's levels take back what they can -/
def RB (R : Nat → Nat → Bool) : Nat → Nat → Prop := fun k j => R k j = true
def sft (n : Nat) (R : Nat → Nat → Bool) (T : Nat → Nat → Nat → Nat) : Nat → (Nat → Nat) → Nat × (Nat → Nat)
  | 0, p => (n, p)
  | d + 1, p => if R (n - (d + 1)) (p (n - (d + 1))) = true then sft n R T d (cp p (iv (T (n - (d + 1)) (p (n - (d + 1)))))) else (n - (d + 1), p)
section SF
variable {n : Nat} {R : Nat → Nat → Bool} {T : Nat → Nat → Nat → Nat}
theorem sft_step (hn : n ≤ 10) (hT : TabOK n (RB R) T) {d : Nat} (hd : d < n) {p : Nat → Nat} (hp : IsP n p) (hf : ∀ i, i < n - (d + 1) → p i = i) (hR : R (n - (d + 1)) (p (n - (d + 1))) = true) :
    IsP n (cp p (iv (T (n - (d + 1)) (p (n - (d + 1)))))) ∧ ∀ i, i < n - d → cp p (iv (T (n - (d + 1)) (p (n - (d + 1))))) i = i := by
  obtain ⟨t1, t2, t3, t4⟩ := (hT (n - (d + 1)) (by omega)).2 _ hR
  refine ⟨IsP_cp hp (IsP_iv hn t2), fun i hi => ?_⟩
  show iv (T _ _) (p i) = i
  by_cases e : i = n - (d + 1)
  · rw [← e]; rw [← e] at t2 t4; exact iv_of hn t2 t4
  · rw [hf i (by omega)]; exact iv_of hn t2 (t3 i (by omega))
theorem sft_ok (hn : n ≤ 10) (hT : TabOK n (RB R) T) : ∀ d, d ≤ n → ∀ p, IsP n p → (∀ i, i < n - d → p i = i) → IsP n (sft n R T d p).2 ∧ n - d ≤ (sft n R T d p).1 ∧ (sft n R T d p).1 ≤ n ∧ (∀ i, i < (sft n R T d p).1 → (sft n R T d p).2 i = i) ∧ ((sft n R T d p).1 < n → R (sft n R T d p).1 ((sft n R T d p).2 (sft n R T d p).1) = false) ∧ (SM n (RB R) T d p ↔ (sft n R T d p).1 = n) := by
  intro d
  induction d with
  | zero =>
    intro _ p hp hf
    refine ⟨hp, Nat.le_refl _, Nat.le_refl _, hf, fun h => absurd h (Nat.lt_irrefl n), ⟨fun _ => rfl, fun _ => ?_⟩⟩
    exact IsP_ext hp (IsP_id n) (fun i hi => hf i (by omega))
  | succ d ih =>
    intro hd p hp hf
    by_cases hR : R (n - (d + 1)) (p (n - (d + 1))) = true
    · have e : sft n R T (d + 1) p = sft n R T d (cp p (iv (T (n - (d + 1)) (p (n - (d + 1)))))) := if_pos hR
      obtain ⟨s1, s2⟩ := sft_step hn hT (by omega) hp hf hR
      obtain ⟨a, b, c, g, h, k⟩ := ih (by omega) _ s1 s2
      rw [e]
      exact ⟨a, by omega, c, g, h, ⟨fun m => k.mp m.2, fun m => ⟨hR, k.mpr m⟩⟩⟩
    · have e : sft n R T (d + 1) p = (n - (d + 1), p) := if_neg hR
      rw [e]
      refine ⟨hp, Nat.le_refl _, by show n - (d + 1) ≤ n; omega, hf, fun _ => by simpa using hR, ⟨fun m => absurd m.1 hR, fun m => ?_⟩⟩
      have : n - (d + 1) = n := m
      omega
theorem sft_id (hn : n ≤ 10) (hT : TabOK n (RB R) T) {d : Nat} (hd : d ≤ n) {p : Nat → Nat} (hp : IsP n p) (hf : ∀ i, i < n - d → p i = i) : (sft n R T d p).2 = idp ↔ (sft n R T d p).1 = n := by
  obtain ⟨a, b, c, g, h, k⟩ := sft_ok hn hT d hd p hp hf
  constructor
  · intro e
    refine Classical.byContradiction fun hne => ?_
    have h1 := h (by omega)
    rw [e] at h1
    have := (hT _ (show (sft n R T d p).1 < n by omega)).1.1
    have h2 : R (sft n R T d p).1 (sft n R T d p).1 = true := this
    have h3 : R (sft n R T d p).1 (sft n R T d p).1 = false := h1
    rw [h2] at h3
    cases h3
  · intro e
    exact IsP_ext a (IsP_id n) (fun i hi => g i (by omega))
/-- in a group with the table's ones, what is left is where what was sifted is -/
theorem sft_in (hn : n ≤ 10) (hT : TabOK n (RB R) T) {H : PS} (hH : Sub n H) : ∀ d, d ≤ n → (∀ k j, n - d ≤ k → k < n → R k j = true → H (T k j)) → ∀ p, IsP n p → (∀ i, i < n - d → p i = i) → (H (sft n R T d p).2 ↔ H p) := by
  intro d
  induction d with
  | zero => intro _ _ p _ _; exact Iff.rfl
  | succ d ih =>
    intro hd hTH p hp hf
    by_cases hR : R (n - (d + 1)) (p (n - (d + 1))) = true
    · have e : sft n R T (d + 1) p = sft n R T d (cp p (iv (T (n - (d + 1)) (p (n - (d + 1)))))) := if_pos hR
      obtain ⟨s1, s2⟩ := sft_step hn hT (by omega) hp hf hR
      rw [e, ih (by omega) (fun k j h1 => hTH k j (by omega)) _ s1 s2]
      have ht := hTH _ _ (Nat.le_refl _) (by omega) hR
      constructor
      · intro h
        have := hH.2.2.1 _ _ h ht
        rwa [cp_as, iv_cp hn (hH.1 _ ht), cp_id] at this
      · intro h
        exact hH.2.2.1 _ _ h (hH.2.2.2 _ ht)
    · have e : sft n R T (d + 1) p = (n - (d + 1), p) := if_neg hR
      rw [e]
end SF
/-- a slot of the reference's tables -/
def RT (I : MI) (s : Nat) : Nat → Nat → Bool := fun k j => decide (j < 10) && decide (I 52 (100 * s + 10 * k + j) ≠ 0)
theorem RT_in {I : MI} {s k j : Nat} (h : j < 10) : RT I s k j = decide (I 52 (100 * s + 10 * k + j) ≠ 0) := by unfold RT; rw [decide_eq_true h, Bool.true_and]
theorem RT_lt {I : MI} {s k j : Nat} (h : RT I s k j = true) : j < 10 := by
  unfold RT at h
  exact of_decide_eq_true (Bool.and_eq_true_iff.mp h).1
def SlotOK (I : MI) (s : Nat) (T : Nat → Nat → Nat → Nat) : Prop := TabOK 10 (RB (RT I s)) T ∧ ∀ k j, k < 10 → j < 10 → RT I s k j = true → Row I 53 (1000 * s + 100 * k + 10 * j) (T k j)
section ST
variable {I : MI} {L : ML} {p : Nat → Nat} {s : Nat} {T : Nat → Nat → Nat → Nat}
theorem ad_100 (s k j : Nat) : ((100 * nI s) + (10 * nI k)) + nI j = nI (100 * s + 10 * k + j) := by
  rw [show (100 : Int32) = nI 100 from rfl, show (10 : Int32) = nI 10 from rfl, pk_mul, pk_mul, nI_add, nI_add]
theorem ad_1000 (s k j : Nat) : ((1000 * nI s) + (100 * nI k)) + (10 * nI j) = nI (1000 * s + 100 * k + 10 * j) := by
  rw [show (1000 : Int32) = nI 1000 from rfl, show (100 : Int32) = nI 100 from rfl, show (10 : Int32) = nI 10 from rfl, pk_mul, pk_mul, pk_mul, nI_add, nI_add]
theorem laysCell_eq {k j a : Nat} (hs : s < 4) (hk : k < 10) (hj : j < 10) (ha : a ≠ 53) {t : Nat → Nat} (ht : Row I 53 (1000 * s + 100 * k + 10 * j) t) : f_X8_laysCell (nI s) (nI k) (nI j) a I L = some (wp I a 0 t, L) := by
  unfold f_X8_laysCell
  rw [ad_1000]
  have := copiesR (I := I) (L := L) (a := 53) (an := 4000) (b := a) (bn := 10) (x := 1000 * s + 100 * k + 10 * j) (y := 0) ht (fun h => ha h.symm) (by omega) (by omega) (by decide) (by decide)
  exact ob this
/-- only rows of some places change -/
def Fr (S : List Nat) (I I' : MI) : Prop := ∀ q, q ∉ S → I' q = I q
theorem Fr.refl {S : List Nat} {I : MI} : Fr S I I := fun _ _ => rfl
theorem Fr.trans {S : List Nat} {I I' I'' : MI} (h : Fr S I I') (h2 : Fr S I' I'') : Fr S I I'' := fun q hq => (h2 q hq).trans (h q hq)
theorem Fr.mono {S S' : List Nat} {I I' : MI} (h : Fr S I I') (hs : ∀ q, q ∈ S → q ∈ S') : Fr S' I I' := fun q hq => h q (fun g => hq (hs q g))
theorem Fr_wp {S : List Nat} {I : MI} {to wh : Nat} {p : Nat → Nat} (h : to ∈ S) : Fr S I (wp I to wh p) := fun q hq => wp_ne (fun e => hq (e ▸ h))
theorem SlotOK.fr {I I' : MI} (h : SlotOK I s T) (h1 : I' 52 = I 52) (h2 : I' 53 = I 53) : SlotOK I' s T := by
  have e : RT I' s = RT I s := by funext k j; unfold RT; rw [h1]
  unfold SlotOK
  rw [e]
  exact ⟨h.1, fun k j hk hj hr => Row_of h2 (h.2 k j hk hj hr)⟩
theorem sifts_l (hs : s < 4) (a : Nat) : ∀ d fu I L p, d ≤ 10 → d < fu → SlotOK I s T → Row I 56 0 p → IsP 10 p → (∀ i, i < 10 - d → p i = i) → ∃ I', f_X8_sifts_12 a (nI s) fu (nI (10 - d)) I L = some (nI (sft 10 (RT I s) T d p).1, I', L) ∧ Fr [54, 55, 56] I I' ∧ Row I' 56 0 (sft 10 (RT I s) T d p).2 := by
  intro d
  induction d with
  | zero =>
    intro fu I L p _ h2 hS hr hp hf
    obtain ⟨fu, rfl⟩ : ∃ m, fu = m + 1 := ⟨fu - 1, by omega⟩
    rw [f_X8_sifts_12, show 10 - 0 = 10 from rfl, if_pos (by decide)]
    exact ⟨I, rfl, Fr.refl, hr⟩
  | succ d ih =>
    intro fu I L p hd h2 hS hr hp hf
    obtain ⟨fu, rfl⟩ : ∃ m, fu = m + 1 := ⟨fu - 1, by omega⟩
    have hk : 10 - (d + 1) < 10 := by omega
    have hj := hp.1 _ hk
    rw [f_X8_sifts_12, if_neg (ge10 hk), q_chk hk (by decide), bnd_eq, q_ix (by omega), Row0 hr hk, ad_100, q_chk (by omega) (by decide), q_ix (by omega)]
    have hRv : RT I s (10 - (d + 1)) (p (10 - (d + 1))) = decide (I 52 (100 * s + 10 * (10 - (d + 1)) + p (10 - (d + 1))) ≠ 0) := RT_in hj
    by_cases hR : RT I s (10 - (d + 1)) (p (10 - (d + 1))) = true
    · have hR2 : ¬ I 52 (100 * s + 10 * (10 - (d + 1)) + p (10 - (d + 1))) = 0 := of_decide_eq_true (hRv ▸ hR)
      have e : sft 10 (RT I s) T (d + 1) p = sft 10 (RT I s) T d (cp p (iv (T (10 - (d + 1)) (p (10 - (d + 1)))))) := if_pos hR
      obtain ⟨s1, s2⟩ := sft_step (Nat.le_refl 10) hS.1 (by omega) hp hf hR
      rw [if_neg hR2, ifc (q_eq (by omega) (by omega)), e]
      obtain ⟨t1, t2, t3, t4⟩ := (hS.1 (10 - (d + 1)) (by omega)).2 _ hR
      by_cases hjk : p (10 - (d + 1)) = 10 - (d + 1)
      · rw [if_pos hjk, bnd_eq, nI_1, show 10 - (d + 1) + 1 = 10 - d by omega]
        have e2 : cp p (iv (T (10 - (d + 1)) (p (10 - (d + 1))))) = p := by
          rw [hjk, ((hS.1 (10 - (d + 1)) (by omega)).1).2, iv_id, cp_id]
        rw [e2] at s1 s2 ⊢
        exact ih fu I L p (by omega) (by omega) hS hr s1 s2
      · rw [if_neg hjk, ob (laysCell_eq hs hk hj (by decide) (hS.2 _ _ hk hj hR))]
        have r1 : Row (wp I 54 0 (T (10 - (d + 1)) (p (10 - (d + 1))))) 54 0 (T (10 - (d + 1)) (p (10 - (d + 1)))) := Row_wp
        rw [ob (inverts_eq r1 t2 (by decide))]
        have r2 : Row (wp (wp I 54 0 (T (10 - (d + 1)) (p (10 - (d + 1))))) 55 0 (iv (T (10 - (d + 1)) (p (10 - (d + 1)))))) 56 0 p := Row_ne (by decide) (Row_ne (by decide) hr)
        rw [ob (copies10 r2 (by decide))]
        have r3 : Row (wp (wp (wp I 54 0 (T (10 - (d + 1)) (p (10 - (d + 1))))) 55 0 (iv (T (10 - (d + 1)) (p (10 - (d + 1)))))) 54 0 p) 54 0 p := Row_wp
        have r4 : Row (wp (wp (wp I 54 0 (T (10 - (d + 1)) (p (10 - (d + 1))))) 55 0 (iv (T (10 - (d + 1)) (p (10 - (d + 1)))))) 54 0 p) 55 0 (iv (T (10 - (d + 1)) (p (10 - (d + 1))))) := Row_ne (by decide) Row_wp
        rw [ob (makes_eq r3 r4 hp (by decide) (by decide)), bnd_eq, nI_1, show 10 - (d + 1) + 1 = 10 - d by omega]
        have hfr : Fr [54, 55, 56] I (wp (wp (wp (wp I 54 0 (T (10 - (d + 1)) (p (10 - (d + 1))))) 55 0 (iv (T (10 - (d + 1)) (p (10 - (d + 1)))))) 54 0 p) 56 0 (cp p (iv (T (10 - (d + 1)) (p (10 - (d + 1))))))) :=
          (((Fr_wp (by decide)).trans (Fr_wp (by decide))).trans (Fr_wp (by decide))).trans (Fr_wp (by decide))
        have eR : RT (wp (wp (wp (wp I 54 0 (T (10 - (d + 1)) (p (10 - (d + 1))))) 55 0 (iv (T (10 - (d + 1)) (p (10 - (d + 1)))))) 54 0 p) 56 0 (cp p (iv (T (10 - (d + 1)) (p (10 - (d + 1))))))) s = RT I s := by
          funext k j; unfold RT; rw [hfr 52 (by decide)]
        obtain ⟨I', i1, i2, i3⟩ := ih fu _ L _ (by omega) (by omega) (hS.fr (hfr 52 (by decide)) (hfr 53 (by decide))) Row_wp s1 s2
        rw [eR] at i1 i3
        exact ⟨I', i1, hfr.trans i2, i3⟩
    · have hR2 : I 52 (100 * s + 10 * (10 - (d + 1)) + p (10 - (d + 1))) = 0 := by
        refine Classical.byContradiction fun h => hR ?_
        rw [hRv]; exact decide_eq_true h
      have e : sft 10 (RT I s) T (d + 1) p = (10 - (d + 1), p) := if_neg hR
      rw [if_pos hR2, e]
      exact ⟨I, rfl, Fr.refl, hr⟩
theorem sifts_eq (hs : s < 4) {a : Nat} (ha : a ≠ 56) (hS : SlotOK I s T) (hr : Row I a 0 p) (hp : IsP 10 p) : ∃ I', f_X8_sifts (nI s) a I L = some (nI (sft 10 (RT I s) T 10 p).1, I', L) ∧ Fr [54, 55, 56] I I' ∧ Row I' 56 0 (sft 10 (RT I s) T 10 p).2 := by
  unfold f_X8_sifts
  rw [ob (copies10 hr ha)]
  have hfr : Fr [54, 55, 56] I (wp I 56 0 p) := Fr_wp (by decide)
  have eR : RT (wp I 56 0 p) s = RT I s := by funext k j; unfold RT; rw [hfr 52 (by decide)]
  obtain ⟨I', i1, i2, i3⟩ := sifts_l hs a 10 FU (wp I 56 0 p) L p (Nat.le_refl 10) (by unfold FU; omega) (hS.fr (hfr 52 (by decide)) (hfr 53 (by decide))) Row_wp hp (fun i hi => by omega)
  rw [eR] at i1 i3
  exact ⟨I', i1, hfr.trans i2, i3⟩
end ST
