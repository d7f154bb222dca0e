/-! Words of steps, told by a key: 1 for none, 12 times the key and the step for one more; the least key of one tells its first shortest way -/
def stp (mv : Nat → Nat → Nat) (s : Nat) : Nat → Nat := if s % 2 = 0 then mv (s / 2) else iv (mv (s / 2))
def Gp (n m : Nat) (mv : Nat → Nat → Nat) : PS := Gen n (MS mv (2 ^ m - 1) m)
def PK (m : Nat) (mv : Nat → Nat → Nat) : Nat → Nat → PS
  | 0 => fun k p => k = 1 ∧ p = idp
  | d + 1 => fun k p => ∃ k' s q, s < 2 * m ∧ k = 12 * k' + s ∧ PK m mv d k' q ∧ p = cp q (stp mv s)
def DK (m : Nat) (mv : Nat → Nat → Nat) (N : Nat) (e : Nat → Nat → Nat) (dp kk : Nat → Nat) : Prop := ∀ x, x < N → PK m mv (dp x) (kk x) (e x) ∧ ∀ d k, PK m mv d k (e x) → kk x ≤ k
section WD
variable {n m N : Nat} {mv : Nat → Nat → Nat} {e : Nat → Nat → Nat} {dp kk : Nat → Nat}
theorem MS_P (hmv : ∀ i, i < m → IsP n (mv i)) (set : Nat) : ∀ a, MS mv set m a → IsP n a := fun a ⟨t, h1, _, h3⟩ => by rw [h3]; exact hmv t h1
theorem Gp_Sub (hn : n ≤ 10) (hmv : ∀ i, i < m → IsP n (mv i)) : Sub n (Gp n m mv) := Gen_Sub hn (MS_P hmv _)
theorem Gp_mv {i : Nat} (hi : i < m) : Gp n m mv (mv i) := Gen_in ⟨i, hi, by rw [Nat.testBit_two_pow_sub_one]; exact decide_eq_true hi, rfl⟩
theorem IsP_stp (hn : n ≤ 10) (hmv : ∀ i, i < m → IsP n (mv i)) {s : Nat} (hs : s < 2 * m) : IsP n (stp mv s) := by
  unfold stp
  split
  · exact hmv _ (by omega)
  · exact IsP_iv hn (hmv _ (by omega))
theorem Gp_stp (hn : n ≤ 10) (hmv : ∀ i, i < m → IsP n (mv i)) {s : Nat} (hs : s < 2 * m) : Gp n m mv (stp mv s) := by
  unfold stp
  split
  · exact Gp_mv (by omega)
  · exact (Gp_Sub hn hmv).2.2.2 _ (Gp_mv (by omega))
theorem PK_G (hn : n ≤ 10) (hmv : ∀ i, i < m → IsP n (mv i)) : ∀ d k p, PK m mv d k p → Gp n m mv p := by
  intro d
  induction d with
  | zero => intro k p h; rw [h.2]; exact (Gp_Sub hn hmv).2.1
  | succ d ih =>
    intro k p ⟨k', s, q, h1, h2, h3, h4⟩
    rw [h4]
    exact (Gp_Sub hn hmv).2.2.1 _ _ (ih k' q h3) (Gp_stp hn hmv h1)
theorem PK_ex (hn : n ≤ 10) (hmv : ∀ i, i < m → IsP n (mv i)) {p : Nat → Nat} (hp : Gp n m mv p) : ∃ d k, PK m mv d k p := by
  refine Gen_right (M := fun p => ∃ d k, PK m mv d k p) hn (MS_P hmv _) ⟨0, 1, rfl, rfl⟩ (fun q s ⟨d, k, h⟩ ⟨t, t1, t2, t3⟩ => ?_) p hp
  refine ⟨d + 1, 12 * k + 2 * t, k, 2 * t, q, by omega, rfl, h, ?_⟩
  unfold stp
  rw [if_pos (by omega), show 2 * t / 2 = t by omega, t3]
theorem PK_rng (hm : m ≤ 6) : ∀ d k p, PK m mv d k p → 12 ^ d ≤ k ∧ k < 2 * 12 ^ d := by
  intro d
  induction d with
  | zero => intro k p h; rw [h.1]; decide
  | succ d ih =>
    intro k p ⟨k', s, q, h1, h2, h3, h4⟩
    obtain ⟨a, b⟩ := ih k' q h3
    rw [Nat.pow_succ]
    omega
theorem rng_un {d d' k : Nat} (h : 12 ^ d ≤ k ∧ k < 2 * 12 ^ d) (h' : 12 ^ d' ≤ k ∧ k < 2 * 12 ^ d') : d = d' := by
  rcases Nat.lt_trichotomy d d' with g | g | g
  · have : 12 ^ (d + 1) ≤ 12 ^ d' := Nat.pow_le_pow_right (by decide) g
    rw [Nat.pow_succ] at this; omega
  · exact g
  · have : 12 ^ (d' + 1) ≤ 12 ^ d := Nat.pow_le_pow_right (by decide) g
    rw [Nat.pow_succ] at this; omega
theorem PK_fun (hm : m ≤ 6) : ∀ d k p q, PK m mv d k p → PK m mv d k q → p = q := by
  intro d
  induction d with
  | zero => intro k p q h1 h2; rw [h1.2, h2.2]
  | succ d ih =>
    intro k p q ⟨k1, s1, q1, a1, a2, a3, a4⟩ ⟨k2, s2, q2, b1, b2, b3, b4⟩
    have e1 : k1 = k2 := by omega
    have e2 : s1 = s2 := by omega
    subst e1 e2
    rw [a4, b4, ih k1 q1 q2 a3 b3]
theorem DK_ex (hn : n ≤ 10) (hmv : ∀ i, i < m → IsP n (mv i)) (he : EL n (Gp n m mv) N e) : ∃ dp kk, DK m mv N e dp kk := by
  have h : ∀ x, ∃ z : Nat × Nat, x < N → PK m mv z.1 z.2 (e x) ∧ ∀ d k, PK m mv d k (e x) → z.2 ≤ k := fun x => by
    by_cases hx : x < N
    · obtain ⟨d, k, hk⟩ := PK_ex hn hmv (he.1 x hx)
      obtain ⟨k0, _, ⟨d0, h2⟩, h3⟩ := least_ex (fun k => ∃ d, PK m mv d k (e x)) k ⟨d, hk⟩
      exact ⟨(d0, k0), fun _ => ⟨h2, fun d' k' h' => Nat.le_of_not_lt (fun hlt => h3 k' hlt ⟨d', h'⟩)⟩⟩
    · exact ⟨(0, 0), fun g => absurd g hx⟩
  obtain ⟨z, hz⟩ := Classical.axiomOfChoice h
  exact ⟨fun x => (z x).1, fun x => (z x).2, fun x hx => hz x hx⟩
theorem DK_mono (hm : m ≤ 6) (hD : DK m mv N e dp kk) {x y : Nat} (hx : x < N) (hy : y < N) (h : kk x ≤ kk y) : dp x ≤ dp y := by
  have a := PK_rng hm _ _ _ (hD x hx).1
  have b := PK_rng hm _ _ _ (hD y hy).1
  refine Nat.le_of_not_lt fun hlt => ?_
  have : 12 ^ (dp y + 1) ≤ 12 ^ dp x := Nat.pow_le_pow_right (by decide) hlt
  rw [Nat.pow_succ] at this
  omega
theorem DK_inj (hm : m ≤ 6) (he : EL n (Gp n m mv) N e) (hD : DK m mv N e dp kk) {x y : Nat} (hx : x < N) (hy : y < N) (h : kk x = kk y) : x = y := by
  have a := (hD x hx).1
  have b := (hD y hy).1
  have ra := PK_rng hm _ _ _ a
  have rb := PK_rng hm _ _ _ b
  rw [h] at a ra
  rw [rng_un ra rb] at a
  exact EL_inj he hx hy (PK_fun hm _ _ _ _ a b)
theorem DK_un (hm : m ≤ 6) (hD : DK m mv N e dp kk) {dp' kk' : Nat → Nat} (hD' : DK m mv N e dp' kk') {x : Nat} (hx : x < N) : dp x = dp' x ∧ kk x = kk' x := by
  obtain ⟨a1, a2⟩ := hD x hx
  obtain ⟨b1, b2⟩ := hD' x hx
  have e1 : kk x = kk' x := Nat.le_antisymm (a2 _ _ b1) (b2 _ _ a1)
  refine ⟨rng_un (PK_rng hm _ _ _ a1) (by rw [e1]; exact PK_rng hm _ _ _ b1), e1⟩
theorem DK_0 (hn : n ≤ 10) (hm : m ≤ 6) (hmv : ∀ i, i < m → IsP n (mv i)) (he : EL n (Gp n m mv) N e) (hD : DK m mv N e dp kk) : dp 0 = 0 ∧ kk 0 = 1 := by
  have hG := Gp_Sub hn hmv
  have hN := EL_pos hG he
  have h1 := (hD 0 hN).2 0 1 ⟨rfl, EL_0 hn hG he⟩
  have h2 := PK_rng hm _ _ _ (hD 0 hN).1
  have h3 : 0 < 12 ^ dp 0 := Nat.pow_pos (by decide)
  have h4 : kk 0 = 1 := by omega
  refine ⟨rng_un (k := 1) (h4 ▸ h2) (by decide), h4⟩
theorem DK_par (hn : n ≤ 10) (hm : m ≤ 6) (hmv : ∀ i, i < m → IsP n (mv i)) (he : EL n (Gp n m mv) N e) (hD : DK m mv N e dp kk) {x : Nat} (hx : x < N) (h0 : x ≠ 0) : kk x % 12 < 2 * m ∧ ∃ y, y < N ∧ kk y = kk x / 12 ∧ dp x = dp y + 1 ∧ e x = cp (e y) (stp mv (kk x % 12)) := by
  have hG := Gp_Sub hn hmv
  obtain ⟨a, b⟩ := hD x hx
  cases hd : dp x with
  | zero =>
    rw [hd] at a
    exact absurd (EL_inj he hx (EL_pos hG he) (a.2.trans (EL_0 hn hG he).symm)) h0
  | succ d =>
    rw [hd] at a
    obtain ⟨k', s, q, h1, h2, h3, h4⟩ := a
    obtain ⟨y, hy, ey⟩ := he.2.1 q (PK_G hn hmv d k' q h3)
    obtain ⟨c1, c2⟩ := hD y hy
    have h5 : kk y ≤ k' := c2 d k' (ey ▸ h3)
    have h6 : kk x ≤ 12 * kk y + s := b (dp y + 1) _ ⟨kk y, s, e y, h1, rfl, c1, by rw [ey]; exact h4⟩
    have h7 : kk y = k' := by omega
    have h8 : dp y = d := rng_un (PK_rng hm _ _ _ c1) (by rw [h7]; exact PK_rng hm _ _ _ h3)
    have e1 : kk x % 12 = s := by omega
    refine ⟨by omega, y, hy, by omega, by rw [h8], ?_⟩
    rw [e1, ey]; exact h4
theorem DK_step (hD : DK m mv N e dp kk) {x y s : Nat} (hx : x < N) (hy : y < N) (hs : s < 2 * m) (h : e y = cp (e x) (stp mv s)) : kk y ≤ 12 * kk x + s :=
  (hD y hy).2 (dp x + 1) _ ⟨kk x, s, e x, hs, rfl, (hD x hx).1, h⟩
end WD
/-! Going through them in breadth -/
def BI (N : Nat) (kk : Nat → Nat) (i s fin : Nat) (q : Nat → Nat) : Prop :=
  fin ≤ N ∧ (∀ j, j < fin → q j < N) ∧ (∀ j j', j < j' → j' < fin → kk (q j) < kk (q j')) ∧ i ≤ fin ∧
  (∀ x, x < N → ((∃ j, j < fin ∧ q j = x) ↔ (x = 0 ∨ (x ≠ 0 ∧ ((∃ j, j < i ∧ kk (q j) = kk x / 12) ∨ (i < fin ∧ kk (q i) = kk x / 12 ∧ kk x % 12 < s))))))
section BF
variable {n m N : Nat} {mv : Nat → Nat → Nat} {e : Nat → Nat → Nat} {dp kk : Nat → Nat} {i s fin : Nat} {q : Nat → Nat}
theorem BI_0 (hN : 0 < N) : BI N kk 0 0 1 (fun _ => 0) := by
  refine ⟨hN, fun j _ => hN, fun j j' h1 h2 => by omega, Nat.zero_le _, fun x hx => ⟨fun ⟨j, _, h⟩ => Or.inl h.symm, fun h => ?_⟩⟩
  rcases h with h | ⟨_, ⟨j, hj, _⟩ | ⟨_, _, h⟩⟩
  · exact ⟨0, by omega, h.symm⟩
  · omega
  · omega
theorem BI_low (hn : n ≤ 10) (hm : m ≤ 6) (hmv : ∀ i, i < m → IsP n (mv i)) (he : EL n (Gp n m mv) N e) (hD : DK m mv N e dp kk) (h : BI N kk i s fin q) (hi : i < fin) : ∀ k u, u < N → kk u = k → kk u < kk (q i) → ∃ j, j < i ∧ q j = u := by
  intro k
  induction k using Nat.strongRecOn with
  | ind k ih =>
    intro u hu hk hlt
    have hdisc : ∃ j, j < fin ∧ q j = u := by
      by_cases h0 : u = 0
      · exact (h.2.2.2.2 u hu).mpr (Or.inl h0)
      · obtain ⟨_, y, hy, y1, y2, y3⟩ := DK_par hn hm hmv he hD hu h0
        have hk1 : 0 < 12 ^ dp u := Nat.pow_pos (by decide)
        have hk2 := (PK_rng hm _ _ _ (hD u hu).1).1
        obtain ⟨j, hj, ej⟩ := ih (kk y) (by omega) y hy rfl (by omega)
        exact (h.2.2.2.2 u hu).mpr (Or.inr ⟨h0, Or.inl ⟨j, hj, by rw [ej, y1]⟩⟩)
    obtain ⟨j, hj, ej⟩ := hdisc
    refine ⟨j, ?_, ej⟩
    rcases Nat.lt_trichotomy j i with g | g | g
    · exact g
    · subst g; rw [ej] at hlt; omega
    · have := h.2.2.1 i j g hj; rw [ej] at this; omega
theorem BI_old (hn : n ≤ 10) (hm : m ≤ 6) (hmv : ∀ i, i < m → IsP n (mv i)) (he : EL n (Gp n m mv) N e) (hD : DK m mv N e dp kk) (h : BI N kk i s fin q) (hi : i < fin) {y : Nat} (hy : y < N) (ey : e y = cp (e (q i)) (stp mv s)) (hd : ∃ j, j < fin ∧ q j = y) : BI N kk i (s + 1) fin q := by
  refine ⟨h.1, h.2.1, h.2.2.1, h.2.2.2.1, fun x hx => ⟨fun g => ?_, fun g => ?_⟩⟩
  · rcases (h.2.2.2.2 x hx).mp g with g | ⟨g0, g | ⟨g1, g2, g3⟩⟩
    · exact Or.inl g
    · exact Or.inr ⟨g0, Or.inl g⟩
    · exact Or.inr ⟨g0, Or.inr ⟨g1, g2, by omega⟩⟩
  · rcases g with g | ⟨g0, g | ⟨g1, g2, g3⟩⟩
    · exact (h.2.2.2.2 x hx).mpr (Or.inl g)
    · exact (h.2.2.2.2 x hx).mpr (Or.inr ⟨g0, Or.inl g⟩)
    · by_cases h4 : kk x % 12 < s
      · exact (h.2.2.2.2 x hx).mpr (Or.inr ⟨g0, Or.inr ⟨g1, g2, h4⟩⟩)
      · obtain ⟨_, z, hz, z1, z2, z3⟩ := DK_par hn hm hmv he hD hx g0
        have e1 : z = q i := DK_inj hm he hD hz (h.2.1 i hi) (by rw [z1, g2])
        have e2 : kk x % 12 = s := by omega
        rw [e1, e2, ← ey] at z3
        rw [EL_inj he hx hy z3]; exact hd
theorem BI_new (hn : n ≤ 10) (hm : m ≤ 6) (hmv : ∀ i, i < m → IsP n (mv i)) (he : EL n (Gp n m mv) N e) (hD : DK m mv N e dp kk) (h : BI N kk i s fin q) (hi : i < fin) (hs : s < 2 * m) {y : Nat} (hy : y < N) (ey : e y = cp (e (q i)) (stp mv s)) (hd : ¬ ∃ j, j < fin ∧ q j = y) : fin < N ∧ kk y = 12 * kk (q i) + s ∧ dp y = dp (q i) + 1 ∧ BI N kk i (s + 1) (fin + 1) (us q fin y) := by
  have h0 : y ≠ 0 := fun g => hd ((h.2.2.2.2 y hy).mpr (Or.inl g))
  obtain ⟨p1, z, hz, z1, z2, z3⟩ := DK_par hn hm hmv he hD hy h0
  have hst := DK_step hD (h.2.1 i hi) hy hs ey
  have hge : ¬ kk z < kk (q i) := fun hlt => by
    obtain ⟨j, hj, ej⟩ := BI_low hn hm hmv he hD h hi _ z hz rfl hlt
    exact hd ((h.2.2.2.2 y hy).mpr (Or.inr ⟨h0, Or.inl ⟨j, hj, by rw [ej, z1]⟩⟩))
  have e1 : kk (q i) = kk y / 12 := by omega
  have e2 : ¬ kk y % 12 < s := fun hlt => hd ((h.2.2.2.2 y hy).mpr (Or.inr ⟨h0, Or.inr ⟨hi, e1, hlt⟩⟩))
  have ek : kk y = 12 * kk (q i) + s := by omega
  have ez : z = q i := DK_inj hm he hD hz (h.2.1 i hi) (by rw [z1, e1])
  have hus : ∀ j, j < fin → us q fin y j = q j := fun j hj => us_n (by omega)
  have hqi : ∀ j j', j < fin → j' < fin → q j = q j' → j = j' := fun j j' hj hj' g => by
    rcases Nat.lt_trichotomy j j' with a | a | a
    · have := h.2.2.1 j j' a hj'; rw [g] at this; omega
    · exact a
    · have := h.2.2.1 j' j a hj; rw [g] at this; omega
  have hfin : fin + 1 ≤ N := le_of_inj (us q fin y) (fun j hj => by
    by_cases g : j < fin
    · rw [hus j g]; exact h.2.1 j g
    · rw [show j = fin by omega, us_s]; exact hy) (fun j j' hj hj' g => by
    by_cases a : j < fin
    · rw [hus j a] at g
      by_cases b : j' < fin
      · rw [hus j' b] at g; exact hqi j j' a b g
      · rw [show j' = fin by omega, us_s] at g; exact absurd ⟨j, a, g⟩ hd
    · rw [show j = fin by omega, us_s] at g
      by_cases b : j' < fin
      · rw [hus j' b] at g; exact absurd ⟨j', b, g.symm⟩ hd
      · omega)
  refine ⟨hfin, ek, by rw [z2, ez], hfin, fun j hj => ?_, fun j j' hjj hj' => ?_, by have := h.2.2.2.1; omega, fun x hx => ?_⟩
  · by_cases g : j < fin
    · rw [hus j g]; exact h.2.1 j g
    · rw [show j = fin by omega, us_s]; exact hy
  · by_cases g : j' < fin
    · rw [hus j (by omega), hus j' g]; exact h.2.2.1 j j' hjj g
    · rw [show j' = fin by omega, us_s, hus j (by omega)]
      have hjf : j < fin := by omega
      by_cases hx0 : q j = 0
      · rw [hx0, (DK_0 hn hm hmv he hD).2]
        have hk1 : 0 < 12 ^ dp (q i) := Nat.pow_pos (by decide)
        have hk2 := (PK_rng hm _ _ _ (hD (q i) (h.2.1 i hi)).1).1
        omega
      · rcases (h.2.2.2.2 (q j) (h.2.1 j hjf)).mp ⟨j, hjf, rfl⟩ with g | ⟨_, ⟨j2, a1, a2⟩ | ⟨a1, a2, a3⟩⟩
        · exact absurd g hx0
        · have := h.2.2.1 j2 i a1 hi
          omega
        · omega
  · have hL : (∃ j, j < fin + 1 ∧ us q fin y j = x) ↔ ((∃ j, j < fin ∧ q j = x) ∨ x = y) := by
      constructor
      · intro ⟨j, hj, ej⟩
        by_cases g : j < fin
        · rw [hus j g] at ej; exact Or.inl ⟨j, g, ej⟩
        · rw [show j = fin by omega, us_s] at ej; exact Or.inr ej.symm
      · intro g
        rcases g with ⟨j, hj, ej⟩ | g
        · exact ⟨j, by omega, by rw [hus j hj]; exact ej⟩
        · exact ⟨fin, by omega, by rw [us_s, g]⟩
    rw [hL, h.2.2.2.2 x hx, hus i hi]
    constructor
    · intro g
      rcases g with (g | ⟨g0, ⟨j, a1, a2⟩ | ⟨g1, g2, g3⟩⟩) | g
      · exact Or.inl g
      · exact Or.inr ⟨g0, Or.inl ⟨j, a1, by rw [hus j (by omega)]; exact a2⟩⟩
      · exact Or.inr ⟨g0, Or.inr ⟨by omega, g2, by omega⟩⟩
      · subst g
        exact Or.inr ⟨h0, Or.inr ⟨by omega, e1, by omega⟩⟩
    · intro g
      rcases g with g | ⟨g0, ⟨j, a1, a2⟩ | ⟨g1, g2, g3⟩⟩
      · exact Or.inl (Or.inl g)
      · rw [hus j (by omega)] at a2
        exact Or.inl (Or.inr ⟨g0, Or.inl ⟨j, a1, a2⟩⟩)
      · by_cases h4 : kk x % 12 < s
        · exact Or.inl (Or.inr ⟨g0, Or.inr ⟨hi, g2, h4⟩⟩)
        · exact Or.inr (DK_inj hm he hD hx hy (by omega))
theorem BI_next (hn : n ≤ 10) (hm : m ≤ 6) (hmv : ∀ i, i < m → IsP n (mv i)) (he : EL n (Gp n m mv) N e) (hD : DK m mv N e dp kk) (h : BI N kk i (2 * m) fin q) (hi : i < fin) : BI N kk (i + 1) 0 fin q := by
  refine ⟨h.1, h.2.1, h.2.2.1, hi, fun x hx => (h.2.2.2.2 x hx).trans ⟨fun g => ?_, fun g => ?_⟩⟩
  · rcases g with g | ⟨g0, ⟨j, a1, a2⟩ | ⟨g1, g2, g3⟩⟩
    · exact Or.inl g
    · exact Or.inr ⟨g0, Or.inl ⟨j, by omega, a2⟩⟩
    · exact Or.inr ⟨g0, Or.inl ⟨i, by omega, g2⟩⟩
  · rcases g with g | ⟨g0, ⟨j, a1, a2⟩ | ⟨g1, g2, g3⟩⟩
    · exact Or.inl g
    · by_cases g4 : j < i
      · exact Or.inr ⟨g0, Or.inl ⟨j, g4, a2⟩⟩
      · exact Or.inr ⟨g0, Or.inr ⟨hi, by rw [← show j = i by omega]; exact a2, (DK_par hn hm hmv he hD hx g0).1⟩⟩
    · omega
theorem BI_end (hn : n ≤ 10) (hm : m ≤ 6) (hmv : ∀ i, i < m → IsP n (mv i)) (he : EL n (Gp n m mv) N e) (hD : DK m mv N e dp kk) (h : BI N kk i s fin q) (hi : i = fin) : fin = N ∧ ∀ x, x < N → ∃ j, j < fin ∧ q j = x := by
  have key : ∀ k x, x < N → kk x = k → ∃ j, j < fin ∧ q j = x := by
    intro k
    induction k using Nat.strongRecOn with
    | ind k ih =>
      intro x hx hk
      by_cases h0 : x = 0
      · exact (h.2.2.2.2 x hx).mpr (Or.inl h0)
      · obtain ⟨_, y, hy, y1, y2, y3⟩ := DK_par hn hm hmv he hD hx h0
        have hk1 : 0 < 12 ^ dp x := Nat.pow_pos (by decide)
        have hk2 := (PK_rng hm _ _ _ (hD x hx).1).1
        obtain ⟨j, hj, ej⟩ := ih (kk y) (by omega) y hy rfl
        exact (h.2.2.2.2 x hx).mpr (Or.inr ⟨h0, Or.inl ⟨j, by omega, by rw [ej, y1]⟩⟩)
  refine ⟨Nat.le_antisymm h.1 ?_, fun x hx => key _ x hx rfl⟩
  have hx : ∀ x, ∃ j, x < N → j < fin ∧ q j = x := fun x => by
    by_cases g : x < N
    · obtain ⟨j, hj⟩ := key _ x g rfl; exact ⟨j, fun _ => hj⟩
    · exact ⟨0, fun a => absurd a g⟩
  obtain ⟨f, hf⟩ := Classical.axiomOfChoice hx
  exact le_of_inj f (fun x hx => (hf x hx).1) (fun x y hx hy g => by rw [← (hf x hx).2, ← (hf y hy).2, g])
theorem BI_full (h : BI N kk i s fin q) (hf : fin = N) : ∀ x, x < N → ∃ j, j < fin ∧ q j = x := by
  intro x hx
  subst hf
  refine pigeon fin q h.2.1 (fun j j' hj hj' g => ?_) x hx
  rcases Nat.lt_trichotomy j j' with a | a | a
  · have := h.2.2.1 j j' a hj'; rw [g] at this; omega
  · exact a
  · have := h.2.2.1 j' j a hj; rw [g] at this; omega
end BF
