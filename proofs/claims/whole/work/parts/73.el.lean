/-! A group's ones in order -/
def EL (n : Nat) (G : PS) (N : Nat) (e : Nat → Nat → Nat) : Prop := (∀ i, i < N → G (e i)) ∧ (∀ p, G p → ∃ i, i < N ∧ e i = p) ∧ (∀ i j, i < j → j < N → E 10 (cn n (e i)) < E 10 (cn n (e j)))
theorem E_first {n : Nat} {p q : Nat → Nat} (hn : n ≤ 10) (hp : IsP n p) (hq : IsP n q) : E 10 (cn n p) < E 10 (cn n q) ↔ ∃ l, l < n ∧ (∀ t, t < l → p t = q t) ∧ p l < q l := by
  have lex : ∀ {p q : Nat → Nat}, IsP n p → IsP n q → (∃ l, l < n ∧ (∀ t, t < l → p t = q t) ∧ p l < q l) → E 10 (cn n p) < E 10 (cn n q) := fun {p q} hp hq ⟨l, h1, h2, h3⟩ => E_lex (k := l) (cn_lt hn hp) (cn_lt hn hq) (by omega) (fun i hi => by rw [cn_in (by omega), cn_in (by omega)]; exact h2 i hi) (by rw [cn_in h1, cn_in h1]; exact h3)
  refine ⟨fun h => ?_, lex hp hq⟩
  by_cases hd : ∃ i, i < n ∧ p i ≠ q i
  · obtain ⟨l, a, b, c⟩ := first_diff n hd
    rcases Nat.lt_or_gt_of_ne c with c | c
    · exact ⟨l, a, b, c⟩
    · have := lex hq hp ⟨l, a, fun t ht => (b t ht).symm, c⟩
      omega
  · have e : p = q := IsP_ext hp hq (fun i hi => Classical.byContradiction fun g => hd ⟨i, hi, g⟩)
    rw [e] at h
    omega
theorem mono_id {f : Nat → Nat} {N M : Nat} (h1 : ∀ i, i < N → f i < M) (h2 : ∀ i j, i < j → j < N → f i < f j) (h3 : ∀ x, x < M → ∃ i, i < N ∧ f i = x) : N = M ∧ ∀ i, i < N → f i = i := by
  have hge : ∀ i, i < N → i ≤ f i := by
    intro i
    induction i with
    | zero => intro _; exact Nat.zero_le _
    | succ i ih => intro hi; have := ih (by omega); have := h2 i (i + 1) (by omega) hi; omega
  have hid : ∀ i, i < N → f i = i := by
    intro i
    induction i using Nat.strongRecOn with
    | ind i ih =>
      intro hi
      have h4 := hge i hi
      refine Classical.byContradiction fun hne => ?_
      obtain ⟨j, hj, e⟩ := h3 i (by have := h1 i hi; omega)
      rcases Nat.lt_trichotomy j i with g | g | g
      · have := ih j g hj; omega
      · subst g; exact hne e
      · have := h2 i j g hj; omega
  refine ⟨?_, hid⟩
  refine Nat.le_antisymm (Nat.le_of_not_lt fun h => ?_) (Nat.le_of_not_lt fun h => ?_)
  · have := h1 M h; have := hid M h; omega
  · obtain ⟨i, hi, e⟩ := h3 N h
    have := hid i hi; omega
section EL1
variable {n N : Nat} {G : PS} {R : Nat → Nat → Bool} {T : Nat → Nat → Nat → Nat} {e : Nat → Nat → Nat}
theorem EL_P (hG : Sub n G) (he : EL n G N e) {i : Nat} (hi : i < N) : IsP n (e i) := hG.1 _ (he.1 i hi)
theorem EL_tab (hn : n ≤ 10) (hG : Sub n G) (h : TabG n G (RB R) T) (he : EL n G N e) : N = sz R n n ∧ ∀ i, i < N → rkF n R T (e i) n = i := by
  refine mono_id (f := fun i => rkF n R T (e i) n) (fun i hi => rk_lt hn hG h (he.1 i hi) n (Nat.le_refl n)) (fun i j hij hj => ?_) (fun x hx => ?_)
  · obtain ⟨l, a, b, c⟩ := (E_first hn (EL_P hG he (by omega)) (EL_P hG he hj)).mp (he.2.2 i j hij hj)
    exact rk_mono hn hG h (he.1 i (by omega)) (he.1 j hj) a b c n (Nat.le_refl n) (by omega)
  · obtain ⟨p, hp, hr⟩ := rk_onto hn hG h hx
    obtain ⟨i, hi, ei⟩ := he.2.1 p hp
    exact ⟨i, hi, by show rkF n R T (e i) n = x; rw [ei, hr]⟩
theorem EL_ex (hn : n ≤ 10) (hG : Sub n G) : ∃ N e, EL n G N e := by
  obtain ⟨R, T, h⟩ := Tab_ex hn hG
  have hx : ∀ x, ∃ p, x < sz R n n → G p ∧ rkF n R T p n = x := fun x => by
    by_cases hx : x < sz R n n
    · obtain ⟨p, hp⟩ := rk_onto hn hG h hx; exact ⟨p, fun _ => hp⟩
    · exact ⟨idp, fun g => absurd g hx⟩
  obtain ⟨f, hf⟩ := Classical.axiomOfChoice hx
  refine ⟨sz R n n, f, fun i hi => (hf i hi).1, fun p hp => ⟨rkF n R T p n, rk_lt hn hG h hp n (Nat.le_refl n), ?_⟩, fun i j hij hj => ?_⟩
  · have := hf _ (rk_lt hn hG h hp n (Nat.le_refl n))
    exact rk_inj hn hG h this.1 hp this.2
  · obtain ⟨i1, i2⟩ := hf i (by omega)
    obtain ⟨j1, j2⟩ := hf j hj
    refine Nat.lt_of_not_le fun hle => ?_
    by_cases e2 : E 10 (cn n (f j)) = E 10 (cn n (f i))
    · have e3 : f j = f i := (tn_inj hn (hG.1 _ j1) (hG.1 _ i1)).mp (congrArg lN e2)
      rw [e3] at j2; omega
    · obtain ⟨l, a, b, c⟩ := (E_first hn (hG.1 _ j1) (hG.1 _ i1)).mp (by omega)
      have := rk_mono hn hG h j1 i1 a b c n (Nat.le_refl n) (by omega)
      omega
theorem EL_inj (he : EL n G N e) {i j : Nat} (hi : i < N) (hj : j < N) (h : e i = e j) : i = j := by
  rcases Nat.lt_trichotomy i j with g | g | g
  · have := he.2.2 i j g hj; rw [h] at this; omega
  · exact g
  · have := he.2.2 j i g hi; rw [h] at this; omega
theorem EL_pos (hG : Sub n G) (he : EL n G N e) : 0 < N := by
  obtain ⟨i, hi, _⟩ := he.2.1 idp hG.2.1
  omega
theorem EL_En (he : EL n G N e) : En G N := ⟨e, he.1, fun _ _ hi hj h => EL_inj he hi hj h, he.2.1⟩
/-- home is the first -/
theorem EL_0 (hn : n ≤ 10) (hG : Sub n G) (he : EL n G N e) : e 0 = idp := by
  obtain ⟨i, hi, ei⟩ := he.2.1 idp hG.2.1
  rcases Nat.eq_zero_or_pos i with h | h
  · rw [← ei, h]
  · have h1 := he.2.2 0 i h hi
    rw [ei] at h1
    obtain ⟨l, a, b, c⟩ := (E_first hn (EL_P hG he (by omega)) (IsP_id n)).mp h1
    have hl : e 0 l < l := c
    have := b (e 0 l) hl
    have := (EL_P hG he (show 0 < N by omega)).2.2 (e 0 l) l (this.trans rfl)
    omega
end EL1
/-! A table of ten levels, of a group of n points -/
section T10
variable {n : Nat} {G : PS} {R : Nat → Nat → Bool} {T : Nat → Nat → Nat → Nat}
theorem Gen_10 {S : PS} (hn : n ≤ 10) (hS : ∀ a, S a → IsP n a) : Gen 10 S = Gen n S := by
  funext p
  refine propext ⟨fun h => h _ (Sub_10 hn (Gen_Sub hn hS)) (fun a ha => Gen_in ha), fun h H hH hSH => ?_⟩
  have := h (fun q => IsP n q ∧ H q) ⟨fun a ha => ha.1, ⟨IsP_id n, hH.2.1⟩, fun a b ha hb => ⟨IsP_cp ha.1 hb.1, hH.2.2.1 _ _ ha.2 hb.2⟩, fun a ha => ⟨IsP_iv hn ha.1, hH.2.2.2 _ ha.2⟩⟩ (fun a ha => ⟨hS a ha, hSH a ha⟩)
  exact this.2
theorem TabG_n (hn : n ≤ 10) (hG : Sub n G) (h : TabG 10 G (RB R) T) : TabG n G (RB R) T := by
  refine ⟨fun k hk => ⟨(h.1 k (by omega)).1, fun j hr => ?_⟩, fun k j hk => h.2.1 k j (by omega), fun k j hk hr => h.2.2 k j (by omega) hr⟩
  obtain ⟨t1, t2, t3, t4⟩ := (h.1 k (by omega)).2 j hr
  obtain ⟨g, g1, g2, g3⟩ := (h.2.1 k j (by omega)).mp hr
  exact ⟨by rw [← g3]; exact (hG.1 g g1).1 k hk, hG.1 _ (h.2.2 k j (by omega) hr), t3, t4⟩
theorem w_n (hn : n ≤ 10) (hG : Sub n G) (h : TabG 10 G (RB R) T) {k : Nat} (hk : k < n) : cT (R k) 10 = cT (R k) n := by
  refine cT_more 10 hn (fun i hi => ?_)
  cases hr : R k i
  · rfl
  · obtain ⟨g, g1, g2, g3⟩ := (h.2.1 k i (by omega)).mp hr
    have := (hG.1 g g1).1 k hk
    omega
theorem w_1 (hG : Sub n G) (h : TabG 10 G (RB R) T) {k : Nat} (hk : n ≤ k) (hk2 : k < 10) : cT (R k) 10 = 1 := by
  have e : cT (R k) 10 = cT (fun j => decide (j = k)) 10 := cT_ext 10 (fun j hj => by
    rw [Bool.eq_iff_iff]
    refine (h.2.1 k j hk2).trans ⟨fun ⟨g, g1, g2, g3⟩ => ?_, fun g => ?_⟩
    · rw [(hG.1 g g1).2.1 k hk] at g3
      exact decide_eq_true g3.symm
    · exact ⟨idp, hG.2.1, fun _ _ => rfl, (of_decide_eq_true g).symm⟩)
  rw [e]
  have : ∀ k : Nat, k < 10 → cT (fun j => decide (j = k)) 10 = 1 := by decide
  exact this k hk2
theorem sz_n (hn : n ≤ 10) (hG : Sub n G) (h : TabG 10 G (RB R) T) {l : Nat} (hl : l ≤ n) : sz R 10 (10 - l) = sz R n (n - l) := by
  have h1 : ∀ d, d ≤ 10 - n → sz R 10 d = 1 := by
    intro d
    induction d with
    | zero => intro _; rfl
    | succ d ih =>
      intro hd
      show cT (R (10 - (d + 1))) 10 * sz R 10 d = 1
      rw [ih (by omega), w_1 hG h (by omega) (by omega)]
  have h2 : ∀ d, d ≤ n → sz R 10 (10 - n + d) = sz R n d := by
    intro d
    induction d with
    | zero => intro _; exact h1 _ (Nat.le_refl _)
    | succ d ih =>
      intro hd
      show cT (R (10 - (10 - n + d + 1))) 10 * sz R 10 (10 - n + d) = cT (R (n - (d + 1))) n * sz R n d
      rw [ih (by omega), show 10 - (10 - n + d + 1) = n - (d + 1) by omega, w_n hn hG h (by omega)]
  have := h2 (n - l) (by omega)
  rwa [show 10 - n + (n - l) = 10 - l by omega] at this
end T10
/-! Higher digits of a place -/
def HF (n : Nat) (R : Nat → Nat → Bool) (T : Nat → Nat → Nat → Nat) (p : Nat → Nat) : Nat → Nat
  | 0 => 0
  | l + 1 => HF n R T p l * cT (R l) n + dg R (md T p l) l (p l)
section HF1
variable {n N : Nat} {G : PS} {R : Nat → Nat → Bool} {T : Nat → Nat → Nat → Nat} {e : Nat → Nat → Nat}
theorem md_ext {p q : Nat → Nat} : ∀ l, (∀ t, t < l → p t = q t) → md T p l = md T q l := by
  intro l
  induction l with
  | zero => intro _; rfl
  | succ l ih =>
    intro h
    show cp (T l (iv (md T p l) (p l))) (md T p l) = cp (T l (iv (md T q l) (q l))) (md T q l)
    rw [ih (fun t ht => h t (by omega)), h l (by omega)]
theorem HF_rk {p : Nat → Nat} : ∀ l, l ≤ n → rkF n R T p n = HF n R T p l * sz R n (n - l) + rkF n R T p (n - l) := by
  intro l
  induction l with
  | zero => intro _; show _ = 0 * _ + rkF n R T p (n - 0); rw [Nat.zero_mul, Nat.zero_add]; rfl
  | succ l ih =>
    intro hl
    rw [ih (by omega), show n - l = n - (l + 1) + 1 by omega]
    show HF n R T p l * (cT (R (n - (n - (l + 1) + 1))) n * sz R n (n - (l + 1))) + (dg R (md T p (n - (n - (l + 1) + 1))) (n - (n - (l + 1) + 1)) (p (n - (n - (l + 1) + 1))) * sz R n (n - (l + 1)) + rkF n R T p (n - (l + 1))) = (HF n R T p l * cT (R l) n + dg R (md T p l) l (p l)) * sz R n (n - (l + 1)) + rkF n R T p (n - (l + 1))
    rw [show n - (n - (l + 1) + 1) = l by omega, Nat.add_mul, Nat.mul_assoc, Nat.add_assoc]
theorem HF_ag (hn : n ≤ 10) (hG : Sub n G) (h : TabG n G (RB R) T) {p q : Nat → Nat} (hp : G p) (hq : G q) : ∀ l, l ≤ n → HF n R T p l = HF n R T q l → ∀ t, t < l → p t = q t := by
  intro l
  induction l with
  | zero => intro _ _ t ht; omega
  | succ l ih =>
    intro hl he t ht
    obtain ⟨g1, g2⟩ := dm_un (dg_lt hn hG h hp (l := l) (by omega)) (dg_lt hn hG h hq (l := l) (by omega)) he
    have ag := ih (by omega) g1
    by_cases e : t = l
    · subst e
      rw [md_ext t ag] at g2
      have r1 := md_R hn hG h hp (l := t) (by omega)
      rw [md_ext t ag] at r1
      exact cT_inj (fun x => R t (iv (md T q t) x)) r1 (md_R hn hG h hq (l := t) (by omega)) g2
    · exact ag t (by omega)
/-- where a list of beginnings grows by a level -/
theorem wid (hn : n ≤ 10) (hG : Sub n G) (h : TabG n G (RB R) T) (he : EL n G N e) {l x c : Nat} (hl : l < n) (hc : c < cT (R l) n) (hx : x * sz R n (n - l) + c * sz R n (n - (l + 1)) < N) (hx0 : x * sz R n (n - l) < N) :
    md T (e (x * sz R n (n - l) + c * sz R n (n - (l + 1)))) l = md T (e (x * sz R n (n - l))) l ∧ dg R (md T (e (x * sz R n (n - l))) l) l (e (x * sz R n (n - l) + c * sz R n (n - (l + 1))) l) = c ∧ R l (iv (md T (e (x * sz R n (n - l))) l) (e (x * sz R n (n - l) + c * sz R n (n - (l + 1))) l)) = true := by
  obtain ⟨eN, er⟩ := EL_tab hn hG h he
  have hp := he.1 _ hx0
  have hq := he.1 _ hx
  have s1 := sz_pos h.1 (n - l) (by omega)
  have s2 := sz_pos h.1 (n - (l + 1)) (by omega)
  have esz : sz R n (n - l) = cT (R l) n * sz R n (n - (l + 1)) := by
    rw [show n - l = n - (l + 1) + 1 by omega]
    show cT (R (n - (n - (l + 1) + 1))) n * _ = _
    rw [show n - (n - (l + 1) + 1) = l by omega]
  have a1 := (HF_rk (R := R) (T := T) (p := e (x * sz R n (n - l))) l (by omega)).symm.trans (er _ hx0)
  have a2 := (HF_rk (R := R) (T := T) (p := e (x * sz R n (n - l) + c * sz R n (n - (l + 1)))) (l + 1) (by omega)).symm.trans (er _ hx)
  obtain ⟨b1, _⟩ := dm_un (rk_lt hn hG h hp (n - l) (by omega)) s1 (a1.trans (Nat.add_zero _).symm)
  have a3 : x * sz R n (n - l) + c * sz R n (n - (l + 1)) = (x * cT (R l) n + c) * sz R n (n - (l + 1)) + 0 := by rw [esz, Nat.add_mul, Nat.mul_assoc]; rfl
  obtain ⟨b2, _⟩ := dm_un (rk_lt hn hG h hq (n - (l + 1)) (by omega)) s2 (a2.trans a3)
  obtain ⟨b3, b4⟩ := dm_un (dg_lt hn hG h hq (l := l) (by omega)) hc b2
  have em := md_ext (T := T) l (HF_ag hn hG h hq hp l (by omega) (b3.trans b1.symm))
  rw [em] at b4
  refine ⟨em, b4, ?_⟩
  have := md_R hn hG h hq (l := l) hl
  rwa [em] at this
theorem md_n (hn : n ≤ 10) (hG : Sub n G) (h : TabG n G (RB R) T) {p : Nat → Nat} (hp : G p) : md T p n = p := by
  obtain ⟨a, b⟩ := md_ok hn hG h hp n (Nat.le_refl n)
  exact IsP_ext (hG.1 _ a) (hG.1 p hp) b
end HF1
