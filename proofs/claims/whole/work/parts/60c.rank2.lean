/-! The place of one -/
def md (T : Nat → Nat → Nat → Nat) (p : Nat → Nat) : Nat → Nat → Nat
  | 0 => idp
  | l + 1 => cp (T l (iv (md T p l) (p l))) (md T p l)
def rkF (n : Nat) (R : Nat → Nat → Bool) (T : Nat → Nat → Nat → Nat) (p : Nat → Nat) : Nat → Nat
  | 0 => 0
  | d + 1 => dg R (md T p (n - (d + 1))) (n - (d + 1)) (p (n - (d + 1))) * sz R n d + rkF n R T p d
section RK2
variable {n : Nat} {G : PS} {R : Nat → Nat → Bool} {T : Nat → Nat → Nat → Nat}
theorem md_step (hn : n ≤ 10) (hG : Sub n G) (h : TabG n G (RB R) T) {m p : Nat → Nat} (hm : G m) {l : Nat} (hl : l < n) (ha : ∀ t, t < l → m t = p t) (hr : R l (iv m (p l)) = true) : G (cp (T l (iv m (p l))) m) ∧ ∀ t, t < l + 1 → cp (T l (iv m (p l))) m t = p t := by
  obtain ⟨t1, t2, t3, t4⟩ := (h.1 l hl).2 _ hr
  refine ⟨hG.2.2.1 _ _ (h.2.2 l _ hl hr) hm, fun t ht => ?_⟩
  show m (T l _ t) = p t
  by_cases e : t = l
  · rw [e, t4, iv_r hn (hG.1 m hm)]
  · rw [t3 t (by omega)]; exact ha t (by omega)
theorem md_ok (hn : n ≤ 10) (hG : Sub n G) (h : TabG n G (RB R) T) {p : Nat → Nat} (hp : G p) : ∀ l, l ≤ n → G (md T p l) ∧ ∀ t, t < l → md T p l t = p t := by
  intro l
  induction l with
  | zero => intro _; exact ⟨hG.2.1, fun t ht => by omega⟩
  | succ l ih =>
    intro hl
    obtain ⟨a, b⟩ := ih (by omega)
    have hr := (ext_iff hn hG h a (by omega) b ((hG.1 p hp).1 l (by omega))).mpr ⟨p, hp, fun _ _ => rfl, rfl⟩
    exact md_step hn hG h a (by omega) b hr
theorem md_R (hn : n ≤ 10) (hG : Sub n G) (h : TabG n G (RB R) T) {p : Nat → Nat} (hp : G p) {l : Nat} (hl : l < n) : R l (iv (md T p l) (p l)) = true := by
  obtain ⟨a, b⟩ := md_ok hn hG h hp l (by omega)
  exact (ext_iff hn hG h a hl b ((hG.1 p hp).1 l hl)).mpr ⟨p, hp, fun _ _ => rfl, rfl⟩
theorem dg_lt (hn : n ≤ 10) (hG : Sub n G) (h : TabG n G (RB R) T) {p : Nat → Nat} (hp : G p) {l : Nat} (hl : l < n) : dg R (md T p l) l (p l) < cT (R l) n := by
  obtain ⟨a, b⟩ := md_ok hn hG h hp l (by omega)
  rw [← dg_w (R := R) (l := l) hn (hG.1 _ a)]
  exact cT_lt (fun x => R l (iv (md T p l) x)) ((hG.1 p hp).1 l hl) (md_R hn hG h hp hl)
theorem rk_lt (hn : n ≤ 10) (hG : Sub n G) (h : TabG n G (RB R) T) {p : Nat → Nat} (hp : G p) : ∀ d, d ≤ n → rkF n R T p d < sz R n d := by
  intro d
  induction d with
  | zero => intro _; exact Nat.one_pos
  | succ d ih =>
    intro hd
    have h1 := dg_lt hn hG h hp (l := n - (d + 1)) (by omega)
    have h2 := ih (by omega)
    show dg R _ _ _ * sz R n d + rkF n R T p d < cT (R (n - (d + 1))) n * sz R n d
    have h3 : (dg R (md T p (n - (d + 1))) (n - (d + 1)) (p (n - (d + 1))) + 1) * sz R n d ≤ cT (R (n - (d + 1))) n * sz R n d := Nat.mul_le_mul_right _ h1
    rw [Nat.add_mul, Nat.one_mul] at h3
    omega
/-- the place doesn't depend on the table -/
theorem rk_tab {R' : Nat → Nat → Bool} {T' : Nat → Nat → Nat → Nat} (hn : n ≤ 10) (hG : Sub n G) (h : TabG n G (RB R) T) (h' : TabG n G (RB R') T') {p : Nat → Nat} (hp : G p) (hsz : ∀ d, d ≤ n → sz R n d = sz R' n d) : ∀ d, d ≤ n → rkF n R T p d = rkF n R' T' p d := by
  intro d
  induction d with
  | zero => intro _; rfl
  | succ d ih =>
    intro hd
    obtain ⟨a, b⟩ := md_ok hn hG h hp (n - (d + 1)) (by omega)
    obtain ⟨a', b'⟩ := md_ok hn hG h' hp (n - (d + 1)) (by omega)
    show dg R _ _ _ * sz R n d + rkF n R T p d = dg R' _ _ _ * sz R' n d + rkF n R' T' p d
    rw [ih (by omega), hsz d (by omega), dg_eq hn hG h h' a a' (by omega) (fun t ht => (b t ht).trans (b' t ht).symm) (Nat.le_of_lt ((hG.1 p hp).1 _ (by omega)))]
theorem sz_tab {R' : Nat → Nat → Bool} {T' : Nat → Nat → Nat → Nat} (hn : n ≤ 10) (h : TabG n G (RB R) T) (h' : TabG n G (RB R') T') : ∀ d, d ≤ n → sz R n d = sz R' n d := by
  intro d
  induction d with
  | zero => intro _; rfl
  | succ d ih =>
    intro hd
    show cT (R _) n * sz R n d = cT (R' _) n * sz R' n d
    rw [ih (by omega)]
    refine congrArg (fun x => x * sz R' n d) (cT_ext n (fun i hi => ?_))
    rw [Bool.eq_iff_iff]
    exact (h.2.1 (n - (d + 1)) i (by omega)).trans (h'.2.1 (n - (d + 1)) i (by omega)).symm
/-- the place grows with the number -/
theorem rk_mono (hn : n ≤ 10) (hG : Sub n G) (h : TabG n G (RB R) T) {p q : Nat → Nat} (hp : G p) (hq : G q) {l : Nat} (hl : l < n) (he : ∀ t, t < l → p t = q t) (hlt : p l < q l) : ∀ d, d ≤ n → n - d ≤ l → rkF n R T p d < rkF n R T q d := by
  intro d
  induction d with
  | zero => intro _ h; omega
  | succ d ih =>
    intro hd hle
    obtain ⟨a, b⟩ := md_ok hn hG h hp (n - (d + 1)) (by omega)
    obtain ⟨a', b'⟩ := md_ok hn hG h hq (n - (d + 1)) (by omega)
    have hagr : ∀ t, t < n - (d + 1) → md T p (n - (d + 1)) t = md T q (n - (d + 1)) t := fun t ht => by rw [b t ht, b' t ht]; exact he t (by omega)
    have hdg : ∀ {i : Nat}, i ≤ n → dg R (md T p (n - (d + 1))) (n - (d + 1)) i = dg R (md T q (n - (d + 1))) (n - (d + 1)) i := fun hi => dg_eq hn hG h h a a' (by omega) hagr hi
    show dg R (md T p (n - (d + 1))) (n - (d + 1)) (p (n - (d + 1))) * sz R n d + rkF n R T p d < dg R (md T q (n - (d + 1))) (n - (d + 1)) (q (n - (d + 1))) * sz R n d + rkF n R T q d
    by_cases e : n - (d + 1) = l
    · rw [hdg (Nat.le_of_lt ((hG.1 p hp).1 _ (by omega))), e]
      have hr : R l (iv (md T q l) (p l)) = true := by
        obtain ⟨c, c'⟩ := md_ok hn hG h hq l (by omega)
        exact (ext_iff hn hG h c hl (fun t ht => (c' t ht).trans (he t ht).symm) ((hG.1 p hp).1 l hl)).mpr ⟨p, hp, fun _ _ => rfl, rfl⟩
      have h1 : dg R (md T q l) l (p l) < dg R (md T q l) l (q l) := cT_lt (fun x => R l (iv (md T q l) x)) hlt hr
      have h2 := rk_lt hn hG h hp d (by omega)
      have h3 : (dg R (md T q l) l (p l) + 1) * sz R n d ≤ dg R (md T q l) l (q l) * sz R n d := Nat.mul_le_mul_right _ h1
      rw [Nat.add_mul, Nat.one_mul] at h3
      omega
    · rw [hdg (Nat.le_of_lt ((hG.1 p hp).1 _ (by omega))), he (n - (d + 1)) (by omega)]
      exact Nat.add_lt_add_left (ih (by omega) (by omega)) _
theorem first_diff {p q : Nat → Nat} : ∀ n, (∃ i, i < n ∧ p i ≠ q i) → ∃ l, l < n ∧ (∀ t, t < l → p t = q t) ∧ p l ≠ q l := by
  intro n
  induction n with
  | zero => intro ⟨i, h, _⟩; omega
  | succ n ih =>
    intro ⟨i, h1, h2⟩
    by_cases h : ∃ i, i < n ∧ p i ≠ q i
    · obtain ⟨l, a, b, c⟩ := ih h
      exact ⟨l, by omega, b, c⟩
    · have hall : ∀ t, t < n → p t = q t := fun t ht => Classical.byContradiction fun g => h ⟨t, ht, g⟩
      have : i = n := by
        refine Classical.byContradiction fun g => h2 (hall i (by omega))
      exact ⟨n, by omega, hall, this ▸ h2⟩
theorem rk_inj (hn : n ≤ 10) (hG : Sub n G) (h : TabG n G (RB R) T) {p q : Nat → Nat} (hp : G p) (hq : G q) (e : rkF n R T p n = rkF n R T q n) : p = q := by
  refine IsP_ext (hG.1 p hp) (hG.1 q hq) (fun i hi => Classical.byContradiction fun g => ?_)
  obtain ⟨l, a, b, c⟩ := first_diff n ⟨i, hi, g⟩
  rcases Nat.lt_or_gt_of_ne c with c | c
  · have := rk_mono hn hG h hp hq a b c n (Nat.le_refl n) (by omega); omega
  · have := rk_mono hn hG h hq hp a (fun t ht => (b t ht).symm) c n (Nat.le_refl n) (by omega); omega
end RK2
