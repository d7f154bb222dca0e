/-! Places of a group's ones by number -/
/-- how many from level l on -/
def sz (R : Nat → Nat → Bool) (n : Nat) : Nat → Nat
  | 0 => 1
  | d + 1 => cT (R (n - (d + 1))) n * sz R n d
section RK
variable {n : Nat} {G : PS} {R : Nat → Nat → Bool} {T : Nat → Nat → Nat → Nat}
theorem w_pos (hT : TabOK n (RB R) T) {k : Nat} (hk : k < n) : 0 < cT (R k) n := by
  have h : R k k = true := (hT k hk).1.1
  have := cT_lt (R k) hk h
  omega
theorem sz_pos (hT : TabOK n (RB R) T) : ∀ d, d ≤ n → 0 < sz R n d := by
  intro d
  induction d with
  | zero => intro _; exact Nat.one_pos
  | succ d ih => intro hd; exact Nat.mul_pos (w_pos hT (by omega)) (ih (by omega))
/-- what comes next after a beginning -/
theorem ext_iff (hn : n ≤ 10) (hG : Sub n G) (h : TabG n G (RB R) T) {m p : Nat → Nat} (hm : G m) {l : Nat} (hl : l < n) (ha : ∀ t, t < l → m t = p t) {i : Nat} (hi : i < n) : R l (iv m i) = true ↔ ∃ g, G g ∧ (∀ t, t < l → g t = p t) ∧ g l = i := by
  have hmP := hG.1 m hm
  refine (h.2.1 l (iv m i) hl).trans ⟨fun ⟨g, g1, g2, g3⟩ => ⟨cp g m, hG.2.2.1 _ _ g1 hm, fun t ht => ?_, ?_⟩, fun ⟨g, g1, g2, g3⟩ => ⟨cp g (iv m), hG.2.2.1 _ _ g1 (hG.2.2.2 _ hm), fun t ht => ?_, ?_⟩⟩
  · show m (g t) = p t
    rw [g2 t ht, ha t ht]
  · show m (g l) = i
    rw [g3, iv_r hn hmP]
  · show iv m (g t) = t
    rw [g2 t ht, ← ha t ht, iv_l hn hmP]
  · show iv m (g l) = iv m i
    rw [g3]
/-- the digit of one at a level, told by any one that begins alike -/
def dg (R : Nat → Nat → Bool) (m : Nat → Nat) (l i : Nat) : Nat := cT (fun x => R l (iv m x)) i
theorem dg_eq {R' : Nat → Nat → Bool} {T' : Nat → Nat → Nat → Nat} (hn : n ≤ 10) (hG : Sub n G) (h : TabG n G (RB R) T) (h' : TabG n G (RB R') T') {m m' : Nat → Nat} (hm : G m) (hm' : G m') {l : Nat} (hl : l < n) (ha : ∀ t, t < l → m t = m' t) {i : Nat} (hi : i ≤ n) : dg R m l i = dg R' m' l i := by
  refine cT_ext i (fun x hx => ?_)
  have h1 := ext_iff hn hG h hm hl ha (show x < n by omega)
  have h2 := ext_iff hn hG h' hm' hl (fun t _ => rfl) (show x < n by omega)
  rw [Bool.eq_iff_iff]
  exact h1.trans h2.symm
theorem dg_w (hn : n ≤ 10) {m : Nat → Nat} (hm : IsP n m) {l : Nat} : dg R m l n = cT (R l) n := cT_perm (P := R l) hn (IsP_iv hn hm)
end RK
