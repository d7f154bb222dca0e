/-! The one at a place -/
section PK
variable {n : Nat} {G : PS} {R : Nat → Nat → Bool} {T : Nat → Nat → Nat → Nat}
theorem pick_i (hn : n ≤ 10) (hG : Sub n G) (h : TabG n G (RB R) T) {m : Nat → Nat} (hm : G m) {d r : Nat} (hd : d < n) (hr : r < sz R n (d + 1)) : ∃ i, i < n ∧ R (n - (d + 1)) (iv m i) = true ∧ dg R m (n - (d + 1)) i = r / sz R n d := by
  have hlt : r / sz R n d < dg R m (n - (d + 1)) n := by
    rw [dg_w hn (hG.1 m hm)]
    exact Nat.div_lt_of_lt_mul (by rw [Nat.mul_comm]; exact hr)
  exact cT_nth (fun x => R (n - (d + 1)) (iv m x)) n _ hlt
theorem pick_step (hn : n ≤ 10) (hG : Sub n G) (h : TabG n G (RB R) T) {m p : Nat → Nat} (hm : G m) (hp : G p) {d r i : Nat} (hd : d < n) (hi : i < n) (hR : R (n - (d + 1)) (iv m i) = true) (hdg : dg R m (n - (d + 1)) i = r / sz R n d) (ha : ∀ t, t < n - d → p t = cp (T (n - (d + 1)) (iv m i)) m t) (hrk : rkF n R T p d = r % sz R n d) : (∀ t, t < n - (d + 1) → p t = m t) ∧ rkF n R T p (d + 1) = r := by
  obtain ⟨t1, t2, t3, t4⟩ := (h.1 (n - (d + 1)) (by omega)).2 _ hR
  have hb : ∀ t, t < n - (d + 1) → p t = m t := fun t ht => by
    rw [ha t (by omega)]
    show m (T _ _ t) = m t
    rw [t3 t ht]
  have hl : p (n - (d + 1)) = i := by
    rw [ha _ (by omega)]
    show m (T _ _ _) = i
    rw [t4, iv_r hn (hG.1 m hm)]
  refine ⟨hb, ?_⟩
  obtain ⟨a, b⟩ := md_ok hn hG h hp (n - (d + 1)) (by omega)
  show dg R (md T p (n - (d + 1))) (n - (d + 1)) (p (n - (d + 1))) * sz R n d + rkF n R T p d = r
  rw [hl, dg_eq hn hG h h a hm (by omega) (fun t ht => (b t ht).trans (hb t ht)) (Nat.le_of_lt hi), hdg, hrk, Nat.mul_comm]
  exact Nat.div_add_mod r (sz R n d)
theorem pick_ex (hn : n ≤ 10) (hG : Sub n G) (h : TabG n G (RB R) T) : ∀ d m r, d ≤ n → G m → r < sz R n d → ∃ p, G p ∧ (∀ t, t < n - d → p t = m t) ∧ rkF n R T p d = r := by
  intro d
  induction d with
  | zero =>
    intro m r _ hm hr
    exact ⟨m, hm, fun _ _ => rfl, by have : r < 1 := hr; show 0 = r; omega⟩
  | succ d ih =>
    intro m r hd hm hr
    obtain ⟨i, i1, i2, i3⟩ := pick_i hn hG h hm (by omega) hr
    have hm2 : G (cp (T (n - (d + 1)) (iv m i)) m) := hG.2.2.1 _ _ (h.2.2 _ _ (by omega) i2) hm
    obtain ⟨p, p1, p2, p3⟩ := ih _ (r % sz R n d) (by omega) hm2 (Nat.mod_lt _ (sz_pos h.1 d (by omega)))
    exact ⟨p, p1, pick_step hn hG h hm p1 (by omega) i1 i2 i3 p2 p3⟩
/-- each place has its one -/
theorem rk_onto (hn : n ≤ 10) (hG : Sub n G) (h : TabG n G (RB R) T) {x : Nat} (hx : x < sz R n n) : ∃ p, G p ∧ rkF n R T p n = x := by
  obtain ⟨p, p1, _, p3⟩ := pick_ex hn hG h n idp x (Nat.le_refl n) hG.2.1 hx
  exact ⟨p, p1, p3⟩
end PK
