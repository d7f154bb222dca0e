/-! Orders divide -/
theorem Tab_ex {n : Nat} {G : PS} (hn : n ≤ 10) (hG : Sub n G) : ∃ (R : Nat → Nat → Bool) (T : Nat → Nat → Nat → Nat), TabG n G (RB R) T := by
  have hT : ∀ k j, ∃ t : Nat → Nat, (Orb G k j → G t ∧ (∀ i, i < k → t i = i) ∧ t k = j) ∧ (j = k → t = idp) := fun k j => by
    by_cases e : j = k
    · exact ⟨idp, fun _ => ⟨hG.2.1, fun _ _ => rfl, e.symm⟩, fun _ => rfl⟩
    · by_cases h : Orb G k j
      · obtain ⟨g, g1, g2, g3⟩ := h
        exact ⟨g, fun _ => ⟨g1, g2, g3⟩, fun h => absurd h e⟩
      · exact ⟨idp, fun g => absurd g h, fun h => absurd h e⟩
  have hR : ∀ k j, ∃ b : Bool, b = true ↔ Orb G k j := fun k j => by
    by_cases h : Orb G k j
    · exact ⟨true, fun _ => h, fun _ => rfl⟩
    · exact ⟨false, (fun g => by cases g), fun g => absurd g h⟩
  refine ⟨fun k j => Classical.choose (hR k j), fun k j => Classical.choose (hT k j), ?_⟩
  have sR : ∀ k j, Classical.choose (hR k j) = true ↔ Orb G k j := fun k j => Classical.choose_spec (hR k j)
  have sT := fun k j => Classical.choose_spec (hT k j)
  refine ⟨fun k hk => ⟨⟨(sR k k).mpr ⟨idp, hG.2.1, fun _ _ => rfl, rfl⟩, (sT k k).2 rfl⟩, fun j hr => ?_⟩, fun k j _ => sR k j, fun k j _ hr => ((sT k j).1 ((sR k j).mp hr)).1⟩
  have ho := (sR k j).mp hr
  obtain ⟨a, b, c⟩ := (sT k j).1 ho
  refine ⟨?_, hG.1 _ a, b, c⟩
  obtain ⟨g, g1, g2, g3⟩ := ho
  rw [← g3]; exact (hG.1 g g1).1 k hk
/-- a group has c ones: numbers below c tell them -/
def En (G : PS) (c : Nat) : Prop := ∃ e : Nat → Nat → Nat, (∀ i, i < c → G (e i)) ∧ (∀ i j, i < c → j < c → e i = e j → i = j) ∧ ∀ p, G p → ∃ i, i < c ∧ e i = p
theorem En_sz {n : Nat} {G : PS} {R : Nat → Nat → Bool} {T : Nat → Nat → Nat → Nat} (hn : n ≤ 10) (hG : Sub n G) (h : TabG n G (RB R) T) : En G (sz R n n) := by
  have hx : ∀ x, ∃ p, x < sz R n n → G p ∧ rkF n R T p n = x := fun x => by
    by_cases hx : x < sz R n n
    · obtain ⟨p, hp⟩ := rk_onto hn hG h hx; exact ⟨p, fun _ => hp⟩
    · exact ⟨idp, fun g => absurd g hx⟩
  have hs : ∀ x, x < sz R n n → G (Classical.choose (hx x)) ∧ rkF n R T (Classical.choose (hx x)) n = x := fun x => Classical.choose_spec (hx x)
  refine ⟨fun x => Classical.choose (hx x), fun i hi => (hs i hi).1, fun i j hi hj e => ?_, fun p hp => ⟨rkF n R T p n, rk_lt hn hG h hp n (Nat.le_refl n), ?_⟩⟩
  · have e : Classical.choose (hx i) = Classical.choose (hx j) := e
    rw [← (hs i hi).2, ← (hs j hj).2, e]
  · have := hs _ (rk_lt hn hG h hp n (Nat.le_refl n))
    exact rk_inj hn hG h this.1 hp this.2
theorem le_of_inj {a b : Nat} (f : Nat → Nat) (h1 : ∀ i, i < a → f i < b) (h2 : ∀ i j, i < a → j < a → f i = f j → i = j) : a ≤ b := by
  refine Nat.le_of_not_lt fun hlt => ?_
  obtain ⟨i, hi, e⟩ := pigeon b f (fun i hi => h1 i (by omega)) (fun i j hi hj => h2 i j (by omega) (by omega)) (f b) (h1 b hlt)
  have := h2 i b (by omega) hlt e
  omega
theorem En_le {G H : PS} {a b : Nat} (hG : En G a) (hH : En H b) (h : ∀ p, G p → H p) : a ≤ b := by
  obtain ⟨e, e1, e2, e3⟩ := hG
  obtain ⟨f, f1, f2, f3⟩ := hH
  have hx : ∀ x, ∃ y, x < a → y < b ∧ f y = e x := fun x => by
    by_cases hx : x < a
    · obtain ⟨y, hy⟩ := f3 _ (h _ (e1 x hx)); exact ⟨y, fun _ => hy⟩
    · exact ⟨0, fun g => absurd g hx⟩
  have hs : ∀ x, x < a → Classical.choose (hx x) < b ∧ f (Classical.choose (hx x)) = e x := fun x => Classical.choose_spec (hx x)
  refine le_of_inj (fun x => Classical.choose (hx x)) (fun i hi => (hs i hi).1) (fun i j hi hj g => ?_)
  have g : Classical.choose (hx i) = Classical.choose (hx j) := g
  exact e2 i j hi hj (by rw [← (hs i hi).2, ← (hs j hj).2, g])
/-- as many ones, and all in it: the same -/
theorem En_eq {G H : PS} {a : Nat} (hG : En G a) (hH : En H a) (h : ∀ p, G p → H p) : ∀ p, H p → G p := by
  obtain ⟨e, e1, e2, e3⟩ := hG
  obtain ⟨f, f1, f2, f3⟩ := hH
  have hx : ∀ x, ∃ y, x < a → y < a ∧ f y = e x := fun x => by
    by_cases hx : x < a
    · obtain ⟨y, hy⟩ := f3 _ (h _ (e1 x hx)); exact ⟨y, fun _ => hy⟩
    · exact ⟨0, fun g => absurd g hx⟩
  have hs : ∀ x, x < a → Classical.choose (hx x) < a ∧ f (Classical.choose (hx x)) = e x := fun x => Classical.choose_spec (hx x)
  intro p hp
  obtain ⟨y, y1, y2⟩ := f3 p hp
  obtain ⟨x, x1, x2⟩ := pigeon a (fun x => Classical.choose (hx x)) (fun i hi => (hs i hi).1) (fun i j hi hj g => by
    have g : Classical.choose (hx i) = Classical.choose (hx j) := g
    exact e2 i j hi hj (by rw [← (hs i hi).2, ← (hs j hj).2, g])) y y1
  have x2 : Classical.choose (hx x) = y := x2
  have := (hs x x1).2
  rw [x2, y2] at this
  rw [this]; exact e1 x x1
