/-! Loading: moves by cycles -/
section LC2
variable {b : Nat → Int32} {last i s e k n m : Nat} {mv : Nat → Nat → Nat} {ns ne : Nat → Nat} {I J I' J' : MI} {L M L' M' : ML} {p : Nat → Nat}
theorem bit_any (a x : Int32) : ∃ c, f_X8_bit a x = some c := by
  unfold f_X8_bit
  split
  · exact ⟨_, rfl⟩
  · exact ⟨_, rfl⟩
theorem swp_P {a x : Nat} (ha : a < n) (hx : x < n) : IsP n (swp a x) := by
  refine ⟨fun i hi => ?_, fun i hi => ?_, fun i j h => ?_⟩
  · unfold swp; split
    · exact hx
    · split
      · exact ha
      · exact hi
  · unfold swp
    rw [if_neg (by omega), if_neg (by omega)]
  · unfold swp at h
    split at h <;> split at h <;> (try split at h) <;> (try split at h) <;> omega
/-- a cycle that is being read: z is its last point, a its first -/
def Cy (n u a z : Nat) (g : Nat → Nat) : Prop := IsP n g ∧ g z = a ∧ z < n ∧ a < n ∧ u < 2 ^ n ∧ u.testBit z = true ∧ u.testBit a = true ∧ ∀ j, u.testBit j = false → g j = j
def UP (n u : Nat) (p : Nat → Nat) : Prop := u < 2 ^ n ∧ ∀ j, u.testBit j = false → p j = j
theorem tb_or {u x j : Nat} : (u ||| 2 ^ x).testBit j = (u.testBit j || decide (x = j)) := by
  rw [Nat.testBit_or, Nat.testBit_two_pow]
theorem Cy_0 {u a : Nat} (h : UP n u p) (hp : IsP n p) (ha : a < n) (hu : u.testBit a = false) : Cy n (u ||| 2 ^ a) a a p := by
  refine ⟨hp, h.2 a hu, ha, ha, Nat.or_lt_two_pow h.1 (Nat.pow_lt_pow_right (by decide) ha), ?_, ?_, fun j hj => ?_⟩
  · rw [tb_or, decide_eq_true rfl, Bool.or_true]
  · rw [tb_or, decide_eq_true rfl, Bool.or_true]
  · rw [tb_or] at hj
    exact h.2 j (Bool.or_eq_false_iff.mp hj).1
theorem Cy_s {u a z x : Nat} {g : Nat → Nat} (h : Cy n u a z g) (hx : x < n) (hu : u.testBit x = false) : Cy n (u ||| 2 ^ x) a x (cp g (swp a x)) ∧ us (us g z z) z x = us (cp g (swp a x)) x x := by
  obtain ⟨h1, h2, h3, h4, h5, h6, h7, h8⟩ := h
  have hzx : z ≠ x := fun e => by rw [e, hu] at h6; cases h6
  have hax : a ≠ x := fun e => by rw [e, hu] at h7; cases h7
  have gx := h8 x hu
  refine ⟨⟨IsP_cp h1 (swp_P h4 hx), ?_, hx, h4, Nat.or_lt_two_pow h5 (Nat.pow_lt_pow_right (by decide) hx), ?_, ?_, fun j hj => ?_⟩, ?_⟩
  · show swp a x (g x) = a
    rw [gx]; unfold swp
    rw [if_neg (fun e => hax e.symm), if_pos rfl]
  · rw [tb_or, decide_eq_true rfl, Bool.or_true]
  · rw [tb_or, h7, Bool.true_or]
  · rw [tb_or] at hj
    have j1 := (Bool.or_eq_false_iff.mp hj).1
    have j2 := of_decide_eq_false (Bool.or_eq_false_iff.mp hj).2
    show swp a x (g j) = j
    rw [h8 j j1]; unfold swp
    rw [if_neg (fun e => by rw [e, h7] at j1; cases j1), if_neg (fun e => j2 e.symm)]
  · funext j
    unfold us
    by_cases c1 : j = z
    · rw [if_pos c1, if_neg (by omega)]
      show x = swp a x (g j)
      rw [c1, h2]; unfold swp
      rw [if_pos rfl]
    · rw [if_neg c1, if_neg c1]
      by_cases c2 : j = x
      · rw [if_pos c2, c2, gx]
      · rw [if_neg c2]
        show g j = swp a x (g j)
        unfold swp
        rw [if_neg (fun e => c1 (h1.2.2 _ _ (e.trans h2.symm))), if_neg (fun e => c2 (h1.2.2 _ _ (e.trans gx.symm)))]
theorem Cy_e {u a z : Nat} {g : Nat → Nat} (h : Cy n u a z g) : us (us g z z) z a = g ∧ UP n u g := by
  refine ⟨?_, h.2.2.2.2.1, h.2.2.2.2.2.2.2⟩
  funext j
  unfold us
  by_cases c : j = z
  · rw [if_pos c, c, h.2.1]
  · rw [if_neg c, if_neg c]
theorem cn_us {f : Nat → Nat} {z v : Nat} (hz : z < n) : cn n (us f z v) = us (cn n f) z v := by
  funext j
  unfold cn us
  by_cases c : j = z
  · rw [if_pos (by omega), if_pos c, if_pos c]
  · rw [if_neg c, if_neg c]
theorem cn_u16 {g : Nat → Nat} {z : Nat} (hn : n ≤ 10) (h : IsP n g) (hz : z < n) : ∀ j, cn n (us g z z) j < 16 := fun j => by
  unfold cn us
  split
  · split
    · omega
    · have := h.1 j ‹_›; omega
  · omega
theorem Row_us {f : Nat → Nat} {z v : Nat} (h : Row J 48 0 f) : Row (up2 J 48 z (nI v)) 48 0 (us f z v) := fun k hk => by
  rw [Nat.zero_add]
  unfold us
  by_cases c : k = z
  · rw [c, up2_s, if_pos rfl]
  · rw [up2_n c, if_neg c]
    have := h k hk
    rw [Nat.zero_add] at this
    exact this
theorem CSt.fo {v : Int32} (h : CSt b last I L s e k n m mv ns ne) : CSt b last (up2 I 1 13 v) L s e k n m mv ns ne := by
  obtain ⟨⟩ := h
  rename_i c1 h
  obtain ⟨c2, ⟨d1, d2, d3, d4⟩, c4, c5, c6, c7, c8, c9⟩ := h
  exact ⟨by rw [up2_n (by decide)]; exact c1, fun j hj => by rw [up2_ne (by decide)]; exact c2 j hj, ⟨by rw [up2_n (by decide)]; exact d1, by rw [up2_n (by decide)]; exact d2, by rw [up2_n (by decide)]; exact d3, fun g => by rw [up2_n (by decide)]; exact d4 g⟩, by rw [up2_n (by decide)]; exact c4, by rw [up2_n (by decide)]; exact c5, by rw [up2_n (by decide)]; exact c6, by rw [up2_n (by decide)]; exact c7, by rw [up2_n (by decide)]; exact c8, fun t ht => by rw [up2_ne (by decide), up2_ne (by decide)]; exact c9 t ht⟩
theorem nv_le (h : Tok b last i s e 2) : nv b s (e - s) ≤ 99 := by
  obtain ⟨_, h2⟩ := h
  rcases h2 with ⟨g1, g2, g3⟩ | ⟨g1, g2, g3, g4⟩ | ⟨g1, g2, g3, g4, g5⟩ | ⟨g1, g2, g3, g4, g5⟩
  · omega
  · split at g4 <;> omega
  · have h3 := Rn_lt g4 g1 g3
    by_cases c : e - s ≤ 2
    · have d0 := (cD_e g3).2
      rcases (show e - s = 1 ∨ e - s = 2 by omega) with x | x
      · rw [x]
        show 10 * 0 + dv (b (s + 0)) ≤ 99
        rw [Nat.add_zero]; omega
      · have d1 := (cD_e (g4.2.2.1 (s + 1) (by omega) (by omega))).2
        rw [x]
        show 10 * (10 * 0 + dv (b (s + 0))) + dv (b (s + 1)) ≤ 99
        rw [Nat.add_zero]; omega
    · rw [if_neg c] at g5; omega
  · rcases g5 with ⟨_, g⟩ | ⟨_, _, _, _, g⟩ <;> omega
/-- what the reference does with a number that comes as the next point -/
theorem rcy_3 {x u : Nat} {v3 v4 : Int32} {fb : Nat} {kr : Int32 → Int32 → Int32 → MI → ML → Option (Int32 × Mm)} (hP : PU b last n m mv ns ne) (hk : k = 2) (hR : RSt b last J M s e k n m mv ns ne) (hx : J 43 38 = nI x) (hx2 : x ≤ 99) (hxn : n ≤ x) : ∃ r J', f_X8_readsCycle_22 kr (fb + 1) (nI u) v3 v4 J M = some (r, J', M) ∧ BAD J' 3 s m ∧ FRf J M J' M := by
  have hn := hP.2.1
  obtain ⟨J1, v1, v2, v3'⟩ := must_f (a := 3) hP hR (by omega) (by decide) (by decide)
  have v1 : f_X8_must false 3 J M = some (J1, M) := v1
  have v2 : BAD J1 3 s m := by rw [hk] at v2; exact v2
  obtain ⟨cb, hcb⟩ := bit_any (nI u) (J1 43 38)
  have h37 : J 43 37 = 2 := by rw [hR.2.2.1.2.2.1, hk]; rfl
  refine ⟨nI u, J1, ?_, v2, v3'⟩
  have core : (bnd ((fun (s0_10 : Bool) => Option.bind (f_X8_must s0_10 2 J M) (fun q_11 => bnd ((fun (s0_12 : Bool) => Option.bind (f_X8_must s0_12 3 q_11.1 q_11.2) (fun q_13 => Option.bind (f_X8_bit (nI u) (q_13.1 43 38)) (fun q_14 => bnd ((fun (s0_15 : Bool) => Option.bind (f_X8_must s0_15 4 q_13.1 q_13.2) (fun q_16 => Option.bind (f_X8_good q_16.1 q_16.2) (fun q_17 => if (b2i q_17) = 0 then some (nI u, q_16.1, q_16.2) else bnd ((nI u ||| (shl 1 (q_16.1 43 38))) : Int32) (fun v2_18 => if v3 = (-1) then bnd ((q_16.1 43 38) : Int32) (fun v3_22 => bnd ((q_16.1 43 38) : Int32) (fun v4_23 => Option.bind (f_X8_reads q_16.1 q_16.2) (fun q_24 => f_X8_readsCycle_22 kr fb v2_18 v3_22 v4_23 q_24.1 q_24.2))) else chk (inb v4 10) (bnd (up2 q_16.1 48 (ix v4) (q_16.1 43 38)) (fun I_19 => bnd ((I_19 43 38) : Int32) (fun v4_20 => Option.bind (f_X8_reads I_19 q_16.2) (fun q_21 => f_X8_readsCycle_22 kr fb v2_18 v3 v4_20 q_21.1 q_21.2)))))))) : Bool → Option (Int32 × Mm)) (fun j98_403 => if (b2i q_14) = 0 then (j98_403 true) else (j98_403 false))))) : Bool → Option (Int32 × Mm)) (fun j77_402 => if (q_11.1 43 40) ≤ (q_11.1 43 38) then (j77_402 false) else (j77_402 true)))) : Bool → Option (Int32 × Mm)) (fun j56_401 => if (J 43 37) = 2 then (j56_401 true) else (j56_401 false))) = some (nI u, J1, M) := by
    rw [bnd_eq, if_pos h37]
    dsimp only
    rw [ob (must_t 2), bnd_eq]
    dsimp only
    rw [if_pos (by rw [hR.2.2.2.2.1, hx, q_le (by omega) (by omega)]; exact hxn), ob v1]
    dsimp only
    rw [ob hcb, bnd_eq]
    cases cb
    · rw [if_pos b2i_f]
      dsimp only
      rw [ob (bad_must v2 _ _)]
      dsimp only
      rw [ob (bad_good v2), if_pos b2i_f]
    · rw [if_neg b2i_t]
      dsimp only
      rw [ob (bad_must v2 _ _)]
      dsimp only
      rw [ob (bad_good v2), if_pos b2i_f]
  rw [f_X8_readsCycle_22, ob (good_t hR.2.2.2.1), if_neg b2i_t, bnd_eq]
  by_cases c1 : v3 = -1
  · rw [if_pos c1]; exact core
  · rw [if_neg c1, if_pos h37]; exact core
theorem rcy_ok {x u : Nat} {v3 v4 : Int32} {fb : Nat} {kr : Int32 → Int32 → Int32 → MI → ML → Option (Int32 × Mm)} (hP : PU b last n m mv ns ne) (hk : k = 2) (hR : RSt b last J M s e k n m mv ns ne) (hx : J 43 38 = nI x) (hxn : x < n) (hu : u < 2 ^ 10) : (u.testBit x = true → ∃ r J', f_X8_readsCycle_22 kr (fb + 1) (nI u) v3 v4 J M = some (r, J', M) ∧ BAD J' 4 s m ∧ FRf J M J' M) ∧ (u.testBit x = false → f_X8_readsCycle_22 kr (fb + 1) (nI u) v3 v4 J M = if v3 = (-1) then Option.bind (f_X8_reads J M) (fun q_24 => f_X8_readsCycle_22 kr fb (nI (u ||| 2 ^ x)) (nI x) (nI x) q_24.1 q_24.2) else chk (inb v4 10) (bnd (up2 J 48 (ix v4) (nI x)) (fun I_19 => bnd ((I_19 43 38) : Int32) (fun v4_20 => Option.bind (f_X8_reads I_19 M) (fun q_21 => f_X8_readsCycle_22 kr fb (nI (u ||| 2 ^ x)) v3 v4_20 q_21.1 q_21.2))))) := by
  have hn := hP.2.1
  have h37 : J 43 37 = 2 := by rw [hR.2.2.1.2.2.1, hk]; rfl
  have hb := bit_eq (s := u) (k := x) (by omega) (by omega)
  have hle : ¬ J 43 40 ≤ J 43 38 := by rw [hR.2.2.2.2.1, hx, q_le (by omega) (by omega)]; omega
  have core : ∀ Y : Option (Int32 × Mm), (u.testBit x = true → ∀ J1, f_X8_must false 4 J M = some (J1, M) → BAD J1 4 s m → Y = some (nI u, J1, M)) → (u.testBit x = false → Y = if v3 = (-1) then Option.bind (f_X8_reads J M) (fun q_24 => f_X8_readsCycle_22 kr fb (nI (u ||| 2 ^ x)) (nI x) (nI x) q_24.1 q_24.2) else chk (inb v4 10) (bnd (up2 J 48 (ix v4) (nI x)) (fun I_19 => bnd ((I_19 43 38) : Int32) (fun v4_20 => Option.bind (f_X8_reads I_19 M) (fun q_21 => f_X8_readsCycle_22 kr fb (nI (u ||| 2 ^ x)) v3 v4_20 q_21.1 q_21.2))))) → ((∃ J1, f_X8_must false 4 J M = some (J1, M) ∧ BAD J1 4 s m) ∨ u.testBit x = false) → (bnd ((fun (s0_10 : Bool) => Option.bind (f_X8_must s0_10 2 J M) (fun q_11 => bnd ((fun (s0_12 : Bool) => Option.bind (f_X8_must s0_12 3 q_11.1 q_11.2) (fun q_13 => Option.bind (f_X8_bit (nI u) (q_13.1 43 38)) (fun q_14 => bnd ((fun (s0_15 : Bool) => Option.bind (f_X8_must s0_15 4 q_13.1 q_13.2) (fun q_16 => Option.bind (f_X8_good q_16.1 q_16.2) (fun q_17 => if (b2i q_17) = 0 then some (nI u, q_16.1, q_16.2) else bnd ((nI u ||| (shl 1 (q_16.1 43 38))) : Int32) (fun v2_18 => if v3 = (-1) then bnd ((q_16.1 43 38) : Int32) (fun v3_22 => bnd ((q_16.1 43 38) : Int32) (fun v4_23 => Option.bind (f_X8_reads q_16.1 q_16.2) (fun q_24 => f_X8_readsCycle_22 kr fb v2_18 v3_22 v4_23 q_24.1 q_24.2))) else chk (inb v4 10) (bnd (up2 q_16.1 48 (ix v4) (q_16.1 43 38)) (fun I_19 => bnd ((I_19 43 38) : Int32) (fun v4_20 => Option.bind (f_X8_reads I_19 q_16.2) (fun q_21 => f_X8_readsCycle_22 kr fb v2_18 v3 v4_20 q_21.1 q_21.2)))))))) : Bool → Option (Int32 × Mm)) (fun j98_403 => if (b2i q_14) = 0 then (j98_403 true) else (j98_403 false))))) : Bool → Option (Int32 × Mm)) (fun j77_402 => if (q_11.1 43 40) ≤ (q_11.1 43 38) then (j77_402 false) else (j77_402 true)))) : Bool → Option (Int32 × Mm)) (fun j56_401 => if (J 43 37) = 2 then (j56_401 true) else (j56_401 false))) = Y := fun Y y1 y2 y3 => by
    rw [bnd_eq, if_pos h37]
    dsimp only
    rw [ob (must_t 2), bnd_eq]
    dsimp only
    rw [if_neg hle, ob (must_t 3)]
    dsimp only
    rw [hx, ob hb, bnd_eq]
    cases hbx : u.testBit x
    · rw [if_pos b2i_f]
      dsimp only
      rw [ob (must_t 4)]
      dsimp only
      rw [ob (good_t hR.2.2.2.1), if_neg b2i_t, hx, q_shl1 (by omega), q_or, bnd_eq, y2 hbx]
      rfl
    · obtain ⟨J1, v1, v2⟩ := y3.resolve_right (by rw [hbx]; decide)
      rw [if_neg b2i_t]
      dsimp only
      rw [ob v1]
      dsimp only
      rw [ob (bad_good v2), if_pos b2i_f, y1 hbx J1 v1 v2]
  have head : ∀ Y, (bnd ((fun (s0_10 : Bool) => Option.bind (f_X8_must s0_10 2 J M) (fun q_11 => bnd ((fun (s0_12 : Bool) => Option.bind (f_X8_must s0_12 3 q_11.1 q_11.2) (fun q_13 => Option.bind (f_X8_bit (nI u) (q_13.1 43 38)) (fun q_14 => bnd ((fun (s0_15 : Bool) => Option.bind (f_X8_must s0_15 4 q_13.1 q_13.2) (fun q_16 => Option.bind (f_X8_good q_16.1 q_16.2) (fun q_17 => if (b2i q_17) = 0 then some (nI u, q_16.1, q_16.2) else bnd ((nI u ||| (shl 1 (q_16.1 43 38))) : Int32) (fun v2_18 => if v3 = (-1) then bnd ((q_16.1 43 38) : Int32) (fun v3_22 => bnd ((q_16.1 43 38) : Int32) (fun v4_23 => Option.bind (f_X8_reads q_16.1 q_16.2) (fun q_24 => f_X8_readsCycle_22 kr fb v2_18 v3_22 v4_23 q_24.1 q_24.2))) else chk (inb v4 10) (bnd (up2 q_16.1 48 (ix v4) (q_16.1 43 38)) (fun I_19 => bnd ((I_19 43 38) : Int32) (fun v4_20 => Option.bind (f_X8_reads I_19 q_16.2) (fun q_21 => f_X8_readsCycle_22 kr fb v2_18 v3 v4_20 q_21.1 q_21.2)))))))) : Bool → Option (Int32 × Mm)) (fun j98_403 => if (b2i q_14) = 0 then (j98_403 true) else (j98_403 false))))) : Bool → Option (Int32 × Mm)) (fun j77_402 => if (q_11.1 43 40) ≤ (q_11.1 43 38) then (j77_402 false) else (j77_402 true)))) : Bool → Option (Int32 × Mm)) (fun j56_401 => if (J 43 37) = 2 then (j56_401 true) else (j56_401 false))) = Y → f_X8_readsCycle_22 kr (fb + 1) (nI u) v3 v4 J M = Y := fun Y hY => by
    rw [f_X8_readsCycle_22, ob (good_t hR.2.2.2.1), if_neg b2i_t, bnd_eq]
    by_cases c1 : v3 = -1
    · rw [if_pos c1]; exact hY
    · rw [if_neg c1, if_pos h37]; exact hY
  constructor
  · intro hbx
    obtain ⟨J1, v1, v2, v3'⟩ := must_f (a := 4) hP hR (by omega) (by decide) (by decide)
    have v1 : f_X8_must false 4 J M = some (J1, M) := v1
    have v2 : BAD J1 4 s m := v2
    refine ⟨nI u, J1, head _ (core _ (fun _ J2 w1 _ => ?_) (fun g => by rw [hbx] at g; cases g) (Or.inl ⟨J1, v1, v2⟩)), v2, v3'⟩
    rw [v1] at w1
    cases w1
    rfl
  · intro hbx
    exact head _ (core _ (fun g => by rw [hbx] at g; cases g) (fun _ => rfl) (Or.inr hbx))
end LC2
