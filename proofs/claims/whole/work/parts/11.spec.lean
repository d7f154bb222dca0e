theorem st_min : Cond.static Lib.Math.min.name ∈ wsA := tb2 (List.mem_of_getElem? (i := 36) rfl) rfl
theorem co_min : Cond.code Lib.Math.min.name Lib.Math.min.code 2 (some .int) ∈ wsA := tb2 (List.mem_of_getElem? (i := 37) rfl) rfl
theorem st_max : Cond.static Lib.Math.max.name ∈ wsA := tb3 (List.mem_of_getElem? (i := 237) rfl) rfl
theorem co_max : Cond.code Lib.Math.max.name Lib.Math.max.code 2 (some .int) ∈ wsA := tb3 (List.mem_of_getElem? (i := 238) rfl) rfl
theorem in_Math : Cond.initialized "java/lang/Math" ∈ wsA := tb1 (List.mem_of_getElem? (i := 8) rfl) rfl
theorem in_Sys : Cond.initialized "java/lang/System" ∈ wsA := tb1 (List.mem_of_getElem? (i := 16) rfl) rfl
theorem st_ac : Cond.static arraycopyName ∈ wsA := tb5 (List.mem_of_getElem? (i := 219) rfl) rfl
theorem nat_ac : Cond.native arraycopyName ∈ wsA := tb5 (List.mem_of_getElem? (i := 220) rfl) rfl
abbrev anI (x : Int32) : Option Value := some (.int x)
abbrev anZ (x : Bool) : Option Value := some (.int (b2i x))
abbrev anL (x : Int64) : Option Value := some (.long x)
abbrev anV (_ : Mm) : Option Value := none
abbrev anIW (x : Int32 × Mm) : Option Value := some (.int x.1)
abbrev anZW (x : Bool × Mm) : Option Value := some (.int (b2i x.1))
abbrev anLW (x : Int64 × Mm) : Option Value := some (.long x.1)
abbrev anR (p : Nat) (_ : Mm) : Option Value := some (.ref p)
abbrev meR (I : MI) (L : ML) {γ : Type} (_ : γ) : Mm := (I, L)
abbrev meW {γ : Type} (x : γ × Mm) : Mm := x.2
abbrev meV (x : Mm) : Mm := x
def imin (x y : Int32) : Int32 := if y < x then y else x
def imax (x y : Int32) : Int32 := if x < y then y else x
def i2b (x : Int32) : Int32 := x.toInt8.toInt32
def isz (v : Int32) : Bool := decide (v = 0) || decide (v = 1)
def i2z (v : Int32) : Bool := decide (v ≠ 0)
theorem b2i_i2z {v : Int32} (h : isz v = true) : b2i (i2z v) = v := by
  unfold isz at h
  simp at h
  rcases h with rfl | rfl <;> rfl
theorem kA {β : Type} {G : GT β} {rm p : Nat} {k : Nat × Nat} (hK : gK G = lK rm) (h : (lK rm)[p]? = some k) : (gK G)[p]? = some k := by rw [hK]; exact h
theorem kB {β : Type} {G : GT β} {rm p : Nat} {k : Nat × Nat} (hK : gK G = lK rm) (h : (gK G)[p]? = some k) : (lK rm)[p]? = some k := by rw [← hK]; exact h
def acok (sp dp n : Int32) (n0 n1 : Nat) : Bool := decide (0 ≤ sp.toInt) && (decide (0 ≤ dp.toInt) && (decide (0 ≤ n.toInt) && (decide (ix sp + ix n ≤ n0) && decide (ix dp + ix n ≤ n1))))
def acopy {α : Type} (f : Nat → Nat → α) (p q : Nat) (sp dp n : Int32) : Nat → Nat → α := fun a => if a = q then va_cpy (f p) (f q) (ix sp) (ix dp) (ix n) else f a
section WS
variable {β : Type} {G : GT β} {cc : ByteArray} {own : String} {rt : Option FieldType} {fr lo pc q : Nat} {lv : List (Nat × Value)} {st : List Value} {I : MI} {L : ML} {X : Option β}
theorem w_ireturnZ {an : β → Option Value} {me : β → Mm} {v : Int32} {b0 : β} (hc : Cx G cc own (some .boolean) fr lo) (hq : RetQ G an me) (hd : decode cc pc = .ok (.ireturn, 1)) (ha : isz v = true → an b0 = some (.int v)) (hm : me b0 = (I, L)) : WW G pc lv [.int v] I L (chk (isz v) (some b0)) := by
  intro b hb
  obtain ⟨h1, h2⟩ := chk_t hb
  exact w_ireturn hc hq hd (by rw [← b2i_i2z h1]; exact nar_b2i _) (ha h1) hm b h2
theorem w_min {x y : Int32} {n : Nat} (hc : Cx G cc own rt fr lo) (hd : decode cc pc = .ok (.invokestatic n, 3)) (hw : Cond.methodLink own n ⟨"java/lang/Math", "min", "(II)I"⟩ ∈ wsA) (h1 : 1 ≤ fr) (h2 : 21 ≤ lo) (h8 : (st.map fun v => v.category).sum ≤ 8) (e : q = pc + 3) (kk : WW G q lv (.int (imin x y) :: st) I L X) : WW G pc lv (.int y :: .int x :: st) I L X := by
  subst e
  intro b hb H locs ls hP hD hS hl
  obtain ⟨r1, r2, r3, r4⟩ := hc.2.2.2.2.2.2.2.2.2.1
  refine va_mmin hc.1 hc.2.1 (hc.2.2.1.trans hl.1.symm) hc.2.2.2.1 (hc.2.2.2.2.1 _ hw) (hc.2.2.2.2.1 _ st_min) (hc.2.2.2.2.1 _ in_Math) (hc.2.2.2.2.1 _ co_min) (by rw [r1]; exact h1) ?_ r3 r4 hd (kk b hb H locs ls hP hD hS hl)
  rw [r2]; have h9 : (List.map (fun v => v.category) (List.map (tr (gad G)) st)).sum = _ := cat_tr (gad G) st; omega
theorem w_max {x y : Int32} {n : Nat} (hc : Cx G cc own rt fr lo) (hd : decode cc pc = .ok (.invokestatic n, 3)) (hw : Cond.methodLink own n ⟨"java/lang/Math", "max", "(II)I"⟩ ∈ wsA) (h1 : 1 ≤ fr) (h2 : 21 ≤ lo) (h8 : (st.map fun v => v.category).sum ≤ 8) (e : q = pc + 3) (kk : WW G q lv (.int (imax x y) :: st) I L X) : WW G pc lv (.int y :: .int x :: st) I L X := by
  subst e
  intro b hb H locs ls hP hD hS hl
  obtain ⟨r1, r2, r3, r4⟩ := hc.2.2.2.2.2.2.2.2.2.1
  refine va_mmax hc.1 hc.2.1 (hc.2.2.1.trans hl.1.symm) hc.2.2.2.1 (hc.2.2.2.2.1 _ hw) (hc.2.2.2.2.1 _ st_max) (hc.2.2.2.2.1 _ in_Math) (hc.2.2.2.2.1 _ co_max) (by rw [r1]; exact h1) ?_ r3 r4 hd (kk b hb H locs ls hP hD hS hl)
  rw [r2]; have h9 : (List.map (fun v => v.category) (List.map (tr (gad G)) st)).sum = _ := cat_tr (gad G) st; omega
theorem w_ldcw {n : Nat} {v : Int32} (hc : Cx G cc own rt fr lo) (hd : decode cc pc = .ok (.ldc_w n, 3)) (hw : Cond.constant own n v ∈ wsA) (e : q = pc + 3) (kk : WW G q lv (.int v :: st) I L X) : WW G pc lv st I L X := by
  subst e
  intro b hb H locs ls hP hD hS hl
  exact lv_ldcw hc.1 hc.2.1 hc.2.2.2.1 (hc.2.2.2.2.1 _ hw) hd (kk b hb H locs ls hP hD hS hl)
theorem acok_t {sp dp n : Int32} {n0 n1 : Nat} (h : acok sp dp n n0 n1 = true) : ¬ sp < 0 ∧ ¬ dp < 0 ∧ ¬ n < 0 ∧ ix sp + ix n ≤ n0 ∧ ix dp + ix n ≤ n1 := by
  simp only [acok, Bool.and_eq_true, decide_eq_true_eq] at h
  obtain ⟨a, b, c, d, e⟩ := h
  refine ⟨?_, ?_, ?_, d, e⟩ <;> (rw [Int32.lt_iff_toInt_lt]; show ¬ _ < (0 : Int); omega)
theorem w_acopyJ {p r n0 n1 k : Nat} {sp dp n : Int32} {f : ML → Option β} (hc : Cx G cc own rt fr lo) (hd : decode cc pc = .ok (.invokestatic k, 3)) (hw : Cond.methodLink own k ⟨"java/lang/System", "arraycopy", "(Ljava/lang/Object;ILjava/lang/Object;II)V"⟩ ∈ wsA) (h0 : (gK G)[p]? = some (11, n0)) (h1 : (gK G)[r]? = some (11, n1)) (g1 : 1 ≤ fr) (g2 : 60 ≤ lo) (e : q = pc + 3) (kk : ∀ L, WW G q lv [] I L (f L)) : WW G pc lv [.int n, .int dp, .ref r, .int sp, .ref p] I L (chk (acok sp dp n n0 n1) (bnd (acopy L p r sp dp n) f)) := by
  subst e
  intro b hb H locs ls hP hD hS hl
  obtain ⟨z1, z2⟩ := chk_t hb
  obtain ⟨a1, a2, a3, a4, a5⟩ := acok_t z1
  obtain ⟨r1, r2, r3, r4⟩ := hc.2.2.2.2.2.2.2.2.2.1
  have he : (gwd G I L).set r (gad G r, .inl (gtc G 11, n1, .inr (.inl (va_cpy (L p) (L r) (ix sp) (ix dp) (ix n))))) = gwd G I (acopy L p r sp dp n) := by
    have hh : va_cpy (L p) (L r) (ix sp) (ix dp) (ix n) = acopy L p r sp dp n r := by simp [acopy]
    rw [hh]
    exact wd_set (tc := gtc G) (ad := gad G) h1 (R := gR G) (R' := gR G) (I := I) (I' := I) (L := L) (L' := acopy L p r sp dp n) (fun _ _ => rfl) (fun _ _ => rfl) (fun z hz => by simp [acopy, hz])
  refine va_copyl hc.1 hc.2.1 (hc.2.2.1.trans hl.1.symm) hc.2.2.2.1 (hc.2.2.2.2.1 _ hw) (hc.2.2.2.2.1 _ nat_ac) (hc.2.2.2.2.1 _ st_ac) (hc.2.2.2.2.1 _ in_Sys) hc.2.2.2.2.2.1 hP hD hS p r 1 1 (ty := .long) (f := L p) (g := L r) (wd_get h0) (wd_get h1) rfl rfl rfl a1 a2 a3 a4 a5 (fun i _ => rfl) (by rw [r1]; exact g1) (rest := []) ?_ hd (fun H1 locs1 hP1 hD1 hS1 => ?_)
  · rw [r2]; exact Nat.le_trans (Nat.le_of_ble_eq_true rfl) g2
  · have hP2 : va_P (gD G) vwCl (gwd G I (acopy L p r sp dp n)) H1 := by rw [← he]; exact hP1
    have hD2 : va_D (gA G) (gwd G I (acopy L p r sp dp n)) := by rw [← he]; exact hD1
    exact kk _ b z2 H1 locs1 ls hP2 hD2 hS1 hl
theorem w_acopyI {p r n0 n1 k : Nat} {sp dp n : Int32} {f : MI → Option β} (hc : Cx G cc own rt fr lo) (hd : decode cc pc = .ok (.invokestatic k, 3)) (hw : Cond.methodLink own k ⟨"java/lang/System", "arraycopy", "(Ljava/lang/Object;ILjava/lang/Object;II)V"⟩ ∈ wsA) (h0 : (gK G)[p]? = some (10, n0)) (h1 : (gK G)[r]? = some (10, n1)) (g1 : 1 ≤ fr) (g2 : 60 ≤ lo) (e : q = pc + 3) (kk : ∀ I, WW G q lv [] I L (f I)) : WW G pc lv [.int n, .int dp, .ref r, .int sp, .ref p] I L (chk (acok sp dp n n0 n1) (bnd (acopy I p r sp dp n) f)) := by
  subst e
  intro b hb H locs ls hP hD hS hl
  obtain ⟨z1, z2⟩ := chk_t hb
  obtain ⟨a1, a2, a3, a4, a5⟩ := acok_t z1
  obtain ⟨r1, r2, r3, r4⟩ := hc.2.2.2.2.2.2.2.2.2.1
  have he : (gwd G I L).set r (gad G r, .inl (gtc G 10, n1, .inl (va_cpy (I p) (I r) (ix sp) (ix dp) (ix n)))) = gwd G (acopy I p r sp dp n) L := by
    have hh : va_cpy (I p) (I r) (ix sp) (ix dp) (ix n) = acopy I p r sp dp n r := by simp [acopy]
    rw [hh]
    exact wd_set (tc := gtc G) (ad := gad G) h1 (R := gR G) (R' := gR G) (I := I) (I' := acopy I p r sp dp n) (L := L) (L' := L) (fun _ _ => rfl) (fun z hz => by simp [acopy, hz]) (fun _ _ => rfl)
  refine va_copyi hc.1 hc.2.1 (hc.2.2.1.trans hl.1.symm) hc.2.2.2.1 (hc.2.2.2.2.1 _ hw) (hc.2.2.2.2.1 _ nat_ac) (hc.2.2.2.2.1 _ st_ac) (hc.2.2.2.2.1 _ in_Sys) hc.2.2.2.2.2.1 hP hD hS p r 0 0 (ty := .int) (f := I p) (g := I r) (wd_get h0) (wd_get h1) rfl rfl rfl a1 a2 a3 a4 a5 (fun i _ => rfl) (by rw [r1]; exact g1) (rest := []) ?_ hd (fun H1 locs1 hP1 hD1 hS1 => ?_)
  · rw [r2]; exact Nat.le_trans (Nat.le_of_ble_eq_true rfl) g2
  · have hP2 : va_P (gD G) vwCl (gwd G (acopy I p r sp dp n) L) H1 := by rw [← he]; exact hP1
    have hD2 : va_D (gA G) (gwd G (acopy I p r sp dp n) L) := by rw [← he]; exact hD1
    exact kk _ b z2 H1 locs1 ls hP2 hD2 hS1 hl
/-- Descent reads a field of a nest mate -/
theorem gfN_X1_55 {p n : Nat} (hc : Cx G cc RX1 rt fr lo) (hd : decode cc pc = .ok (.getfield 55, 3)) (hk : (gK G)[p]? = some (0, n)) (e : q = pc + 3) (kk : WW G q lv (.int (I p 0) :: st) I L X) : WW G pc lv (.ref p :: st) I L X := by
  subst e
  intro b hb H locs ls hP hD hS hl
  exact va_getN (ci := 0) (C := RX0) (T := TX0) (N := 8) (host := RX7) (ref := RX0) (fs := fvs (gad G) (gR G) I L p 0) hc.1 hc.2.1 hc.2.2.2.2.1 inA_X0 hc.2.2.2.1 hc.2.2.2.2.2.1 hP p (by rw [wd_get hk]; rfl) rfl 0 (by decide) (hc.2.2.2.2.2.2.2.2.2.2.1.1.use rfl) (fun _ h9 => h9) (v := .int (I p 0)) (by rw [fvs_get (by decide +kernel)]; rfl) hd (kk b hb H locs ls hP hD hS hl)
theorem w_areturn {p : Nat} {t : String} (hc : Cx G cc own (some (.object t)) fr lo) {an : β → Option Value} {me : β → Mm} {b0 : β} (hq : RetQ G an me) (hd : decode cc pc = .ok (.areturn, 1)) (ha : an b0 = some (.ref p)) (hm : me b0 = (I, L)) : WW G pc lv [.ref p] I L (some b0) := by
  intro b hb H locs ls hP hD hS hl
  cases hb
  show W _ _ _ _ _ _ _ _ _ _ _ _ _ _ (gQ G b0) _
  rw [hq b0, ha, hm]
  exact W.aret hc.1 hc.2.1 hc.2.2.2.2.2.2.2.1 (Or.inl ⟨_, rfl⟩) (Or.inr ⟨_, rfl⟩) (w_rel hc hP hD hS) hS.2.2 hd hc.2.2.2.2.2.2.2.2.1
theorem w_tsw4 {x : Int32} {len : Nat} {df o0 o1 o2 o3 : Int} {td t0 t1 t2 t3 : Nat} {Xd X0 X1 X2 X3 : Option β} (hc : Cx G cc own rt fr lo) (hd : decode cc pc = .ok (.tableswitch df 0 3 #[o0, o1, o2, o3], len)) (h0 : (pc : Int) + o0 = (t0 : Int)) (h1 : (pc : Int) + o1 = (t1 : Int)) (h2 : (pc : Int) + o2 = (t2 : Int)) (h3 : (pc : Int) + o3 = (t3 : Int)) (hdf : (pc : Int) + df = (td : Int)) (k0 : WW G t0 lv st I L X0) (k1 : WW G t1 lv st I L X1) (k2 : WW G t2 lv st I L X2) (k3 : WW G t3 lv st I L X3) (kd : WW G td lv st I L Xd) : WW G pc lv (.int x :: st) I L (if x = 0 then X0 else (if x = 1 then X1 else (if x = 2 then X2 else (if x = 3 then X3 else Xd)))) := by
  intro b hb H locs ls hP hD hS hl
  by_cases z0 : x = 0
  · subst z0
    have hb2 : X0 = some b := by simpa using hb
    exact lv_tableIn hc.1 hc.2.1 hd (by decide) (by decide) (off := o0) rfl h0 (k0 b hb2 H locs ls hP hD hS hl)
  rw [if_neg z0] at hb
  by_cases z1 : x = 1
  · subst z1
    have hb2 : X1 = some b := by simpa using hb
    exact lv_tableIn hc.1 hc.2.1 hd (by decide) (by decide) (off := o1) rfl h1 (k1 b hb2 H locs ls hP hD hS hl)
  rw [if_neg z1] at hb
  by_cases z2 : x = 2
  · subst z2
    have hb2 : X2 = some b := by simpa using hb
    exact lv_tableIn hc.1 hc.2.1 hd (by decide) (by decide) (off := o2) rfl h2 (k2 b hb2 H locs ls hP hD hS hl)
  rw [if_neg z2] at hb
  by_cases z3 : x = 3
  · subst z3
    have hb2 : X3 = some b := by simpa using hb
    exact lv_tableIn hc.1 hc.2.1 hd (by decide) (by decide) (off := o3) rfl h3 (k3 b hb2 H locs ls hP hD hS hl)
  rw [if_neg z3] at hb
  refine lv_tableOut hc.1 hc.2.1 hd ?_ hdf (kd b hb H locs ls hP hD hS hl)
  have y0 : ¬ x.toInt = 0 := fun h => z0 (Int32.toInt_inj.mp h)
  have y1 : ¬ x.toInt = 1 := fun h => z1 (Int32.toInt_inj.mp h)
  have y2 : ¬ x.toInt = 2 := fun h => z2 (Int32.toInt_inj.mp h)
  have y3 : ¬ x.toInt = 3 := fun h => z3 (Int32.toInt_inj.mp h)
  omega
theorem w_tsw5 {x : Int32} {len : Nat} {df o0 o1 o2 o3 o4 : Int} {td t0 t1 t2 t3 t4 : Nat} {Xd X0 X1 X2 X3 X4 : Option β} (hc : Cx G cc own rt fr lo) (hd : decode cc pc = .ok (.tableswitch df 0 4 #[o0, o1, o2, o3, o4], len)) (h0 : (pc : Int) + o0 = (t0 : Int)) (h1 : (pc : Int) + o1 = (t1 : Int)) (h2 : (pc : Int) + o2 = (t2 : Int)) (h3 : (pc : Int) + o3 = (t3 : Int)) (h4 : (pc : Int) + o4 = (t4 : Int)) (hdf : (pc : Int) + df = (td : Int)) (k0 : WW G t0 lv st I L X0) (k1 : WW G t1 lv st I L X1) (k2 : WW G t2 lv st I L X2) (k3 : WW G t3 lv st I L X3) (k4 : WW G t4 lv st I L X4) (kd : WW G td lv st I L Xd) : WW G pc lv (.int x :: st) I L (if x = 0 then X0 else (if x = 1 then X1 else (if x = 2 then X2 else (if x = 3 then X3 else (if x = 4 then X4 else Xd))))) := by
  intro b hb H locs ls hP hD hS hl
  by_cases z0 : x = 0
  · subst z0
    have hb2 : X0 = some b := by simpa using hb
    exact lv_tableIn hc.1 hc.2.1 hd (by decide) (by decide) (off := o0) rfl h0 (k0 b hb2 H locs ls hP hD hS hl)
  rw [if_neg z0] at hb
  by_cases z1 : x = 1
  · subst z1
    have hb2 : X1 = some b := by simpa using hb
    exact lv_tableIn hc.1 hc.2.1 hd (by decide) (by decide) (off := o1) rfl h1 (k1 b hb2 H locs ls hP hD hS hl)
  rw [if_neg z1] at hb
  by_cases z2 : x = 2
  · subst z2
    have hb2 : X2 = some b := by simpa using hb
    exact lv_tableIn hc.1 hc.2.1 hd (by decide) (by decide) (off := o2) rfl h2 (k2 b hb2 H locs ls hP hD hS hl)
  rw [if_neg z2] at hb
  by_cases z3 : x = 3
  · subst z3
    have hb2 : X3 = some b := by simpa using hb
    exact lv_tableIn hc.1 hc.2.1 hd (by decide) (by decide) (off := o3) rfl h3 (k3 b hb2 H locs ls hP hD hS hl)
  rw [if_neg z3] at hb
  by_cases z4 : x = 4
  · subst z4
    have hb2 : X4 = some b := by simpa using hb
    exact lv_tableIn hc.1 hc.2.1 hd (by decide) (by decide) (off := o4) rfl h4 (k4 b hb2 H locs ls hP hD hS hl)
  rw [if_neg z4] at hb
  refine lv_tableOut hc.1 hc.2.1 hd ?_ hdf (kd b hb H locs ls hP hD hS hl)
  have y0 : ¬ x.toInt = 0 := fun h => z0 (Int32.toInt_inj.mp h)
  have y1 : ¬ x.toInt = 1 := fun h => z1 (Int32.toInt_inj.mp h)
  have y2 : ¬ x.toInt = 2 := fun h => z2 (Int32.toInt_inj.mp h)
  have y3 : ¬ x.toInt = 3 := fun h => z3 (Int32.toInt_inj.mp h)
  have y4 : ¬ x.toInt = 4 := fun h => z4 (Int32.toInt_inj.mp h)
  omega
theorem w_callS_Ri {F : Option Int32} {X' : Int32 → Option β} {y : MethodName} {cy : ByteArray} {maxL fr' lo' idx n : Nat} {rt' : Option FieldType} {args stk : List Value} (hc : Cx G cc own rt fr lo) (hM : MFg (gl G) y cy maxL rt' fr' lo' args (gK G) (gR G) I L anI (meR I L) F)
    (hd : decode cc pc = .ok (.invokestatic idx, 3)) (hw : Cond.methodLink own idx y ∈ wsA) (hf : CalF y cy maxL rt' n) (hs : Cond.static y ∈ wsA) (hn : args.length = n) (hstk : stk = args.reverse ++ st) (h8 : (st.map fun v => v.category).sum ≤ 8) (hroom : fr' + 1 ≤ fr ∧ 8 + (maxL + 11) + lo' ≤ lo) (e : q = pc + 3)
    (kk : ∀ x, WW G q lv (.int x :: st) I L (X' x)) : WW G pc lv stk I L (F.bind X') := w_callS hc hM hd hw hf hs hn hstk h8 hroom e kk
theorem w_callV_Ri {F : Option Int32} {X' : Int32 → Option β} {y : MethodName} {cy : ByteArray} {maxL fr' lo' idx n p ci k0 N : Nat} {C : String} {T : u_T} {rt' : Option FieldType} {args stk : List Value} (hc : Cx G cc own rt fr lo) (hM : MFg (gl G) y cy maxL rt' fr' lo' (.ref p :: args) (gK G) (gR G) I L anI (meR I L) F)
    (hd : decode cc pc = .ok (.invokevirtual idx, 3)) (hw : Cond.methodLink own idx y ∈ wsA) (hf : CalF y cy maxL rt' n) (hs : Cond.instanceMethod y ∈ wsA ∧ Cond.selects y.cls y y ∈ wsA) (hk : (gK G)[p]? = some (ci, k0)) (hv : vwCl[ci]? = some (C, T, N)) (hC : C = y.cls) (h8c : ci < 8) (hn : args.length = n) (hstk : stk = args.reverse ++ .ref p :: st) (h8 : (st.map fun v => v.category).sum ≤ 8) (hroom : fr' + 1 ≤ fr ∧ 8 + (maxL + 11) + lo' ≤ lo) (e : q = pc + 3)
    (kk : ∀ x, WW G q lv (.int x :: st) I L (X' x)) : WW G pc lv stk I L (F.bind X') := w_callV hc hM hd hw hf hs hk hv hC h8c hn hstk h8 hroom e kk
theorem w_callS_Rz {F : Option Bool} {X' : Bool → Option β} {y : MethodName} {cy : ByteArray} {maxL fr' lo' idx n : Nat} {rt' : Option FieldType} {args stk : List Value} (hc : Cx G cc own rt fr lo) (hM : MFg (gl G) y cy maxL rt' fr' lo' args (gK G) (gR G) I L anZ (meR I L) F)
    (hd : decode cc pc = .ok (.invokestatic idx, 3)) (hw : Cond.methodLink own idx y ∈ wsA) (hf : CalF y cy maxL rt' n) (hs : Cond.static y ∈ wsA) (hn : args.length = n) (hstk : stk = args.reverse ++ st) (h8 : (st.map fun v => v.category).sum ≤ 8) (hroom : fr' + 1 ≤ fr ∧ 8 + (maxL + 11) + lo' ≤ lo) (e : q = pc + 3)
    (kk : ∀ x, WW G q lv (.int (b2i x) :: st) I L (X' x)) : WW G pc lv stk I L (F.bind X') := w_callS hc hM hd hw hf hs hn hstk h8 hroom e kk
theorem w_callV_Rz {F : Option Bool} {X' : Bool → Option β} {y : MethodName} {cy : ByteArray} {maxL fr' lo' idx n p ci k0 N : Nat} {C : String} {T : u_T} {rt' : Option FieldType} {args stk : List Value} (hc : Cx G cc own rt fr lo) (hM : MFg (gl G) y cy maxL rt' fr' lo' (.ref p :: args) (gK G) (gR G) I L anZ (meR I L) F)
    (hd : decode cc pc = .ok (.invokevirtual idx, 3)) (hw : Cond.methodLink own idx y ∈ wsA) (hf : CalF y cy maxL rt' n) (hs : Cond.instanceMethod y ∈ wsA ∧ Cond.selects y.cls y y ∈ wsA) (hk : (gK G)[p]? = some (ci, k0)) (hv : vwCl[ci]? = some (C, T, N)) (hC : C = y.cls) (h8c : ci < 8) (hn : args.length = n) (hstk : stk = args.reverse ++ .ref p :: st) (h8 : (st.map fun v => v.category).sum ≤ 8) (hroom : fr' + 1 ≤ fr ∧ 8 + (maxL + 11) + lo' ≤ lo) (e : q = pc + 3)
    (kk : ∀ x, WW G q lv (.int (b2i x) :: st) I L (X' x)) : WW G pc lv stk I L (F.bind X') := w_callV hc hM hd hw hf hs hk hv hC h8c hn hstk h8 hroom e kk
theorem w_callS_Rl {F : Option Int64} {X' : Int64 → Option β} {y : MethodName} {cy : ByteArray} {maxL fr' lo' idx n : Nat} {rt' : Option FieldType} {args stk : List Value} (hc : Cx G cc own rt fr lo) (hM : MFg (gl G) y cy maxL rt' fr' lo' args (gK G) (gR G) I L anL (meR I L) F)
    (hd : decode cc pc = .ok (.invokestatic idx, 3)) (hw : Cond.methodLink own idx y ∈ wsA) (hf : CalF y cy maxL rt' n) (hs : Cond.static y ∈ wsA) (hn : args.length = n) (hstk : stk = args.reverse ++ st) (h8 : (st.map fun v => v.category).sum ≤ 8) (hroom : fr' + 1 ≤ fr ∧ 8 + (maxL + 11) + lo' ≤ lo) (e : q = pc + 3)
    (kk : ∀ x, WW G q lv (.long x :: st) I L (X' x)) : WW G pc lv stk I L (F.bind X') := w_callS hc hM hd hw hf hs hn hstk h8 hroom e kk
theorem w_callV_Rl {F : Option Int64} {X' : Int64 → Option β} {y : MethodName} {cy : ByteArray} {maxL fr' lo' idx n p ci k0 N : Nat} {C : String} {T : u_T} {rt' : Option FieldType} {args stk : List Value} (hc : Cx G cc own rt fr lo) (hM : MFg (gl G) y cy maxL rt' fr' lo' (.ref p :: args) (gK G) (gR G) I L anL (meR I L) F)
    (hd : decode cc pc = .ok (.invokevirtual idx, 3)) (hw : Cond.methodLink own idx y ∈ wsA) (hf : CalF y cy maxL rt' n) (hs : Cond.instanceMethod y ∈ wsA ∧ Cond.selects y.cls y y ∈ wsA) (hk : (gK G)[p]? = some (ci, k0)) (hv : vwCl[ci]? = some (C, T, N)) (hC : C = y.cls) (h8c : ci < 8) (hn : args.length = n) (hstk : stk = args.reverse ++ .ref p :: st) (h8 : (st.map fun v => v.category).sum ≤ 8) (hroom : fr' + 1 ≤ fr ∧ 8 + (maxL + 11) + lo' ≤ lo) (e : q = pc + 3)
    (kk : ∀ x, WW G q lv (.long x :: st) I L (X' x)) : WW G pc lv stk I L (F.bind X') := w_callV hc hM hd hw hf hs hk hv hC h8c hn hstk h8 hroom e kk
theorem w_callS_Wi {F : Option (Int32 × Mm)} {X' : (Int32 × Mm) → Option β} {y : MethodName} {cy : ByteArray} {maxL fr' lo' idx n : Nat} {rt' : Option FieldType} {args stk : List Value} (hc : Cx G cc own rt fr lo) (hM : MFg (gl G) y cy maxL rt' fr' lo' args (gK G) (gR G) I L anIW meW F)
    (hd : decode cc pc = .ok (.invokestatic idx, 3)) (hw : Cond.methodLink own idx y ∈ wsA) (hf : CalF y cy maxL rt' n) (hs : Cond.static y ∈ wsA) (hn : args.length = n) (hstk : stk = args.reverse ++ st) (h8 : (st.map fun v => v.category).sum ≤ 8) (hroom : fr' + 1 ≤ fr ∧ 8 + (maxL + 11) + lo' ≤ lo) (e : q = pc + 3)
    (kk : ∀ x, WW G q lv (.int x.1 :: st) x.2.1 x.2.2 (X' x)) : WW G pc lv stk I L (F.bind X') := w_callS hc hM hd hw hf hs hn hstk h8 hroom e kk
theorem w_callV_Wi {F : Option (Int32 × Mm)} {X' : (Int32 × Mm) → Option β} {y : MethodName} {cy : ByteArray} {maxL fr' lo' idx n p ci k0 N : Nat} {C : String} {T : u_T} {rt' : Option FieldType} {args stk : List Value} (hc : Cx G cc own rt fr lo) (hM : MFg (gl G) y cy maxL rt' fr' lo' (.ref p :: args) (gK G) (gR G) I L anIW meW F)
    (hd : decode cc pc = .ok (.invokevirtual idx, 3)) (hw : Cond.methodLink own idx y ∈ wsA) (hf : CalF y cy maxL rt' n) (hs : Cond.instanceMethod y ∈ wsA ∧ Cond.selects y.cls y y ∈ wsA) (hk : (gK G)[p]? = some (ci, k0)) (hv : vwCl[ci]? = some (C, T, N)) (hC : C = y.cls) (h8c : ci < 8) (hn : args.length = n) (hstk : stk = args.reverse ++ .ref p :: st) (h8 : (st.map fun v => v.category).sum ≤ 8) (hroom : fr' + 1 ≤ fr ∧ 8 + (maxL + 11) + lo' ≤ lo) (e : q = pc + 3)
    (kk : ∀ x, WW G q lv (.int x.1 :: st) x.2.1 x.2.2 (X' x)) : WW G pc lv stk I L (F.bind X') := w_callV hc hM hd hw hf hs hk hv hC h8c hn hstk h8 hroom e kk
theorem w_callS_Wz {F : Option (Bool × Mm)} {X' : (Bool × Mm) → Option β} {y : MethodName} {cy : ByteArray} {maxL fr' lo' idx n : Nat} {rt' : Option FieldType} {args stk : List Value} (hc : Cx G cc own rt fr lo) (hM : MFg (gl G) y cy maxL rt' fr' lo' args (gK G) (gR G) I L anZW meW F)
    (hd : decode cc pc = .ok (.invokestatic idx, 3)) (hw : Cond.methodLink own idx y ∈ wsA) (hf : CalF y cy maxL rt' n) (hs : Cond.static y ∈ wsA) (hn : args.length = n) (hstk : stk = args.reverse ++ st) (h8 : (st.map fun v => v.category).sum ≤ 8) (hroom : fr' + 1 ≤ fr ∧ 8 + (maxL + 11) + lo' ≤ lo) (e : q = pc + 3)
    (kk : ∀ x, WW G q lv (.int (b2i x.1) :: st) x.2.1 x.2.2 (X' x)) : WW G pc lv stk I L (F.bind X') := w_callS hc hM hd hw hf hs hn hstk h8 hroom e kk
theorem w_callV_Wz {F : Option (Bool × Mm)} {X' : (Bool × Mm) → Option β} {y : MethodName} {cy : ByteArray} {maxL fr' lo' idx n p ci k0 N : Nat} {C : String} {T : u_T} {rt' : Option FieldType} {args stk : List Value} (hc : Cx G cc own rt fr lo) (hM : MFg (gl G) y cy maxL rt' fr' lo' (.ref p :: args) (gK G) (gR G) I L anZW meW F)
    (hd : decode cc pc = .ok (.invokevirtual idx, 3)) (hw : Cond.methodLink own idx y ∈ wsA) (hf : CalF y cy maxL rt' n) (hs : Cond.instanceMethod y ∈ wsA ∧ Cond.selects y.cls y y ∈ wsA) (hk : (gK G)[p]? = some (ci, k0)) (hv : vwCl[ci]? = some (C, T, N)) (hC : C = y.cls) (h8c : ci < 8) (hn : args.length = n) (hstk : stk = args.reverse ++ .ref p :: st) (h8 : (st.map fun v => v.category).sum ≤ 8) (hroom : fr' + 1 ≤ fr ∧ 8 + (maxL + 11) + lo' ≤ lo) (e : q = pc + 3)
    (kk : ∀ x, WW G q lv (.int (b2i x.1) :: st) x.2.1 x.2.2 (X' x)) : WW G pc lv stk I L (F.bind X') := w_callV hc hM hd hw hf hs hk hv hC h8c hn hstk h8 hroom e kk
theorem w_callS_Wl {F : Option (Int64 × Mm)} {X' : (Int64 × Mm) → Option β} {y : MethodName} {cy : ByteArray} {maxL fr' lo' idx n : Nat} {rt' : Option FieldType} {args stk : List Value} (hc : Cx G cc own rt fr lo) (hM : MFg (gl G) y cy maxL rt' fr' lo' args (gK G) (gR G) I L anLW meW F)
    (hd : decode cc pc = .ok (.invokestatic idx, 3)) (hw : Cond.methodLink own idx y ∈ wsA) (hf : CalF y cy maxL rt' n) (hs : Cond.static y ∈ wsA) (hn : args.length = n) (hstk : stk = args.reverse ++ st) (h8 : (st.map fun v => v.category).sum ≤ 8) (hroom : fr' + 1 ≤ fr ∧ 8 + (maxL + 11) + lo' ≤ lo) (e : q = pc + 3)
    (kk : ∀ x, WW G q lv (.long x.1 :: st) x.2.1 x.2.2 (X' x)) : WW G pc lv stk I L (F.bind X') := w_callS hc hM hd hw hf hs hn hstk h8 hroom e kk
theorem w_callV_Wl {F : Option (Int64 × Mm)} {X' : (Int64 × Mm) → Option β} {y : MethodName} {cy : ByteArray} {maxL fr' lo' idx n p ci k0 N : Nat} {C : String} {T : u_T} {rt' : Option FieldType} {args stk : List Value} (hc : Cx G cc own rt fr lo) (hM : MFg (gl G) y cy maxL rt' fr' lo' (.ref p :: args) (gK G) (gR G) I L anLW meW F)
    (hd : decode cc pc = .ok (.invokevirtual idx, 3)) (hw : Cond.methodLink own idx y ∈ wsA) (hf : CalF y cy maxL rt' n) (hs : Cond.instanceMethod y ∈ wsA ∧ Cond.selects y.cls y y ∈ wsA) (hk : (gK G)[p]? = some (ci, k0)) (hv : vwCl[ci]? = some (C, T, N)) (hC : C = y.cls) (h8c : ci < 8) (hn : args.length = n) (hstk : stk = args.reverse ++ .ref p :: st) (h8 : (st.map fun v => v.category).sum ≤ 8) (hroom : fr' + 1 ≤ fr ∧ 8 + (maxL + 11) + lo' ≤ lo) (e : q = pc + 3)
    (kk : ∀ x, WW G q lv (.long x.1 :: st) x.2.1 x.2.2 (X' x)) : WW G pc lv stk I L (F.bind X') := w_callV hc hM hd hw hf hs hk hv hC h8c hn hstk h8 hroom e kk
theorem w_callS_Wv {F : Option Mm} {X' : Mm → Option β} {y : MethodName} {cy : ByteArray} {maxL fr' lo' idx n : Nat} {rt' : Option FieldType} {args stk : List Value} (hc : Cx G cc own rt fr lo) (hM : MFg (gl G) y cy maxL rt' fr' lo' args (gK G) (gR G) I L anV meV F)
    (hd : decode cc pc = .ok (.invokestatic idx, 3)) (hw : Cond.methodLink own idx y ∈ wsA) (hf : CalF y cy maxL rt' n) (hs : Cond.static y ∈ wsA) (hn : args.length = n) (hstk : stk = args.reverse ++ st) (h8 : (st.map fun v => v.category).sum ≤ 8) (hroom : fr' + 1 ≤ fr ∧ 8 + (maxL + 11) + lo' ≤ lo) (e : q = pc + 3)
    (kk : ∀ x, WW G q lv st x.1 x.2 (X' x)) : WW G pc lv stk I L (F.bind X') := w_callS hc hM hd hw hf hs hn hstk h8 hroom e kk
theorem w_callV_Wv {F : Option Mm} {X' : Mm → Option β} {y : MethodName} {cy : ByteArray} {maxL fr' lo' idx n p ci k0 N : Nat} {C : String} {T : u_T} {rt' : Option FieldType} {args stk : List Value} (hc : Cx G cc own rt fr lo) (hM : MFg (gl G) y cy maxL rt' fr' lo' (.ref p :: args) (gK G) (gR G) I L anV meV F)
    (hd : decode cc pc = .ok (.invokevirtual idx, 3)) (hw : Cond.methodLink own idx y ∈ wsA) (hf : CalF y cy maxL rt' n) (hs : Cond.instanceMethod y ∈ wsA ∧ Cond.selects y.cls y y ∈ wsA) (hk : (gK G)[p]? = some (ci, k0)) (hv : vwCl[ci]? = some (C, T, N)) (hC : C = y.cls) (h8c : ci < 8) (hn : args.length = n) (hstk : stk = args.reverse ++ .ref p :: st) (h8 : (st.map fun v => v.category).sum ≤ 8) (hroom : fr' + 1 ≤ fr ∧ 8 + (maxL + 11) + lo' ≤ lo) (e : q = pc + 3)
    (kk : ∀ x, WW G q lv st x.1 x.2 (X' x)) : WW G pc lv stk I L (F.bind X') := w_callV hc hM hd hw hf hs hk hv hC h8c hn hstk h8 hroom e kk
theorem w_callS_Wr {r : Nat} {F : Option Mm} {X' : Mm → Option β} {y : MethodName} {cy : ByteArray} {maxL fr' lo' idx n : Nat} {rt' : Option FieldType} {args stk : List Value} (hc : Cx G cc own rt fr lo) (hM : MFg (gl G) y cy maxL rt' fr' lo' args (gK G) (gR G) I L (anR r) meV F)
    (hd : decode cc pc = .ok (.invokestatic idx, 3)) (hw : Cond.methodLink own idx y ∈ wsA) (hf : CalF y cy maxL rt' n) (hs : Cond.static y ∈ wsA) (hn : args.length = n) (hstk : stk = args.reverse ++ st) (h8 : (st.map fun v => v.category).sum ≤ 8) (hroom : fr' + 1 ≤ fr ∧ 8 + (maxL + 11) + lo' ≤ lo) (e : q = pc + 3)
    (kk : ∀ x, WW G q lv (.ref r :: st) x.1 x.2 (X' x)) : WW G pc lv stk I L (F.bind X') := w_callS hc hM hd hw hf hs hn hstk h8 hroom e kk
theorem w_callV_Wr {r : Nat} {F : Option Mm} {X' : Mm → Option β} {y : MethodName} {cy : ByteArray} {maxL fr' lo' idx n p ci k0 N : Nat} {C : String} {T : u_T} {rt' : Option FieldType} {args stk : List Value} (hc : Cx G cc own rt fr lo) (hM : MFg (gl G) y cy maxL rt' fr' lo' (.ref p :: args) (gK G) (gR G) I L (anR r) meV F)
    (hd : decode cc pc = .ok (.invokevirtual idx, 3)) (hw : Cond.methodLink own idx y ∈ wsA) (hf : CalF y cy maxL rt' n) (hs : Cond.instanceMethod y ∈ wsA ∧ Cond.selects y.cls y y ∈ wsA) (hk : (gK G)[p]? = some (ci, k0)) (hv : vwCl[ci]? = some (C, T, N)) (hC : C = y.cls) (h8c : ci < 8) (hn : args.length = n) (hstk : stk = args.reverse ++ .ref p :: st) (h8 : (st.map fun v => v.category).sum ≤ 8) (hroom : fr' + 1 ≤ fr ∧ 8 + (maxL + 11) + lo' ≤ lo) (e : q = pc + 3)
    (kk : ∀ x, WW G q lv (.ref r :: st) x.1 x.2 (X' x)) : WW G pc lv stk I L (F.bind X') := w_callV hc hM hd hw hf hs hk hv hC h8c hn hstk h8 hroom e kk
end WS
