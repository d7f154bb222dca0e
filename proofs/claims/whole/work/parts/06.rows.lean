def ushr (x y : Int32) : Int32 := (x.toUInt32 >>> (y.toUInt32 &&& Int32.toUInt32 31)).toInt32
def shl (x y : Int32) : Int32 := x <<< (y &&& 31)
def shr (x y : Int32) : Int32 := x >>> (y &&& 31)
def irem (x y : Int32) : Int32 := x - x / y * y
def lrem (x y : Int64) : Int64 := x - x / y * y
def lushr (x : Int64) (y : Int32) : Int64 := (x.toUInt64 >>> (y.toInt64.toUInt64 &&& Int64.toUInt64 63)).toInt64
def lshl (x : Int64) (y : Int32) : Int64 := x <<< (y.toInt64 &&& 63)
section WR
variable {β : Type} {G : GT β} {cc : ByteArray} {own : String} {rt : Option FieldType} {fr lo pc q : Nat} {lv : List (Nat × Value)} {st : List Value} {I : MI} {L : ML} {X : Option β}
theorem tr_cat (ad : Nat → Nat) (v : Value) : (tr ad v).category = v.category := by cases v <;> rfl
theorem trl_filter (ad : Nat → Nat) (f : Nat → Nat → Bool) (lv : List (Nat × Value)) : (trl ad lv).filter (fun q => f q.1 q.2.category) = trl ad (lv.filter (fun q => f q.1 q.2.category)) := by
  induction lv with
  | nil => rfl
  | cons a t ih =>
    show List.filter _ ((a.1, tr ad a.2) :: trl ad t) = _
    simp only [List.filter_cons, tr_cat]
    cases f a.1 a.2.category
    · simpa using ih
    · simpa using ih
theorem lvat {ad : Nat → Nat} {ls : Array Slot} {nL k i : Nat} {v : Value} (hl : lv_has ls nL (trl ad lv)) (h : lv[k]? = some (i, v)) : ls[i]? = some (.val (tr ad v)) := lv_at hl k (by show (List.map _ lv)[k]? = _; rw [List.getElem?_map, h]; rfl)
theorem wd_get {tc : Nat → ClassId} {ad : Nat → Nat} {K : KT} {R : MR} {p : Nat} {k : Nat × Nat} (h : K[p]? = some k) : (wd tc ad K R I L)[p]? = some (ad p, ce tc ad R I L p k) := by
  show (List.mapIdx _ K)[p]? = _
  rw [List.getElem?_mapIdx, h]; rfl
theorem up2_ne {α : Type} {f : Nat → Nat → α} {p k q : Nat} {v : α} (h : q ≠ p) : up2 f p k v q = f q := by funext j; simp [up2, h]
theorem up2_arr {f : MI} {p k : Nat} {v : Int32} : up2 f p k v p = upd (f p) k v := by funext j; simp [up2, upd]
theorem up2_arrL {f : ML} {p k : Nat} {v : Int64} : up2 f p k v p = vp_updL (f p) k v := by funext j; simp [up2, vp_updL]
theorem fvs_len (ad : Nat → Nat) (R : MR) (p ci : Nat) : (fvs ad R I L p ci).length = fnn ci := by simp [fvs]
theorem fvs_get {ad : Nat → Nat} {R : MR} {p ci k : Nat} (h : k < fnn ci) : (fvs ad R I L p ci)[k]? = some (fv ad R I L p (fty ci k) k) := by
  unfold fvs; rw [List.getElem?_map, List.getElem?_range h]; rfl
theorem fvs_setI {ad : Nat → Nat} {R : MR} {p ci k : Nat} {v : Int32} (h : fty ci k = 0) : (fvs ad R I L p ci).set k (.int v) = fvs ad R (up2 I p k v) L p ci := by
  apply List.ext_getElem?
  intro j
  rw [List.getElem?_set, fvs_len]
  by_cases hj : j < fnn ci
  · rw [fvs_get hj, fvs_get hj]
    by_cases e : k = j
    · subst e; simp [hj, h, fv, up2]
    · have e' : ¬ j = k := fun z => e z.symm
      simp [e, fv, up2, e']
  · have h1 : (fvs ad R I L p ci)[j]? = none := List.getElem?_eq_none (by rw [fvs_len]; omega)
    have h2 : (fvs ad R (up2 I p k v) L p ci)[j]? = none := List.getElem?_eq_none (by rw [fvs_len]; omega)
    rw [h1, h2]; by_cases e : k = j
    · subst e; simp [hj]
    · simp [e]
theorem fvs_setL {ad : Nat → Nat} {R : MR} {p ci k : Nat} {v : Int64} (h : fty ci k = 1) : (fvs ad R I L p ci).set k (.long v) = fvs ad R I (up2 L p k v) p ci := by
  apply List.ext_getElem?
  intro j
  rw [List.getElem?_set, fvs_len]
  by_cases hj : j < fnn ci
  · rw [fvs_get hj, fvs_get hj]
    by_cases e : k = j
    · subst e; simp [hj, h, fv, up2]
    · have e' : ¬ j = k := fun z => e z.symm
      simp [e, fv, up2, e']
  · have h1 : (fvs ad R I L p ci)[j]? = none := List.getElem?_eq_none (by rw [fvs_len]; omega)
    have h2 : (fvs ad R I (up2 L p k v) p ci)[j]? = none := List.getElem?_eq_none (by rw [fvs_len]; omega)
    rw [h1, h2]; by_cases e : k = j
    · subst e; simp [hj]
    · simp [e]
theorem fvs_setR {ad : Nat → Nat} {R : MR} {p ci k : Nat} {r : Option Nat} (h0 : fty ci k ≠ 0) (h1 : fty ci k ≠ 1) : (fvs ad R I L p ci).set k (va_rf (r.map ad)) = fvs ad (up2 R p k r) I L p ci := by
  apply List.ext_getElem?
  intro j
  rw [List.getElem?_set, fvs_len]
  by_cases hj : j < fnn ci
  · rw [fvs_get hj, fvs_get hj]
    by_cases e : k = j
    · subst e; simp [hj, h0, h1, fv, up2]
    · have e' : ¬ j = k := fun z => e z.symm
      simp [e, fv, up2, e']
  · have h1 : (fvs ad R I L p ci)[j]? = none := List.getElem?_eq_none (by rw [fvs_len]; omega)
    have h2 : (fvs ad (up2 R p k r) I L p ci)[j]? = none := List.getElem?_eq_none (by rw [fvs_len]; omega)
    rw [h1, h2]; by_cases e : k = j
    · subst e; simp [hj]
    · simp [e]
theorem ce_ext {tc : Nat → ClassId} {ad : Nat → Nat} {R R' : MR} {I' : MI} {L' : ML} {p : Nat} (hR : R p = R' p) (hI : I p = I' p) (hL : L p = L' p) (k : Nat × Nat) : ce tc ad R I L p k = ce tc ad R' I' L' p k := by
  simp only [ce, fvs, fv, hR, hI, hL]
theorem wd_set {tc : Nat → ClassId} {ad : Nat → Nat} {K : KT} {R R' : MR} {I' : MI} {L' : ML} {p : Nat} {k : Nat × Nat} (h : K[p]? = some k) (hR : ∀ q, q ≠ p → R q = R' q) (hI : ∀ q, q ≠ p → I q = I' q) (hL : ∀ q, q ≠ p → L q = L' q) : (wd tc ad K R I L).set p (ad p, ce tc ad R' I' L' p k) = wd tc ad K R' I' L' := by
  have hlt : p < K.length := (List.getElem?_eq_some_iff.mp h).1
  apply List.ext_getElem?
  intro j
  have hlen : (wd tc ad K R I L).length = K.length := by simp [wd]
  rw [List.getElem?_set, hlen]
  by_cases e : p = j
  · subst e
    rw [if_pos rfl, if_pos hlt, wd_get h]
  · rw [if_neg e]
    show (List.mapIdx _ K)[j]? = (List.mapIdx _ K)[j]?
    rw [List.getElem?_mapIdx, List.getElem?_mapIdx]
    have e' : j ≠ p := fun z => e z.symm
    cases K[j]? with
    | none => rfl
    | some x => simp only [Option.map_some]; rw [ce_ext (hR j e') (hI j e') (hL j e')]
theorem inb_in {i : Int32} {n : Nat} (h : inb i n = true) : vp_in i n := by
  rw [vp_in_iff]; simpa [inb] using h
theorem chk_t {c : Bool} {b : β} (h : chk c X = some b) : c = true ∧ X = some b := by
  unfold chk at h
  by_cases hc : c = true
  · rw [if_pos hc] at h; exact ⟨hc, h⟩
  · rw [if_neg hc] at h; cases h
theorem w_none (pc : Nat) (lv : List (Nat × Value)) (st : List Value) : WW G pc lv st I L none := fun _ h => by cases h
theorem w_sub {lv' : List (Nat × Value)} (ks : List Nat) (h : ks.filterMap (fun k => lv[k]?) = lv') (kk : WW G pc lv' st I L X) : WW G pc lv st I L X := by
  intro b hb H locs ls hP hD hS hl
  refine kk b hb H locs ls hP hD hS (lv_sub hl ks ?_)
  subst h
  clear kk
  show List.filterMap (fun k => (List.map _ lv)[k]?) ks = List.map _ (List.filterMap _ ks)
  induction ks with
  | nil => rfl
  | cons a t ih => 
    simp only [List.filterMap_cons, List.getElem?_map]
    cases lv[a]? with
    | none => simpa using ih
    | some v => simpa using ih

theorem w_iconst (hc : Cx G cc own rt fr lo) {n : Int} {v : Int32} (hd : decode cc pc = .ok (.iconst n, 1)) (hv : Int32.ofInt n = v) (e : q = pc + 1) (kk : WW G q lv (.int v :: st) I L X) : WW G pc lv st I L X := by
  subst e
  intro b hb H locs ls hP hD hS hl
  exact lv_iconst hc.1 hc.2.1 hd hv (kk b hb H locs ls hP hD hS hl)
theorem w_bipush (hc : Cx G cc own rt fr lo) {n : Int} {v : Int32} (hd : decode cc pc = .ok (.bipush n, 2)) (hv : (Int8.ofInt n).toInt32 = v) (e : q = pc + 2) (kk : WW G q lv (.int v :: st) I L X) : WW G pc lv st I L X := by
  subst e
  intro b hb H locs ls hP hD hS hl
  exact lv_bipush hc.1 hc.2.1 hd hv (kk b hb H locs ls hP hD hS hl)
theorem w_sipush (hc : Cx G cc own rt fr lo) {n : Int} {v : Int32} (hd : decode cc pc = .ok (.sipush n, 3)) (hv : (Int16.ofInt n).toInt32 = v) (e : q = pc + 3) (kk : WW G q lv (.int v :: st) I L X) : WW G pc lv st I L X := by
  subst e
  intro b hb H locs ls hP hD hS hl
  exact lv_sipush hc.1 hc.2.1 hd hv (kk b hb H locs ls hP hD hS hl)
theorem w_lconst (hc : Cx G cc own rt fr lo) {n : Fin 2} {v : Int64} (hd : decode cc pc = .ok (.lconst n, 1)) (hv : Int64.ofNat (n : Nat) = v) (e : q = pc + 1) (kk : WW G q lv (.long v :: st) I L X) : WW G pc lv st I L X := by
  subst e
  intro b hb H locs ls hP hD hS hl
  exact lv_lconst hc.1 hc.2.1 hd hv (kk b hb H locs ls hP hD hS hl)
theorem w_ldc (hc : Cx G cc own rt fr lo) {n : Nat} {v : Int32} (hd : decode cc pc = .ok (.ldc n, 2)) (hw : Cond.constant own n v ∈ wsA) (e : q = pc + 2) (kk : WW G q lv (.int v :: st) I L X) : WW G pc lv st I L X := by
  subst e
  intro b hb H locs ls hP hD hS hl
  exact lv_ldc hc.1 hc.2.1 hc.2.2.2.1 (hc.2.2.2.2.1 _ hw) hd (kk b hb H locs ls hP hD hS hl)
theorem w_ldc2 (hc : Cx G cc own rt fr lo) {n : Nat} {v : Int64} (hd : decode cc pc = .ok (.ldc2_w n, 3)) (hw : Cond.constantLong own n v ∈ wsA) (e : q = pc + 3) (kk : WW G q lv (.long v :: st) I L X) : WW G pc lv st I L X := by
  subst e
  intro b hb H locs ls hP hD hS hl
  exact lv_ldc2 hc.1 hc.2.1 hc.2.2.2.1 (hc.2.2.2.2.1 _ hw) hd (kk b hb H locs ls hP hD hS hl)
theorem w_null (hc : Cx G cc own rt fr lo) (hd : decode cc pc = .ok (.aconst_null, 1)) (e : q = pc + 1) (kk : WW G q lv (.null :: st) I L X) : WW G pc lv st I L X := by
  subst e
  intro b hb H locs ls hP hD hS hl
  exact lv_null hc.1 hc.2.1 hd (kk b hb H locs ls hP hD hS hl)
theorem w_iload_n (hc : Cx G cc own rt fr lo) {k : Fin 4} {i j : Nat} {x : Int32} (hd : decode cc pc = .ok (.iload_n k, 1)) (hi : (k : Nat) = i) (hl0 : lv[j]? = some (i, .int x)) (e : q = pc + 1) (kk : WW G q lv (.int x :: st) I L X) : WW G pc lv st I L X := by
  subst e
  intro b hb H locs ls hP hD hS hl
  exact lv_iload_n hc.1 hc.2.1 hd hi (lvat hl hl0) (kk b hb H locs ls hP hD hS hl)
theorem w_iload (hc : Cx G cc own rt fr lo) {i j : Nat} {x : Int32} (hd : decode cc pc = .ok (.iload i, 2)) (hl0 : lv[j]? = some (i, .int x)) (e : q = pc + 2) (kk : WW G q lv (.int x :: st) I L X) : WW G pc lv st I L X := by
  subst e
  intro b hb H locs ls hP hD hS hl
  exact lv_iload hc.1 hc.2.1 hd (lvat hl hl0) (kk b hb H locs ls hP hD hS hl)
theorem w_lload_n (hc : Cx G cc own rt fr lo) {k : Fin 4} {i j : Nat} {x : Int64} (hd : decode cc pc = .ok (.lload_n k, 1)) (hi : (k : Nat) = i) (hl0 : lv[j]? = some (i, .long x)) (e : q = pc + 1) (kk : WW G q lv (.long x :: st) I L X) : WW G pc lv st I L X := by
  subst e
  intro b hb H locs ls hP hD hS hl
  exact lv_lload_n hc.1 hc.2.1 hd hi (lvat hl hl0) (kk b hb H locs ls hP hD hS hl)
theorem w_lload (hc : Cx G cc own rt fr lo) {i j : Nat} {x : Int64} (hd : decode cc pc = .ok (.lload i, 2)) (hl0 : lv[j]? = some (i, .long x)) (e : q = pc + 2) (kk : WW G q lv (.long x :: st) I L X) : WW G pc lv st I L X := by
  subst e
  intro b hb H locs ls hP hD hS hl
  exact lv_lload hc.1 hc.2.1 hd (lvat hl hl0) (kk b hb H locs ls hP hD hS hl)
theorem w_aload_n (hc : Cx G cc own rt fr lo) {k : Fin 4} {i j : Nat} {x : Nat} (hd : decode cc pc = .ok (.aload_n k, 1)) (hi : (k : Nat) = i) (hl0 : lv[j]? = some (i, .ref x)) (e : q = pc + 1) (kk : WW G q lv (.ref x :: st) I L X) : WW G pc lv st I L X := by
  subst e
  intro b hb H locs ls hP hD hS hl
  exact lv_aload_n hc.1 hc.2.1 hd hi (lvat hl hl0) (kk b hb H locs ls hP hD hS hl)
theorem w_aload (hc : Cx G cc own rt fr lo) {i j : Nat} {x : Nat} (hd : decode cc pc = .ok (.aload i, 2)) (hl0 : lv[j]? = some (i, .ref x)) (e : q = pc + 2) (kk : WW G q lv (.ref x :: st) I L X) : WW G pc lv st I L X := by
  subst e
  intro b hb H locs ls hP hD hS hl
  exact lv_aload hc.1 hc.2.1 hd (lvat hl hl0) (kk b hb H locs ls hP hD hS hl)
theorem w_istore_n (hc : Cx G cc own rt fr lo) {k : Fin 4} {i : Nat} {x : Int32} {lv' : List (Nat × Value)} (hd : decode cc pc = .ok (.istore_n k, 1)) (hi : (k : Nat) = i) (hn : i < gnL G) (hl0 : (i, Value.int x) :: lv.filter (fun q => !(q.1 == i) && !(q.1 + 1 == i && q.2.category == 2)) = lv') (e : q = pc + 1) (kk : WW G q lv' st I L X) : WW G pc lv (.int x :: st) I L X := by
  subst e
  intro b hb H locs ls hP hD hS hl
  exact lv_istore_n hc.1 hc.2.1 hd hi hl hn (lv' := trl (gad G) lv') (by rw [← hl0, trl_filter (gad G) (fun a c => !(a == i) && !(a + 1 == i && c == 2))]; rfl) (fun ls' hl' => kk b hb H locs ls' hP hD hS hl')
theorem w_istore_nB (hc : Cx G cc own rt fr lo) {k : Fin 4} {i : Nat} {x : Int32} {f : Int32 → Option β} (lv' : Int32 → List (Nat × Value)) (hd : decode cc pc = .ok (.istore_n k, 1)) (hi : (k : Nat) = i) (hn : i < gnL G) (hl0 : ∀ x, (i, Value.int x) :: lv.filter (fun q => !(q.1 == i) && !(q.1 + 1 == i && q.2.category == 2)) = lv' x) (e : q = pc + 1) (kk : ∀ x, WW G q (lv' x) st I L (f x)) : WW G pc lv (.int x :: st) I L (bnd x f) := by
  subst e
  intro b hb H locs ls hP hD hS hl
  exact lv_istore_n hc.1 hc.2.1 hd hi hl hn (lv' := trl (gad G) (lv' x)) (by rw [← hl0 x, trl_filter (gad G) (fun a c => !(a == i) && !(a + 1 == i && c == 2))]; rfl) (fun ls' hl' => kk x b hb H locs ls' hP hD hS hl')
theorem w_istore (hc : Cx G cc own rt fr lo) {i : Nat} {x : Int32} {lv' : List (Nat × Value)} (hd : decode cc pc = .ok (.istore i, 2)) (hn : i < gnL G) (hl0 : (i, Value.int x) :: lv.filter (fun q => !(q.1 == i) && !(q.1 + 1 == i && q.2.category == 2)) = lv') (e : q = pc + 2) (kk : WW G q lv' st I L X) : WW G pc lv (.int x :: st) I L X := by
  subst e
  intro b hb H locs ls hP hD hS hl
  exact lv_istore hc.1 hc.2.1 hd hl hn (lv' := trl (gad G) lv') (by rw [← hl0, trl_filter (gad G) (fun a c => !(a == i) && !(a + 1 == i && c == 2))]; rfl) (fun ls' hl' => kk b hb H locs ls' hP hD hS hl')
theorem w_istoreB (hc : Cx G cc own rt fr lo) {i : Nat} {x : Int32} {f : Int32 → Option β} (lv' : Int32 → List (Nat × Value)) (hd : decode cc pc = .ok (.istore i, 2)) (hn : i < gnL G) (hl0 : ∀ x, (i, Value.int x) :: lv.filter (fun q => !(q.1 == i) && !(q.1 + 1 == i && q.2.category == 2)) = lv' x) (e : q = pc + 2) (kk : ∀ x, WW G q (lv' x) st I L (f x)) : WW G pc lv (.int x :: st) I L (bnd x f) := by
  subst e
  intro b hb H locs ls hP hD hS hl
  exact lv_istore hc.1 hc.2.1 hd hl hn (lv' := trl (gad G) (lv' x)) (by rw [← hl0 x, trl_filter (gad G) (fun a c => !(a == i) && !(a + 1 == i && c == 2))]; rfl) (fun ls' hl' => kk x b hb H locs ls' hP hD hS hl')
theorem w_lstore_n (hc : Cx G cc own rt fr lo) {k : Fin 4} {i : Nat} {x : Int64} {lv' : List (Nat × Value)} (hd : decode cc pc = .ok (.lstore_n k, 1)) (hi : (k : Nat) = i) (hn : i + 1 < gnL G) (hl0 : (i, Value.long x) :: lv.filter (fun q => !(q.1 == i) && (!(q.1 == i + 1) && !(q.1 + 1 == i && q.2.category == 2))) = lv') (e : q = pc + 1) (kk : WW G q lv' st I L X) : WW G pc lv (.long x :: st) I L X := by
  subst e
  intro b hb H locs ls hP hD hS hl
  exact lv_lstore_n hc.1 hc.2.1 hd hi hl hn (lv' := trl (gad G) lv') (by rw [← hl0, trl_filter (gad G) (fun a c => !(a == i) && (!(a == i + 1) && !(a + 1 == i && c == 2)))]; rfl) (fun ls' hl' => kk b hb H locs ls' hP hD hS hl')
theorem w_lstore_nB (hc : Cx G cc own rt fr lo) {k : Fin 4} {i : Nat} {x : Int64} {f : Int64 → Option β} (lv' : Int64 → List (Nat × Value)) (hd : decode cc pc = .ok (.lstore_n k, 1)) (hi : (k : Nat) = i) (hn : i + 1 < gnL G) (hl0 : ∀ x, (i, Value.long x) :: lv.filter (fun q => !(q.1 == i) && (!(q.1 == i + 1) && !(q.1 + 1 == i && q.2.category == 2))) = lv' x) (e : q = pc + 1) (kk : ∀ x, WW G q (lv' x) st I L (f x)) : WW G pc lv (.long x :: st) I L (bnd x f) := by
  subst e
  intro b hb H locs ls hP hD hS hl
  exact lv_lstore_n hc.1 hc.2.1 hd hi hl hn (lv' := trl (gad G) (lv' x)) (by rw [← hl0 x, trl_filter (gad G) (fun a c => !(a == i) && (!(a == i + 1) && !(a + 1 == i && c == 2)))]; rfl) (fun ls' hl' => kk x b hb H locs ls' hP hD hS hl')
theorem w_lstore (hc : Cx G cc own rt fr lo) {i : Nat} {x : Int64} {lv' : List (Nat × Value)} (hd : decode cc pc = .ok (.lstore i, 2)) (hn : i + 1 < gnL G) (hl0 : (i, Value.long x) :: lv.filter (fun q => !(q.1 == i) && (!(q.1 == i + 1) && !(q.1 + 1 == i && q.2.category == 2))) = lv') (e : q = pc + 2) (kk : WW G q lv' st I L X) : WW G pc lv (.long x :: st) I L X := by
  subst e
  intro b hb H locs ls hP hD hS hl
  exact lv_lstore hc.1 hc.2.1 hd hl hn (lv' := trl (gad G) lv') (by rw [← hl0, trl_filter (gad G) (fun a c => !(a == i) && (!(a == i + 1) && !(a + 1 == i && c == 2)))]; rfl) (fun ls' hl' => kk b hb H locs ls' hP hD hS hl')
theorem w_lstoreB (hc : Cx G cc own rt fr lo) {i : Nat} {x : Int64} {f : Int64 → Option β} (lv' : Int64 → List (Nat × Value)) (hd : decode cc pc = .ok (.lstore i, 2)) (hn : i + 1 < gnL G) (hl0 : ∀ x, (i, Value.long x) :: lv.filter (fun q => !(q.1 == i) && (!(q.1 == i + 1) && !(q.1 + 1 == i && q.2.category == 2))) = lv' x) (e : q = pc + 2) (kk : ∀ x, WW G q (lv' x) st I L (f x)) : WW G pc lv (.long x :: st) I L (bnd x f) := by
  subst e
  intro b hb H locs ls hP hD hS hl
  exact lv_lstore hc.1 hc.2.1 hd hl hn (lv' := trl (gad G) (lv' x)) (by rw [← hl0 x, trl_filter (gad G) (fun a c => !(a == i) && (!(a == i + 1) && !(a + 1 == i && c == 2)))]; rfl) (fun ls' hl' => kk x b hb H locs ls' hP hD hS hl')
theorem w_astore_n (hc : Cx G cc own rt fr lo) {k : Fin 4} {i : Nat} {x : Nat} {lv' : List (Nat × Value)} (hd : decode cc pc = .ok (.astore_n k, 1)) (hi : (k : Nat) = i) (hn : i < gnL G) (hl0 : (i, Value.ref x) :: lv.filter (fun q => !(q.1 == i) && !(q.1 + 1 == i && q.2.category == 2)) = lv') (e : q = pc + 1) (kk : WW G q lv' st I L X) : WW G pc lv (.ref x :: st) I L X := by
  subst e
  intro b hb H locs ls hP hD hS hl
  exact lv_astore_n hc.1 hc.2.1 hd hi hl hn (lv' := trl (gad G) lv') (by rw [← hl0, trl_filter (gad G) (fun a c => !(a == i) && !(a + 1 == i && c == 2))]; rfl) (fun ls' hl' => kk b hb H locs ls' hP hD hS hl')
theorem w_astore (hc : Cx G cc own rt fr lo) {i : Nat} {x : Nat} {lv' : List (Nat × Value)} (hd : decode cc pc = .ok (.astore i, 2)) (hn : i < gnL G) (hl0 : (i, Value.ref x) :: lv.filter (fun q => !(q.1 == i) && !(q.1 + 1 == i && q.2.category == 2)) = lv') (e : q = pc + 2) (kk : WW G q lv' st I L X) : WW G pc lv (.ref x :: st) I L X := by
  subst e
  intro b hb H locs ls hP hD hS hl
  exact lv_astore hc.1 hc.2.1 hd hl hn (lv' := trl (gad G) lv') (by rw [← hl0, trl_filter (gad G) (fun a c => !(a == i) && !(a + 1 == i && c == 2))]; rfl) (fun ls' hl' => kk b hb H locs ls' hP hD hS hl')
theorem w_iincB (hc : Cx G cc own rt fr lo) {i j : Nat} {n : Int} {x d : Int32} {f : Int32 → Option β} (lv' : Int32 → List (Nat × Value)) (hd : decode cc pc = .ok (.iinc i n, 3)) (hx : lv[j]? = some (i, .int x)) (hv : Int32.ofInt n = d) (hn : i < gnL G) (hl0 : ∀ x, (i, Value.int x) :: lv.filter (fun q => !(q.1 == i) && !(q.1 + 1 == i && q.2.category == 2)) = lv' x) (e : q = pc + 3) (kk : ∀ x, WW G q (lv' x) st I L (f x)) : WW G pc lv st I L (bnd (x + d) f) := by
  subst e
  intro b hb H locs ls hP hD hS hl
  exact lv_iinc hc.1 hc.2.1 hd hl (k := j) (x := x) (by show (List.map _ lv)[j]? = _; rw [List.getElem?_map, hx]; rfl) (v := x + d) (by rw [hv]) hn (lv' := trl (gad G) (lv' (x + d))) (by rw [← hl0 (x + d), trl_filter (gad G) (fun a c => !(a == i) && !(a + 1 == i && c == 2))]; rfl) (fun ls' hl' => kk (x + d) b hb H locs ls' hP hD hS hl')
theorem w_iadd (hc : Cx G cc own rt fr lo) {x y : Int32} (hd : decode cc pc = .ok (.iadd, 1)) (e : q = pc + 1) (kk : WW G q lv (.int (x + y) :: st) I L X) : WW G pc lv (.int y :: .int x :: st) I L X := by
  subst e
  intro b hb H locs ls hP hD hS hl
  exact lv_iadd hc.1 hc.2.1 hd (kk b hb H locs ls hP hD hS hl)
theorem w_isub (hc : Cx G cc own rt fr lo) {x y : Int32} (hd : decode cc pc = .ok (.isub, 1)) (e : q = pc + 1) (kk : WW G q lv (.int (x - y) :: st) I L X) : WW G pc lv (.int y :: .int x :: st) I L X := by
  subst e
  intro b hb H locs ls hP hD hS hl
  exact lv_isub hc.1 hc.2.1 hd (kk b hb H locs ls hP hD hS hl)
theorem w_imul (hc : Cx G cc own rt fr lo) {x y : Int32} (hd : decode cc pc = .ok (.imul, 1)) (e : q = pc + 1) (kk : WW G q lv (.int (x * y) :: st) I L X) : WW G pc lv (.int y :: .int x :: st) I L X := by
  subst e
  intro b hb H locs ls hP hD hS hl
  exact lv_imul hc.1 hc.2.1 hd (kk b hb H locs ls hP hD hS hl)
theorem w_iand (hc : Cx G cc own rt fr lo) {x y : Int32} (hd : decode cc pc = .ok (.iand, 1)) (e : q = pc + 1) (kk : WW G q lv (.int (x &&& y) :: st) I L X) : WW G pc lv (.int y :: .int x :: st) I L X := by
  subst e
  intro b hb H locs ls hP hD hS hl
  exact lv_iand hc.1 hc.2.1 hd (kk b hb H locs ls hP hD hS hl)
theorem w_ior (hc : Cx G cc own rt fr lo) {x y : Int32} (hd : decode cc pc = .ok (.ior, 1)) (e : q = pc + 1) (kk : WW G q lv (.int (x ||| y) :: st) I L X) : WW G pc lv (.int y :: .int x :: st) I L X := by
  subst e
  intro b hb H locs ls hP hD hS hl
  exact lv_ior hc.1 hc.2.1 hd (kk b hb H locs ls hP hD hS hl)
theorem w_ixor (hc : Cx G cc own rt fr lo) {x y : Int32} (hd : decode cc pc = .ok (.ixor, 1)) (e : q = pc + 1) (kk : WW G q lv (.int (x ^^^ y) :: st) I L X) : WW G pc lv (.int y :: .int x :: st) I L X := by
  subst e
  intro b hb H locs ls hP hD hS hl
  exact lv_ixor hc.1 hc.2.1 hd (kk b hb H locs ls hP hD hS hl)
theorem w_ishl (hc : Cx G cc own rt fr lo) {x y : Int32} (hd : decode cc pc = .ok (.ishl, 1)) (e : q = pc + 1) (kk : WW G q lv (.int (shl x y) :: st) I L X) : WW G pc lv (.int y :: .int x :: st) I L X := by
  subst e
  intro b hb H locs ls hP hD hS hl
  exact lv_ishl hc.1 hc.2.1 hd (kk b hb H locs ls hP hD hS hl)
theorem w_ishr (hc : Cx G cc own rt fr lo) {x y : Int32} (hd : decode cc pc = .ok (.ishr, 1)) (e : q = pc + 1) (kk : WW G q lv (.int (shr x y) :: st) I L X) : WW G pc lv (.int y :: .int x :: st) I L X := by
  subst e
  intro b hb H locs ls hP hD hS hl
  exact lv_ishr hc.1 hc.2.1 hd (kk b hb H locs ls hP hD hS hl)
theorem w_ladd (hc : Cx G cc own rt fr lo) {x y : Int64} (hd : decode cc pc = .ok (.ladd, 1)) (e : q = pc + 1) (kk : WW G q lv (.long (x + y) :: st) I L X) : WW G pc lv (.long y :: .long x :: st) I L X := by
  subst e
  intro b hb H locs ls hP hD hS hl
  exact lv_ladd hc.1 hc.2.1 hd (kk b hb H locs ls hP hD hS hl)
theorem w_lsub (hc : Cx G cc own rt fr lo) {x y : Int64} (hd : decode cc pc = .ok (.lsub, 1)) (e : q = pc + 1) (kk : WW G q lv (.long (x - y) :: st) I L X) : WW G pc lv (.long y :: .long x :: st) I L X := by
  subst e
  intro b hb H locs ls hP hD hS hl
  exact lv_lsub hc.1 hc.2.1 hd (kk b hb H locs ls hP hD hS hl)
theorem w_lmul (hc : Cx G cc own rt fr lo) {x y : Int64} (hd : decode cc pc = .ok (.lmul, 1)) (e : q = pc + 1) (kk : WW G q lv (.long (x * y) :: st) I L X) : WW G pc lv (.long y :: .long x :: st) I L X := by
  subst e
  intro b hb H locs ls hP hD hS hl
  exact lv_lmul hc.1 hc.2.1 hd (kk b hb H locs ls hP hD hS hl)
theorem w_land (hc : Cx G cc own rt fr lo) {x y : Int64} (hd : decode cc pc = .ok (.land, 1)) (e : q = pc + 1) (kk : WW G q lv (.long (x &&& y) :: st) I L X) : WW G pc lv (.long y :: .long x :: st) I L X := by
  subst e
  intro b hb H locs ls hP hD hS hl
  exact lv_land hc.1 hc.2.1 hd (kk b hb H locs ls hP hD hS hl)
theorem w_lor (hc : Cx G cc own rt fr lo) {x y : Int64} (hd : decode cc pc = .ok (.lor, 1)) (e : q = pc + 1) (kk : WW G q lv (.long (x ||| y) :: st) I L X) : WW G pc lv (.long y :: .long x :: st) I L X := by
  subst e
  intro b hb H locs ls hP hD hS hl
  exact lv_lor hc.1 hc.2.1 hd (kk b hb H locs ls hP hD hS hl)
theorem w_lxor (hc : Cx G cc own rt fr lo) {x y : Int64} (hd : decode cc pc = .ok (.lxor, 1)) (e : q = pc + 1) (kk : WW G q lv (.long (x ^^^ y) :: st) I L X) : WW G pc lv (.long y :: .long x :: st) I L X := by
  subst e
  intro b hb H locs ls hP hD hS hl
  exact lv_lxor hc.1 hc.2.1 hd (kk b hb H locs ls hP hD hS hl)
theorem w_ineg (hc : Cx G cc own rt fr lo) {x : Int32} (hd : decode cc pc = .ok (.ineg, 1)) (e : q = pc + 1) (kk : WW G q lv (.int (-x) :: st) I L X) : WW G pc lv (.int x :: st) I L X := by
  subst e
  intro b hb H locs ls hP hD hS hl
  exact lv_ineg hc.1 hc.2.1 hd (kk b hb H locs ls hP hD hS hl)
theorem w_iushr (hc : Cx G cc own rt fr lo) {x y : Int32} (hd : decode cc pc = .ok (.iushr, 1)) (e : q = pc + 1) (kk : WW G q lv (.int (ushr x y) :: st) I L X) : WW G pc lv (.int y :: .int x :: st) I L X := by
  subst e
  intro b hb H locs ls hP hD hS hl
  exact lv_iushr hc.1 hc.2.1 hd rfl (kk b hb H locs ls hP hD hS hl)
theorem w_lushr (hc : Cx G cc own rt fr lo) {x : Int64} {y : Int32} (hd : decode cc pc = .ok (.lushr, 1)) (e : q = pc + 1) (kk : WW G q lv (.long (lushr x y) :: st) I L X) : WW G pc lv (.int y :: .long x :: st) I L X := by
  subst e
  intro b hb H locs ls hP hD hS hl
  exact lv_lushr hc.1 hc.2.1 hd rfl (kk b hb H locs ls hP hD hS hl)
theorem w_lshl (hc : Cx G cc own rt fr lo) {x : Int64} {y : Int32} (hd : decode cc pc = .ok (.lshl, 1)) (e : q = pc + 1) (kk : WW G q lv (.long (lshl x y) :: st) I L X) : WW G pc lv (.int y :: .long x :: st) I L X := by
  subst e
  intro b hb H locs ls hP hD hS hl
  exact lv_lshl hc.1 hc.2.1 hd rfl (kk b hb H locs ls hP hD hS hl)
theorem w_i2l (hc : Cx G cc own rt fr lo) {x : Int32} (hd : decode cc pc = .ok (.i2l, 1)) (e : q = pc + 1) (kk : WW G q lv (.long x.toInt64 :: st) I L X) : WW G pc lv (.int x :: st) I L X := by
  subst e
  intro b hb H locs ls hP hD hS hl
  exact lv_i2l hc.1 hc.2.1 hd rfl (kk b hb H locs ls hP hD hS hl)
theorem w_l2i (hc : Cx G cc own rt fr lo) {x : Int64} (hd : decode cc pc = .ok (.l2i, 1)) (e : q = pc + 1) (kk : WW G q lv (.int x.toInt32 :: st) I L X) : WW G pc lv (.long x :: st) I L X := by
  subst e
  intro b hb H locs ls hP hD hS hl
  exact lv_l2i hc.1 hc.2.1 hd rfl (kk b hb H locs ls hP hD hS hl)
theorem w_i2b (hc : Cx G cc own rt fr lo) {x : Int32} (hd : decode cc pc = .ok (.i2b, 1)) (e : q = pc + 1) (kk : WW G q lv (.int x.toInt8.toInt32 :: st) I L X) : WW G pc lv (.int x :: st) I L X := by
  subst e
  intro b hb H locs ls hP hD hS hl
  exact lv_i2b hc.1 hc.2.1 hd rfl (kk b hb H locs ls hP hD hS hl)
theorem w_lcmp (hc : Cx G cc own rt fr lo) {x y : Int64} (hd : decode cc pc = .ok (.lcmp, 1)) (e : q = pc + 1) (kk : WW G q lv (.int (lg_cmp x y) :: st) I L X) : WW G pc lv (.long y :: .long x :: st) I L X := by
  subst e
  intro b hb H locs ls hP hD hS hl
  exact W.lcmp hc.1 hc.2.1 hd (kk b hb H locs ls hP hD hS hl)
theorem w_idiv (hc : Cx G cc own rt fr lo) {x y : Int32} (hd : decode cc pc = .ok (.idiv, 1)) (e : q = pc + 1) (kk : WW G q lv (.int (x / y) :: st) I L X) : WW G pc lv (.int y :: .int x :: st) I L (chk (decide (y ≠ 0)) X) := by
  subst e
  intro b hb H locs ls hP hD hS hl
  obtain ⟨h1, h2⟩ := chk_t hb
  exact lv_idiv hc.1 hc.2.1 hd (of_decide_eq_true h1) (kk b h2 H locs ls hP hD hS hl)
theorem w_irem (hc : Cx G cc own rt fr lo) {x y : Int32} (hd : decode cc pc = .ok (.irem, 1)) (e : q = pc + 1) (kk : WW G q lv (.int (irem x y) :: st) I L X) : WW G pc lv (.int y :: .int x :: st) I L (chk (decide (y ≠ 0)) X) := by
  subst e
  intro b hb H locs ls hP hD hS hl
  obtain ⟨h1, h2⟩ := chk_t hb
  exact lv_irem hc.1 hc.2.1 hd (of_decide_eq_true h1) (kk b h2 H locs ls hP hD hS hl)
theorem w_ldiv (hc : Cx G cc own rt fr lo) {x y : Int64} (hd : decode cc pc = .ok (.ldiv, 1)) (e : q = pc + 1) (kk : WW G q lv (.long (x / y) :: st) I L X) : WW G pc lv (.long y :: .long x :: st) I L (chk (decide (y ≠ 0)) X) := by
  subst e
  intro b hb H locs ls hP hD hS hl
  obtain ⟨h1, h2⟩ := chk_t hb
  exact lv_ldiv hc.1 hc.2.1 hd (of_decide_eq_true h1) (kk b h2 H locs ls hP hD hS hl)
theorem w_lrem (hc : Cx G cc own rt fr lo) {x y : Int64} (hd : decode cc pc = .ok (.lrem, 1)) (e : q = pc + 1) (kk : WW G q lv (.long (lrem x y) :: st) I L X) : WW G pc lv (.long y :: .long x :: st) I L (chk (decide (y ≠ 0)) X) := by
  subst e
  intro b hb H locs ls hP hD hS hl
  obtain ⟨h1, h2⟩ := chk_t hb
  exact lv_lrem hc.1 hc.2.1 hd (of_decide_eq_true h1) (kk b h2 H locs ls hP hD hS hl)
theorem w_dup_int (hc : Cx G cc own rt fr lo) {x : Int32} (hd : decode cc pc = .ok (.dup, 1)) (e : q = pc + 1) (kk : WW G q lv (.int x :: .int x :: st) I L X) : WW G pc lv (.int x :: st) I L X := by
  subst e
  intro b hb H locs ls hP hD hS hl
  exact lv_dup hc.1 hc.2.1 hd rfl (kk b hb H locs ls hP hD hS hl)
theorem w_dup_ref (hc : Cx G cc own rt fr lo) {x : Nat} (hd : decode cc pc = .ok (.dup, 1)) (e : q = pc + 1) (kk : WW G q lv (.ref x :: .ref x :: st) I L X) : WW G pc lv (.ref x :: st) I L X := by
  subst e
  intro b hb H locs ls hP hD hS hl
  exact lv_dup hc.1 hc.2.1 hd rfl (kk b hb H locs ls hP hD hS hl)
theorem w_dup2_rr (hc : Cx G cc own rt fr lo) {x : Nat} {y : Int32} (hd : decode cc pc = .ok (.dup2, 1)) (e : q = pc + 1) (kk : WW G q lv (.int y :: .ref x :: .int y :: .ref x :: st) I L X) : WW G pc lv (.int y :: .ref x :: st) I L X := by
  subst e
  intro b hb H locs ls hP hD hS hl
  exact lv_dup2_11 hc.1 hc.2.1 hd rfl rfl (kk b hb H locs ls hP hD hS hl)
theorem w_pop_int (hc : Cx G cc own rt fr lo) {x : Int32} (hd : decode cc pc = .ok (.pop, 1)) (e : q = pc + 1) (kk : WW G q lv st I L X) : WW G pc lv (.int x :: st) I L X := by
  subst e
  intro b hb H locs ls hP hD hS hl
  exact lv_pop hc.1 hc.2.1 hd rfl (kk b hb H locs ls hP hD hS hl)
theorem w_ifeq (hc : Cx G cc own rt fr lo) {x : Int32} {off : Int} {tgt : Nat} {Y : Option β} [Decidable (x = 0)] (hd : decode cc pc = .ok (.ifCond .eq off, 3)) (ht : (pc : Int) + off = (tgt : Int)) (e : q = pc + 3) (kt : WW G tgt lv st I L X) (kf : WW G q lv st I L Y) : WW G pc lv (.int x :: st) I L (if x = 0 then X else Y) := by
  subst e
  intro b hb H locs ls hP hD hS hl
  refine lv_if_eq hc.1 hc.2.1 hd ht (fun z => ?_) (fun z => ?_)
  · rw [if_pos z] at hb; exact kt b hb H locs ls hP hD hS hl
  · rw [if_neg z] at hb; exact kf b hb H locs ls hP hD hS hl
theorem w_ifne (hc : Cx G cc own rt fr lo) {x : Int32} {off : Int} {tgt : Nat} {Y : Option β} [Decidable (x = 0)] (hd : decode cc pc = .ok (.ifCond .ne off, 3)) (ht : (pc : Int) + off = (tgt : Int)) (e : q = pc + 3) (kf : WW G q lv st I L X) (kt : WW G tgt lv st I L Y) : WW G pc lv (.int x :: st) I L (if x = 0 then X else Y) := by
  subst e
  intro b hb H locs ls hP hD hS hl
  refine lv_if_ne hc.1 hc.2.1 hd ht (fun z => ?_) (fun z => ?_)
  · rw [if_neg z] at hb; exact kt b hb H locs ls hP hD hS hl
  · rw [if_pos z] at hb; exact kf b hb H locs ls hP hD hS hl
theorem w_iflt (hc : Cx G cc own rt fr lo) {x : Int32} {off : Int} {tgt : Nat} {Y : Option β} [Decidable (x < 0)] (hd : decode cc pc = .ok (.ifCond .lt off, 3)) (ht : (pc : Int) + off = (tgt : Int)) (e : q = pc + 3) (kt : WW G tgt lv st I L X) (kf : WW G q lv st I L Y) : WW G pc lv (.int x :: st) I L (if x < 0 then X else Y) := by
  subst e
  intro b hb H locs ls hP hD hS hl
  refine lv_if_lt hc.1 hc.2.1 hd ht (fun z => ?_) (fun z => ?_)
  · rw [if_pos z] at hb; exact kt b hb H locs ls hP hD hS hl
  · rw [if_neg z] at hb; exact kf b hb H locs ls hP hD hS hl
theorem w_ifge (hc : Cx G cc own rt fr lo) {x : Int32} {off : Int} {tgt : Nat} {Y : Option β} [Decidable (0 ≤ x)] (hd : decode cc pc = .ok (.ifCond .ge off, 3)) (ht : (pc : Int) + off = (tgt : Int)) (e : q = pc + 3) (kt : WW G tgt lv st I L X) (kf : WW G q lv st I L Y) : WW G pc lv (.int x :: st) I L (if 0 ≤ x then X else Y) := by
  subst e
  intro b hb H locs ls hP hD hS hl
  refine lv_if_ge hc.1 hc.2.1 hd ht (fun z => ?_) (fun z => ?_)
  · rw [if_pos z] at hb; exact kt b hb H locs ls hP hD hS hl
  · rw [if_neg z] at hb; exact kf b hb H locs ls hP hD hS hl
theorem w_ifgt (hc : Cx G cc own rt fr lo) {x : Int32} {off : Int} {tgt : Nat} {Y : Option β} [Decidable (0 < x)] (hd : decode cc pc = .ok (.ifCond .gt off, 3)) (ht : (pc : Int) + off = (tgt : Int)) (e : q = pc + 3) (kt : WW G tgt lv st I L X) (kf : WW G q lv st I L Y) : WW G pc lv (.int x :: st) I L (if 0 < x then X else Y) := by
  subst e
  intro b hb H locs ls hP hD hS hl
  refine lv_if_gt hc.1 hc.2.1 hd ht (fun z => ?_) (fun z => ?_)
  · rw [if_pos z] at hb; exact kt b hb H locs ls hP hD hS hl
  · rw [if_neg z] at hb; exact kf b hb H locs ls hP hD hS hl
theorem w_ifle (hc : Cx G cc own rt fr lo) {x : Int32} {off : Int} {tgt : Nat} {Y : Option β} [Decidable (x ≤ 0)] (hd : decode cc pc = .ok (.ifCond .le off, 3)) (ht : (pc : Int) + off = (tgt : Int)) (e : q = pc + 3) (kt : WW G tgt lv st I L X) (kf : WW G q lv st I L Y) : WW G pc lv (.int x :: st) I L (if x ≤ 0 then X else Y) := by
  subst e
  intro b hb H locs ls hP hD hS hl
  refine lv_if_le hc.1 hc.2.1 hd ht (fun z => ?_) (fun z => ?_)
  · rw [if_pos z] at hb; exact kt b hb H locs ls hP hD hS hl
  · rw [if_neg z] at hb; exact kf b hb H locs ls hP hD hS hl
theorem w_icmpeq (hc : Cx G cc own rt fr lo) {x y : Int32} {off : Int} {tgt : Nat} {Y : Option β} [Decidable (x = y)] (hd : decode cc pc = .ok (.if_icmp .eq off, 3)) (ht : (pc : Int) + off = (tgt : Int)) (e : q = pc + 3) (kt : WW G tgt lv st I L X) (kf : WW G q lv st I L Y) : WW G pc lv (.int y :: .int x :: st) I L (if x = y then X else Y) := by
  subst e
  intro b hb H locs ls hP hD hS hl
  refine lv_icmp_eq hc.1 hc.2.1 hd ht (fun z => ?_) (fun z => ?_)
  · rw [if_pos z] at hb; exact kt b hb H locs ls hP hD hS hl
  · rw [if_neg z] at hb; exact kf b hb H locs ls hP hD hS hl
theorem w_icmpne (hc : Cx G cc own rt fr lo) {x y : Int32} {off : Int} {tgt : Nat} {Y : Option β} [Decidable (x = y)] (hd : decode cc pc = .ok (.if_icmp .ne off, 3)) (ht : (pc : Int) + off = (tgt : Int)) (e : q = pc + 3) (kf : WW G q lv st I L X) (kt : WW G tgt lv st I L Y) : WW G pc lv (.int y :: .int x :: st) I L (if x = y then X else Y) := by
  subst e
  intro b hb H locs ls hP hD hS hl
  refine lv_icmp_ne hc.1 hc.2.1 hd ht (fun z => ?_) (fun z => ?_)
  · rw [if_neg z] at hb; exact kt b hb H locs ls hP hD hS hl
  · rw [if_pos z] at hb; exact kf b hb H locs ls hP hD hS hl
theorem w_icmplt (hc : Cx G cc own rt fr lo) {x y : Int32} {off : Int} {tgt : Nat} {Y : Option β} [Decidable (x < y)] (hd : decode cc pc = .ok (.if_icmp .lt off, 3)) (ht : (pc : Int) + off = (tgt : Int)) (e : q = pc + 3) (kt : WW G tgt lv st I L X) (kf : WW G q lv st I L Y) : WW G pc lv (.int y :: .int x :: st) I L (if x < y then X else Y) := by
  subst e
  intro b hb H locs ls hP hD hS hl
  refine lv_icmp_lt hc.1 hc.2.1 hd ht (fun z => ?_) (fun z => ?_)
  · rw [if_pos z] at hb; exact kt b hb H locs ls hP hD hS hl
  · rw [if_neg z] at hb; exact kf b hb H locs ls hP hD hS hl
theorem w_icmpge (hc : Cx G cc own rt fr lo) {x y : Int32} {off : Int} {tgt : Nat} {Y : Option β} [Decidable (y ≤ x)] (hd : decode cc pc = .ok (.if_icmp .ge off, 3)) (ht : (pc : Int) + off = (tgt : Int)) (e : q = pc + 3) (kt : WW G tgt lv st I L X) (kf : WW G q lv st I L Y) : WW G pc lv (.int y :: .int x :: st) I L (if y ≤ x then X else Y) := by
  subst e
  intro b hb H locs ls hP hD hS hl
  refine lv_icmp_ge hc.1 hc.2.1 hd ht (fun z => ?_) (fun z => ?_)
  · rw [if_pos z] at hb; exact kt b hb H locs ls hP hD hS hl
  · rw [if_neg z] at hb; exact kf b hb H locs ls hP hD hS hl
theorem w_icmpgt (hc : Cx G cc own rt fr lo) {x y : Int32} {off : Int} {tgt : Nat} {Y : Option β} [Decidable (y < x)] (hd : decode cc pc = .ok (.if_icmp .gt off, 3)) (ht : (pc : Int) + off = (tgt : Int)) (e : q = pc + 3) (kt : WW G tgt lv st I L X) (kf : WW G q lv st I L Y) : WW G pc lv (.int y :: .int x :: st) I L (if y < x then X else Y) := by
  subst e
  intro b hb H locs ls hP hD hS hl
  refine lv_icmp_gt hc.1 hc.2.1 hd ht (fun z => ?_) (fun z => ?_)
  · rw [if_pos z] at hb; exact kt b hb H locs ls hP hD hS hl
  · rw [if_neg z] at hb; exact kf b hb H locs ls hP hD hS hl
theorem w_icmple (hc : Cx G cc own rt fr lo) {x y : Int32} {off : Int} {tgt : Nat} {Y : Option β} [Decidable (x ≤ y)] (hd : decode cc pc = .ok (.if_icmp .le off, 3)) (ht : (pc : Int) + off = (tgt : Int)) (e : q = pc + 3) (kt : WW G tgt lv st I L X) (kf : WW G q lv st I L Y) : WW G pc lv (.int y :: .int x :: st) I L (if x ≤ y then X else Y) := by
  subst e
  intro b hb H locs ls hP hD hS hl
  refine lv_icmp_le hc.1 hc.2.1 hd ht (fun z => ?_) (fun z => ?_)
  · rw [if_pos z] at hb; exact kt b hb H locs ls hP hD hS hl
  · rw [if_neg z] at hb; exact kf b hb H locs ls hP hD hS hl
theorem w_ifeqT (hc : Cx G cc own rt fr lo) {x : Int32} {off : Int} {tgt : Nat} (hd : decode cc pc = .ok (.ifCond .eq off, 3)) (hx : x = 0) (ht : (pc : Int) + off = (tgt : Int)) (kk : WW G tgt lv st I L X) : WW G pc lv (.int x :: st) I L X := by
  intro b hb H locs ls hP hD hS hl
  refine lv_if_eq hc.1 hc.2.1 hd ht (fun _ => kk b hb H locs ls hP hD hS hl) (fun z => absurd hx z)
theorem w_ifeqF (hc : Cx G cc own rt fr lo) {x : Int32} {off : Int} {tgt : Nat} (hd : decode cc pc = .ok (.ifCond .eq off, 3)) (hx : ¬ x = 0) (ht : (pc : Int) + off = (tgt : Int)) (e : q = pc + 3) (kk : WW G q lv st I L X) : WW G pc lv (.int x :: st) I L X := by
  subst e
  intro b hb H locs ls hP hD hS hl
  refine lv_if_eq hc.1 hc.2.1 hd ht (fun z => absurd z hx) (fun _ => kk b hb H locs ls hP hD hS hl)
theorem w_ifneT (hc : Cx G cc own rt fr lo) {x : Int32} {off : Int} {tgt : Nat} (hd : decode cc pc = .ok (.ifCond .ne off, 3)) (hx : ¬ x = 0) (ht : (pc : Int) + off = (tgt : Int)) (kk : WW G tgt lv st I L X) : WW G pc lv (.int x :: st) I L X := by
  intro b hb H locs ls hP hD hS hl
  refine lv_if_ne hc.1 hc.2.1 hd ht (fun _ => kk b hb H locs ls hP hD hS hl) (fun z => absurd z hx)
theorem w_ifneF (hc : Cx G cc own rt fr lo) {x : Int32} {off : Int} {tgt : Nat} (hd : decode cc pc = .ok (.ifCond .ne off, 3)) (hx : x = 0) (ht : (pc : Int) + off = (tgt : Int)) (e : q = pc + 3) (kk : WW G q lv st I L X) : WW G pc lv (.int x :: st) I L X := by
  subst e
  intro b hb H locs ls hP hD hS hl
  refine lv_if_ne hc.1 hc.2.1 hd ht (fun z => absurd hx z) (fun _ => kk b hb H locs ls hP hD hS hl)
theorem w_goto (hc : Cx G cc own rt fr lo) {off : Int} {tgt : Nat} (hd : decode cc pc = .ok (.goto off, 3)) (ht : (pc : Int) + off = (tgt : Int)) (kk : WW G tgt lv st I L X) : WW G pc lv st I L X := by
  intro b hb H locs ls hP hD hS hl
  exact lv_goto hc.1 hc.2.1 hd ht (kk b hb H locs ls hP hD hS hl)
theorem w_getI (hc : Cx G cc own rt fr lo) {p ci n k N idx : Nat} {C : String} {T : u_T} (hd : decode cc pc = .ok (.getfield idx, 3)) (hk : (gK G)[p]? = some (ci, n)) (hv : vwCl[ci]? = some (C, T, N)) (h8 : ci < 8) (hin : ∀ w ∈ u_ws C T N, w ∈ wsA) (hlt : k < N) (hf : k < fnn ci) (ht : fty ci k = 0) (hw : Cond.fieldLink own idx C (T k).2.1 (T k).2.2.1 ∈ wsA) (hC : (T k).1 = C) (e : q = pc + 3) (kk : WW G q lv (.int (I p k) :: st) I L X) : WW G pc lv (.ref p :: st) I L X := by
  subst e
  intro b hb H locs ls hP hD hS hl
  refine va_get (ci := ci) (fs := fvs (gad G) (gR G) I L p ci) hc.1 hc.2.1 hc.2.2.2.2.1 hin hc.2.2.2.1 hc.2.2.2.2.2.1 hP p (by rw [wd_get hk]; simp [ce, h8]) hv k hlt (hc.2.2.2.2.1 _ hw) (by rw [hC]; exact fun _ h9 => h9) (v := .int (I p k)) (by rw [fvs_get hf]; simp [fv, ht]) hd (kk b hb H locs ls hP hD hS hl)
theorem w_getL (hc : Cx G cc own rt fr lo) {p ci n k N idx : Nat} {C : String} {T : u_T} (hd : decode cc pc = .ok (.getfield idx, 3)) (hk : (gK G)[p]? = some (ci, n)) (hv : vwCl[ci]? = some (C, T, N)) (h8 : ci < 8) (hin : ∀ w ∈ u_ws C T N, w ∈ wsA) (hlt : k < N) (hf : k < fnn ci) (ht : fty ci k = 1) (hw : Cond.fieldLink own idx C (T k).2.1 (T k).2.2.1 ∈ wsA) (hC : (T k).1 = C) (e : q = pc + 3) (kk : WW G q lv (.long (L p k) :: st) I L X) : WW G pc lv (.ref p :: st) I L X := by
  subst e
  intro b hb H locs ls hP hD hS hl
  refine va_get (ci := ci) (fs := fvs (gad G) (gR G) I L p ci) hc.1 hc.2.1 hc.2.2.2.2.1 hin hc.2.2.2.1 hc.2.2.2.2.2.1 hP p (by rw [wd_get hk]; simp [ce, h8]) hv k hlt (hc.2.2.2.2.1 _ hw) (by rw [hC]; exact fun _ h9 => h9) (v := .long (L p k)) (by rw [fvs_get hf]; simp [fv, ht]) hd (kk b hb H locs ls hP hD hS hl)
theorem w_getR (hc : Cx G cc own rt fr lo) {p ci n k N idx : Nat} {C : String} {T : u_T} {r : Nat} (hd : decode cc pc = .ok (.getfield idx, 3)) (hk : (gK G)[p]? = some (ci, n)) (hr : gR G p k = some r) (hv : vwCl[ci]? = some (C, T, N)) (h8 : ci < 8) (hin : ∀ w ∈ u_ws C T N, w ∈ wsA) (hlt : k < N) (hf : k < fnn ci) (ht : fty ci k = 2) (hw : Cond.fieldLink own idx C (T k).2.1 (T k).2.2.1 ∈ wsA) (hC : (T k).1 = C) (e : q = pc + 3) (kk : WW G q lv (.ref r :: st) I L X) : WW G pc lv (.ref p :: st) I L X := by
  subst e
  intro b hb H locs ls hP hD hS hl
  refine va_get (ci := ci) (fs := fvs (gad G) (gR G) I L p ci) hc.1 hc.2.1 hc.2.2.2.2.1 hin hc.2.2.2.1 hc.2.2.2.2.2.1 hP p (by rw [wd_get hk]; simp [ce, h8]) hv k hlt (hc.2.2.2.2.1 _ hw) (by rw [hC]; exact fun _ h9 => h9) (v := .ref (gad G r)) (by rw [fvs_get hf]; simp [fv, ht, hr, va_rf]) hd (kk b hb H locs ls hP hD hS hl)
theorem w_getR0 (hc : Cx G cc own rt fr lo) {p ci n k N idx : Nat} {C : String} {T : u_T} (hd : decode cc pc = .ok (.getfield idx, 3)) (hk : (gK G)[p]? = some (ci, n)) (hr : gR G p k = none) (hv : vwCl[ci]? = some (C, T, N)) (h8 : ci < 8) (hin : ∀ w ∈ u_ws C T N, w ∈ wsA) (hlt : k < N) (hf : k < fnn ci) (ht : fty ci k = 2) (hw : Cond.fieldLink own idx C (T k).2.1 (T k).2.2.1 ∈ wsA) (hC : (T k).1 = C) (e : q = pc + 3) (kk : WW G q lv (.null :: st) I L X) : WW G pc lv (.ref p :: st) I L X := by
  subst e
  intro b hb H locs ls hP hD hS hl
  refine va_get (ci := ci) (fs := fvs (gad G) (gR G) I L p ci) hc.1 hc.2.1 hc.2.2.2.2.1 hin hc.2.2.2.1 hc.2.2.2.2.2.1 hP p (by rw [wd_get hk]; simp [ce, h8]) hv k hlt (hc.2.2.2.2.1 _ hw) (by rw [hC]; exact fun _ h9 => h9) (v := .null) (by rw [fvs_get hf]; simp [fv, ht, hr, va_rf]) hd (kk b hb H locs ls hP hD hS hl)
theorem w_putI (hc : Cx G cc own rt fr lo) {p ci n k N idx : Nat} {C : String} {T : u_T} {v : Int32} {f : MI → Option β} {ty0 : Nat → FieldType} {ty : FieldType} (hd : decode cc pc = .ok (.putfield idx, 3)) (hk : (gK G)[p]? = some (ci, n)) (hn : narrow ty (.int v) = .int v) (hfit : fits ty (.int v) = true) (hv : vwCl[ci]? = some (C, T, N)) (h8 : ci < 8) (hin : ∀ w ∈ u_ws C T N, w ∈ wsA) (hty : ∀ k, k < N → parseFieldDescriptor (T k).2.2.1 = some (ty0 k)) (hnm : ∀ a, a < N → ∀ b, b < N → a ≠ b → (T a).2.1 ≠ (T b).2.1) (hlt : k < N) (hf : k < fnn ci) (ht : fty ci k = 0) (hw : Cond.fieldLink own idx C (T k).2.1 (T k).2.2.1 ∈ wsA) (hC : (T k).1 = C) (hfin : (T k).2.2.2 = false) (hdt : parseFieldDescriptor (T k).2.2.1 = some ty) (e : q = pc + 3) (kk : ∀ I, WW G q lv st I L (f I)) : WW G pc lv (.int v :: .ref p :: st) I L (bnd (up2 I p k v) f) := by
  subst e
  intro b hb H locs ls hP hD hS hl
  have hg : (gwd G I L)[p]? = some (gad G p, .inr (ci, fvs (gad G) (gR G) I L p ci)) := by rw [wd_get hk]; simp [ce, h8]
  have he : (gwd G I L).set p (gad G p, .inr (ci, (fvs (gad G) (gR G) I L p ci).set k (.int v))) = gwd G (up2 I p k v) L := by
    rw [fvs_setI ht]
    refine Eq.trans ?_ (wd_set (tc := gtc G) (ad := gad G) hk (R := gR G) (R' := gR G) (I := I) (I' := up2 I p k v) (L := L) (L' := L) (fun _ _ => rfl) (fun _ h => (up2_ne h).symm) (fun _ _ => rfl))
    simp [ce, h8]
  refine va_put hc.1 hc.2.1 hc.2.2.2.2.1 hin ty0 hty hnm hc.2.2.2.1 hc.2.2.2.2.2.1 hP hD hS p hg hv k hlt (hc.2.2.2.2.1 _ hw) (by rw [hC]; exact fun _ h9 => h9) hfin hdt hn hfit (by rw [fvs_len]; exact hf) hd (fun H1 locs1 hP1 hD1 hS1 => ?_)
  have hP2 : va_P (gD G) vwCl (gwd G (up2 I p k v) L) H1 := by rw [← he]; exact hP1
  have hD2 : va_D (gA G) (gwd G (up2 I p k v) L) := by rw [← he]; exact hD1
  exact kk (up2 I p k v) b hb H1 locs1 ls hP2 hD2 hS1 hl
theorem w_putL (hc : Cx G cc own rt fr lo) {p ci n k N idx : Nat} {C : String} {T : u_T} {v : Int64} {f : ML → Option β} {ty0 : Nat → FieldType} (hd : decode cc pc = .ok (.putfield idx, 3)) (hk : (gK G)[p]? = some (ci, n)) (hv : vwCl[ci]? = some (C, T, N)) (h8 : ci < 8) (hin : ∀ w ∈ u_ws C T N, w ∈ wsA) (hty : ∀ k, k < N → parseFieldDescriptor (T k).2.2.1 = some (ty0 k)) (hnm : ∀ a, a < N → ∀ b, b < N → a ≠ b → (T a).2.1 ≠ (T b).2.1) (hlt : k < N) (hf : k < fnn ci) (ht : fty ci k = 1) (hw : Cond.fieldLink own idx C (T k).2.1 (T k).2.2.1 ∈ wsA) (hC : (T k).1 = C) (hfin : (T k).2.2.2 = false) (hdt : parseFieldDescriptor (T k).2.2.1 = some .long) (e : q = pc + 3) (kk : ∀ L, WW G q lv st I L (f L)) : WW G pc lv (.long v :: .ref p :: st) I L (bnd (up2 L p k v) f) := by
  subst e
  intro b hb H locs ls hP hD hS hl
  have hg : (gwd G I L)[p]? = some (gad G p, .inr (ci, fvs (gad G) (gR G) I L p ci)) := by rw [wd_get hk]; simp [ce, h8]
  have he : (gwd G I L).set p (gad G p, .inr (ci, (fvs (gad G) (gR G) I L p ci).set k (.long v))) = gwd G I (up2 L p k v) := by
    rw [fvs_setL ht]
    refine Eq.trans ?_ (wd_set (tc := gtc G) (ad := gad G) hk (R := gR G) (R' := gR G) (I := I) (I' := I) (L := L) (L' := up2 L p k v) (fun _ _ => rfl) (fun _ _ => rfl) (fun _ h => (up2_ne h).symm))
    simp [ce, h8]
  refine va_put hc.1 hc.2.1 hc.2.2.2.2.1 hin ty0 hty hnm hc.2.2.2.1 hc.2.2.2.2.2.1 hP hD hS p hg hv k hlt (hc.2.2.2.2.1 _ hw) (by rw [hC]; exact fun _ h9 => h9) hfin hdt rfl rfl (by rw [fvs_len]; exact hf) hd (fun H1 locs1 hP1 hD1 hS1 => ?_)
  have hP2 : va_P (gD G) vwCl (gwd G I (up2 L p k v)) H1 := by rw [← he]; exact hP1
  have hD2 : va_D (gA G) (gwd G I (up2 L p k v)) := by rw [← he]; exact hD1
  exact kk (up2 L p k v) b hb H1 locs1 ls hP2 hD2 hS1 hl
theorem w_iald (hc : Cx G cc own rt fr lo) {p n : Nat} {i : Int32} (hd : decode cc pc = .ok (.iaload, 1)) (hk : (gK G)[p]? = some (10, n)) (e : q = pc + 1) (kk : WW G q lv (.int (I p (ix i)) :: st) I L X) : WW G pc lv (.int i :: .ref p :: st) I L (chk (inb i n) X) := by
  subst e
  intro b hb H locs ls hP hD hS hl
  obtain ⟨h1, h2⟩ := chk_t hb
  exact va_iald hc.1 hc.2.1 hc.2.2.2.2.2.1 hP p 0 (f := I p) (wd_get hk) rfl (inb_in h1) hd (kk b h2 H locs ls hP hD hS hl)
theorem w_bald (hc : Cx G cc own rt fr lo) {p n : Nat} {i : Int32} (hd : decode cc pc = .ok (.baload, 1)) (hk : (gK G)[p]? = some (12, n)) (e : q = pc + 1) (kk : WW G q lv (.int (I p (ix i)) :: st) I L X) : WW G pc lv (.int i :: .ref p :: st) I L (chk (inb i n) X) := by
  subst e
  intro b hb H locs ls hP hD hS hl
  obtain ⟨h1, h2⟩ := chk_t hb
  exact va_bald hc.1 hc.2.1 hc.2.2.2.2.2.1 hP p 2 (f := I p) (wd_get hk) rfl (inb_in h1) hd (kk b h2 H locs ls hP hD hS hl)
theorem w_zald (hc : Cx G cc own rt fr lo) {p n : Nat} {i : Int32} (hd : decode cc pc = .ok (.baload, 1)) (hk : (gK G)[p]? = some (13, n)) (e : q = pc + 1) (kk : WW G q lv (.int (I p (ix i)) :: st) I L X) : WW G pc lv (.int i :: .ref p :: st) I L (chk (inb i n) X) := by
  subst e
  intro b hb H locs ls hP hD hS hl
  obtain ⟨h1, h2⟩ := chk_t hb
  exact va_zald hc.1 hc.2.1 hc.2.2.2.2.2.1 hP p 3 (f := I p) (wd_get hk) rfl (inb_in h1) hd (kk b h2 H locs ls hP hD hS hl)
theorem w_lald (hc : Cx G cc own rt fr lo) {p n : Nat} {i : Int32} (hd : decode cc pc = .ok (.laload, 1)) (hk : (gK G)[p]? = some (11, n)) (e : q = pc + 1) (kk : WW G q lv (.long (L p (ix i)) :: st) I L X) : WW G pc lv (.int i :: .ref p :: st) I L (chk (inb i n) X) := by
  subst e
  intro b hb H locs ls hP hD hS hl
  obtain ⟨h1, h2⟩ := chk_t hb
  exact va_lald hc.1 hc.2.1 hc.2.2.2.2.2.1 hP p 1 (f := L p) (wd_get hk) rfl (inb_in h1) hd (kk b h2 H locs ls hP hD hS hl)
theorem w_aald (hc : Cx G cc own rt fr lo) {p n r : Nat} {i : Int32} (hd : decode cc pc = .ok (.aaload, 1)) (hk : (gK G)[p]? = some (14, n)) (hr : inb i n = true → gR G p (ix i) = some r) (e : q = pc + 1) (kk : inb i n = true → WW G q lv (.ref r :: st) I L X) : WW G pc lv (.int i :: .ref p :: st) I L (chk (inb i n) X) := by
  subst e
  intro b hb H locs ls hP hD hS hl
  obtain ⟨h1, h2⟩ := chk_t hb
  have hin := inb_in h1
  have hlt : i.toNatClampNeg < n := Nat.not_le.mp fun q => hin (Or.inr q)
  have h9 := kk h1 b h2 H locs ls hP hD hS hl
  exact W.aald (v := .ref (gad G r)) (ty := .array .int) hc.1 hc.2.1 (hP p _ (wd_get hk)) ((hc.2.2.2.2.2.1.2 4 _ rfl).1 n (fun j => va_rf ((gR G p j).map (gad G)))) rfl (fun q => by cases q) (by show ¬ (i < 0 ∨ (arrV _ _ _).slots.size ≤ _); rw [arrV_size]; exact hin) (by show (arrV _ _ _).slots[_]? = _; rw [arrV_read _ _ hlt]; show some (va_rf ((gR G p (ix i)).map (gad G))) = _; rw [hr h1]; rfl) rfl rfl hd h9
theorem w_iast (hc : Cx G cc own rt fr lo) {p n : Nat} {i v : Int32} {f : MI → Option β} (hd : decode cc pc = .ok (.iastore, 1)) (hk : (gK G)[p]? = some (10, n)) (e : q = pc + 1) (kk : ∀ I, WW G q lv st I L (f I)) : WW G pc lv (.int v :: .int i :: .ref p :: st) I L (chk (inb i n) (bnd (up2 I p (ix i) v) f)) := by
  subst e
  intro b hb H locs ls hP hD hS hl
  obtain ⟨h1, h2⟩ := chk_t hb
  have he : (gwd G I L).set p (gad G p, .inl (gtc G 10, n, .inl (upd (I p) (ix i) v))) = gwd G (up2 I p (ix i) v) L := by
    rw [← up2_arr]
    exact wd_set (tc := gtc G) (ad := gad G) hk (R := gR G) (R' := gR G) (I := I) (I' := up2 I p (ix i) v) (L := L) (L' := L) (fun _ _ => rfl) (fun _ h => (up2_ne h).symm) (fun _ _ => rfl)
  refine va_iast hc.1 hc.2.1 hc.2.2.2.2.2.1 hP hD hS p 0 (f := I p) (wd_get hk) rfl (inb_in h1) hd (fun H1 locs1 hP1 hD1 hS1 => ?_)
  have hP2 : va_P (gD G) vwCl (gwd G (up2 I p (ix i) v) L) H1 := by rw [← he]; exact hP1
  have hD2 : va_D (gA G) (gwd G (up2 I p (ix i) v) L) := by rw [← he]; exact hD1
  exact kk _ b h2 H1 locs1 ls hP2 hD2 hS1 hl
theorem w_bast (hc : Cx G cc own rt fr lo) {p n : Nat} {i v : Int32} {f : MI → Option β} (hd : decode cc pc = .ok (.bastore, 1)) (hk : (gK G)[p]? = some (12, n)) (e : q = pc + 1) (kk : ∀ I, WW G q lv st I L (f I)) : WW G pc lv (.int v :: .int i :: .ref p :: st) I L (chk (inb i n) (bnd (up2 I p (ix i) (vp_nar .byte v)) f)) := by
  subst e
  intro b hb H locs ls hP hD hS hl
  obtain ⟨h1, h2⟩ := chk_t hb
  have he : (gwd G I L).set p (gad G p, .inl (gtc G 12, n, .inl (upd (I p) (ix i) (vp_nar .byte v)))) = gwd G (up2 I p (ix i) (vp_nar .byte v)) L := by
    rw [← up2_arr]
    exact wd_set (tc := gtc G) (ad := gad G) hk (R := gR G) (R' := gR G) (I := I) (I' := up2 I p (ix i) (vp_nar .byte v)) (L := L) (L' := L) (fun _ _ => rfl) (fun _ h => (up2_ne h).symm) (fun _ _ => rfl)
  refine va_bast hc.1 hc.2.1 hc.2.2.2.2.2.1 hP hD hS p 2 (f := I p) (wd_get hk) rfl (inb_in h1) hd (fun H1 locs1 hP1 hD1 hS1 => ?_)
  have hP2 : va_P (gD G) vwCl (gwd G (up2 I p (ix i) (vp_nar .byte v)) L) H1 := by rw [← he]; exact hP1
  have hD2 : va_D (gA G) (gwd G (up2 I p (ix i) (vp_nar .byte v)) L) := by rw [← he]; exact hD1
  exact kk _ b h2 H1 locs1 ls hP2 hD2 hS1 hl
theorem w_zast (hc : Cx G cc own rt fr lo) {p n : Nat} {i v : Int32} {f : MI → Option β} (hd : decode cc pc = .ok (.bastore, 1)) (hk : (gK G)[p]? = some (13, n)) (e : q = pc + 1) (kk : ∀ I, WW G q lv st I L (f I)) : WW G pc lv (.int v :: .int i :: .ref p :: st) I L (chk (inb i n) (bnd (up2 I p (ix i) (vp_nar .boolean v)) f)) := by
  subst e
  intro b hb H locs ls hP hD hS hl
  obtain ⟨h1, h2⟩ := chk_t hb
  have he : (gwd G I L).set p (gad G p, .inl (gtc G 13, n, .inl (upd (I p) (ix i) (vp_nar .boolean v)))) = gwd G (up2 I p (ix i) (vp_nar .boolean v)) L := by
    rw [← up2_arr]
    exact wd_set (tc := gtc G) (ad := gad G) hk (R := gR G) (R' := gR G) (I := I) (I' := up2 I p (ix i) (vp_nar .boolean v)) (L := L) (L' := L) (fun _ _ => rfl) (fun _ h => (up2_ne h).symm) (fun _ _ => rfl)
  refine va_zast hc.1 hc.2.1 hc.2.2.2.2.2.1 hP hD hS p 3 (f := I p) (wd_get hk) rfl (inb_in h1) hd (fun H1 locs1 hP1 hD1 hS1 => ?_)
  have hP2 : va_P (gD G) vwCl (gwd G (up2 I p (ix i) (vp_nar .boolean v)) L) H1 := by rw [← he]; exact hP1
  have hD2 : va_D (gA G) (gwd G (up2 I p (ix i) (vp_nar .boolean v)) L) := by rw [← he]; exact hD1
  exact kk _ b h2 H1 locs1 ls hP2 hD2 hS1 hl
theorem w_last (hc : Cx G cc own rt fr lo) {p n : Nat} {i : Int32} {v : Int64} {f : ML → Option β} (hd : decode cc pc = .ok (.lastore, 1)) (hk : (gK G)[p]? = some (11, n)) (e : q = pc + 1) (kk : ∀ L, WW G q lv st I L (f L)) : WW G pc lv (.long v :: .int i :: .ref p :: st) I L (chk (inb i n) (bnd (up2 L p (ix i) v) f)) := by
  subst e
  intro b hb H locs ls hP hD hS hl
  obtain ⟨h1, h2⟩ := chk_t hb
  have he : (gwd G I L).set p (gad G p, .inl (gtc G 11, n, .inr (.inl (vp_updL (L p) (ix i) v)))) = gwd G I (up2 L p (ix i) v) := by
    rw [← up2_arrL]
    exact wd_set (tc := gtc G) (ad := gad G) hk (R := gR G) (R' := gR G) (I := I) (I' := I) (L := L) (L' := up2 L p (ix i) v) (fun _ _ => rfl) (fun _ _ => rfl) (fun _ h => (up2_ne h).symm)
  refine va_last hc.1 hc.2.1 hc.2.2.2.2.2.1 hP hD hS p 1 (f := L p) (wd_get hk) rfl (inb_in h1) hd (fun H1 locs1 hP1 hD1 hS1 => ?_)
  have hP2 : va_P (gD G) vwCl (gwd G I (up2 L p (ix i) v)) H1 := by rw [← he]; exact hP1
  have hD2 : va_D (gA G) (gwd G I (up2 L p (ix i) v)) := by rw [← he]; exact hD1
  exact kk _ b h2 H1 locs1 ls hP2 hD2 hS1 hl
theorem w_alenI (hc : Cx G cc own rt fr lo) {p n : Nat} (hd : decode cc pc = .ok (.arraylength, 1)) (hk : (gK G)[p]? = some (10, n)) {v : Int32} (hv : Int32.ofNat n = v) (e : q = pc + 1) (kk : WW G q lv (.int v :: st) I L X) : WW G pc lv (.ref p :: st) I L X := by
  subst e
  intro b hb H locs ls hP hD hS hl
  exact va_alen hc.1 hc.2.1 hc.2.2.2.2.2.1 hP p 0 (x := (n, .inl (I p))) (wd_get hk) rfl hv hd (kk b hb H locs ls hP hD hS hl)
theorem w_alenJ (hc : Cx G cc own rt fr lo) {p n : Nat} (hd : decode cc pc = .ok (.arraylength, 1)) (hk : (gK G)[p]? = some (11, n)) {v : Int32} (hv : Int32.ofNat n = v) (e : q = pc + 1) (kk : WW G q lv (.int v :: st) I L X) : WW G pc lv (.ref p :: st) I L X := by
  subst e
  intro b hb H locs ls hP hD hS hl
  exact va_alen hc.1 hc.2.1 hc.2.2.2.2.2.1 hP p 1 (x := (n, .inr (.inl (L p)))) (wd_get hk) rfl hv hd (kk b hb H locs ls hP hD hS hl)
theorem w_alenB (hc : Cx G cc own rt fr lo) {p n : Nat} (hd : decode cc pc = .ok (.arraylength, 1)) (hk : (gK G)[p]? = some (12, n)) {v : Int32} (hv : Int32.ofNat n = v) (e : q = pc + 1) (kk : WW G q lv (.int v :: st) I L X) : WW G pc lv (.ref p :: st) I L X := by
  subst e
  intro b hb H locs ls hP hD hS hl
  exact va_alen hc.1 hc.2.1 hc.2.2.2.2.2.1 hP p 2 (x := (n, .inl (I p))) (wd_get hk) rfl hv hd (kk b hb H locs ls hP hD hS hl)
theorem w_alenZ (hc : Cx G cc own rt fr lo) {p n : Nat} (hd : decode cc pc = .ok (.arraylength, 1)) (hk : (gK G)[p]? = some (13, n)) {v : Int32} (hv : Int32.ofNat n = v) (e : q = pc + 1) (kk : WW G q lv (.int v :: st) I L X) : WW G pc lv (.ref p :: st) I L X := by
  subst e
  intro b hb H locs ls hP hD hS hl
  exact va_alen hc.1 hc.2.1 hc.2.2.2.2.2.1 hP p 3 (x := (n, .inl (I p))) (wd_get hk) rfl hv hd (kk b hb H locs ls hP hD hS hl)
end WR
