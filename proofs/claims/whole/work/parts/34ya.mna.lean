/-! new int[12][r]: the machine's own loop, row by row -/
section MN0
variable {E : CtlPost} {e : Env} {d : Bool} {acts : List Action} {s : State}
theorem mn_new {c comp : ClassId} {k : Class} {ty : FieldType} {len : Nat} {v : Value} (hk : s.vm.classes[c]? = some k) (hkind : k.kind = .array comp ty) (hl : ¬ len > e.platform.arrayLengthLimit) (hh : ¬ len * componentBytes ty > e.platform.maxHeapBytes) (hf : fits ty v = true) (hv : v.isDefault = true) {Q : Addr → Pre} (h1 : s.heap.size + 1 ≤ e.platform.maxCells) (h2 : s.slotsUsed + len ≤ e.platform.maxSlots) (hq : Q s.heap.size d acts (s.pushCell (arrV c len (fun _ => v)))) : wp (Jvm.newArray c len v) Q E e d acts s := by
  have f1 : ∀ (i : Nat) (w : Value), (Array.replicate len v)[i]? = some w → s.fitsSlot c .none i w = true := fun i w hw => by
    rw [Array.getElem?_replicate] at hw
    by_cases hi : i < len
    · rw [if_pos hi] at hw
      cases hw
      simp [State.fitsSlot, State.slotType?, hk, hkind, hf]
    · rw [if_neg hi] at hw
      cases hw
  have f2 : allocActs (Array.replicate len v) s.heap.size acts = acts := by
    unfold allocActs
    rw [if_pos (by
      rw [Array.all_replicate]
      split
      · rfl
      · exact hv)]
  rw [← arrV_new] at hq
  simp only [Jvm.newArray, Jvm.arrayFits, wp_bind', W.ask, W.ite, hl, if_false, wp_pure', W.theClass, hk, hkind, hh, W.alloc, W.stop, Option.some.injEq, exists_eq_left', Array.size_replicate, f2]
  rw [if_neg (by omega)]
  exact ⟨by omega, h2, f1, hq⟩
theorem mn_row {comp c0 : ClassId} {k : Class} {x : Int32} (hk : s.vm.classes[comp]? = some k) (hkind : k.kind = .array c0 .int) (hx : ¬ x < 0) (hl : ¬ x.toNatClampNeg > e.platform.arrayLengthLimit) (hh : ¬ x.toNatClampNeg * componentBytes .int > e.platform.maxHeapBytes) {Q : Addr → Pre} (h1 : s.heap.size + 1 ≤ e.platform.maxCells) (h2 : s.slotsUsed + x.toNatClampNeg ≤ e.platform.maxSlots) (hq : Q s.heap.size d acts (s.pushCell (arrV comp x.toNatClampNeg (fun _ => .int 0)))) : wp (multianewarray.make comp [x]) Q E e d acts s := by
  rw [multianewarray.make]
  simp only [wp_bind', W.ite, hx, if_false, wp_pure', W.theClass, hk, hkind, Option.some.injEq, exists_eq_left']
  exact mn_new hk hkind hl hh rfl rfl h1 h2 hq
end MN0
section MN1
variable {p : Program} {l : Launch} {e : Env} {R : Room} {s : State} {m : MethodId} {args : Array Value} {below : List Frame} {meth : Method} {c : Code} {T : State} {locs : List Loc} {cells slots : Nat}
def mn_f (h i : Nat) : Nat → Value := fun j => va_rf (if j < i then some (h + 1 + j) else none)
/-- i rows are made -/
def mn_I (p : Program) (l : Launch) (e : Env) (R : Room) (s : State) (m : MethodId) (args : Array Value) (below : List Frame) (meth : Method) (c : Code) (T : State) (locs : List Loc) (cells slots : Nat) (cA comp : ClassId) (r i : Nat) (U : State) : Prop :=
  (∃ locs1, (∀ q ∈ locs1, q ∈ locs ∨ q.base = T.heap.size) ∧ Stand p l e R s m args below meth c U locs1 (cells + 1 + i) (slots + 12 + i * r)) ∧ U.vm = T.vm ∧ U.heap.size = T.heap.size + 1 + i ∧ (∀ x, x < T.heap.size → U.heap[x]? = T.heap[x]?) ∧ U.heap[T.heap.size]? = some (arrV cA 12 (mn_f T.heap.size i)) ∧ ∀ j, j < i → U.heap[T.heap.size + 1 + j]? = some (arrV comp r (fun _ => .int 0))
theorem mn_0 {cA comp : ClassId} {r : Nat} (X : Stand p l e R s m args below meth c T locs cells slots) : mn_I p l e R s m args below meth c T locs cells slots cA comp r 0 (T.pushCell (arrV cA 12 (fun _ => .null))) := by
  have X1 := X.pushed (arrV cA 12 (fun _ => .null))
  rw [arrV_size] at X1
  refine ⟨⟨locs, fun q hq => Or.inl hq, by simpa using X1⟩, rfl, by simp, fun x hx => State.heap_pushCell_of_lt _ _ hx, ?_, fun j hj => absurd hj (Nat.not_lt_zero _)⟩
  rw [State.heap_pushCell_size]
  rfl
theorem mn_fu (h i : Nat) : updV (mn_f h i) i (.ref (h + 1 + i)) = mn_f h (i + 1) := by
  funext j
  unfold mn_f
  by_cases g : j = i
  · subst g
    simp [updV, va_rf]
  · by_cases g2 : j < i
    · simp [updV, g, g2, Nat.lt_succ_of_lt g2]
    · simp [updV, g, g2, show ¬ j < i + 1 by omega]
theorem mn_s {cA comp : ClassId} {r i : Nat} {U : State} (hi : i < 12) (h : mn_I p l e R s m args below meth c T locs cells slots cA comp r i U) : mn_I p l e R s m args below meth c T locs cells slots cA comp r (i + 1) ((U.pushCell (arrV comp r (fun _ => .int 0))).setCell T.heap.size ((arrV cA 12 (mn_f T.heap.size i)).setSlot i (.ref (T.heap.size + 1 + i)))) := by
  obtain ⟨⟨locs1, h1, X⟩, h2, h3, h4, h5, h6⟩ := h
  have lt0 : T.heap.size < U.heap.size := by omega
  have X1 := X.pushed (arrV comp r (fun _ => .int 0))
  rw [arrV_size] at X1
  have c0 : (U.pushCell (arrV comp r (fun _ => .int 0))).heap[T.heap.size]? = some (arrV cA 12 (mn_f T.heap.size i)) := by
    rw [State.heap_pushCell_of_lt _ _ lt0]; exact h5
  have X2 := X1.stored c0 i (.ref (T.heap.size + 1 + i))
  have sz : ∀ a : Nat, a ≠ T.heap.size → ((U.pushCell (arrV comp r (fun _ => .int 0))).setCell T.heap.size ((arrV cA 12 (mn_f T.heap.size i)).setSlot i (.ref (T.heap.size + 1 + i)))).heap[a]? = (U.pushCell (arrV comp r (fun _ => .int 0))).heap[a]? := fun a ha => State.heap_setCell_other (Ne.symm ha)
  refine ⟨⟨locs1 ++ [⟨T.heap.size, i⟩], fun q hq => ?_, ?_⟩, h2, ?_, fun x hx => ?_, ?_, fun j hj => ?_⟩
  · rcases List.mem_append.mp hq with g | g
    · exact h1 q g
    · rw [List.mem_singleton.mp g]; exact Or.inr rfl
  · have e1 : slots + 12 + (i + 1) * r = slots + 12 + i * r + r := by rw [Nat.succ_mul]; omega
    rw [e1]
    exact X2
  · simp [State.setCell, h3]; omega
  · rw [sz x (by omega), State.heap_pushCell_of_lt U _ (show x < U.heap.size by omega)]; exact h4 x hx
  · rw [State.heap_setCell_self c0, arrV_store, mn_fu]
  · rw [sz _ (by omega)]
    by_cases g : j < i
    · rw [State.heap_pushCell_of_lt U _ (show T.heap.size + 1 + j < U.heap.size by omega)]; exact h6 j g
    · have e1 : T.heap.size + 1 + j = U.heap.size := by omega
      rw [e1]; exact State.heap_pushCell_size _ _
def mn_U (T : State) (cA comp : ClassId) (r : Nat) : Nat → State
  | 0 => T.pushCell (arrV cA 12 (fun _ => .null))
  | i + 1 => ((mn_U T cA comp r i).pushCell (arrV comp r (fun _ => .int 0))).setCell T.heap.size ((arrV cA 12 (mn_f T.heap.size i)).setSlot i (.ref (T.heap.size + 1 + i)))
theorem mn_all {cA comp : ClassId} {r : Nat} (X : Stand p l e R s m args below meth c T locs cells slots) : ∀ i, i ≤ 12 → mn_I p l e R s m args below meth c T locs cells slots cA comp r i (mn_U T cA comp r i)
  | 0, _ => mn_0 X
  | i + 1, h => mn_s (by omega) (mn_all X i (by omega))
/-- the whole of 'make' -/
theorem mn_make {E : CtlPost} {d : Bool} {acts : List Action} {f : JFrame} {cA comp c0 : ClassId} {kA kC : Class} {x : Int32} (X : Stand p l e R s m args below meth c T locs cells slots) (hkA : T.vm.classes[cA]? = some kA) (hA : kA.kind = .array comp (.array .int)) (hkC : T.vm.classes[comp]? = some kC) (hC : kC.kind = .array c0 .int) (hx : ¬ x < 0) (hr : x.toNatClampNeg ≤ 5040) (hcells : cells + 13 ≤ R.cells) (hslots : slots + 12 + 12 * x.toNatClampNeg ≤ R.slots)
    {Q : Addr → Pre} (hq : ∀ (d' : Bool) (acts' : List Action), Q T.heap.size d' acts' ((mn_U T cA comp x.toNatClampNeg 12).setTop f)) : wp (multianewarray.make cA [12, x]) Q E e d acts (T.setTop f) := by
  have lim : ∀ n, n ≤ 5040 → ¬ n > e.platform.arrayLengthLimit := fun n hn => by rw [Launch.admits_arrayLengthLimit X.admits]; omega
  have byt : ∀ n, n ≤ 100000 → ¬ n > e.platform.maxHeapBytes := fun n hn => by rw [Launch.admits_maxHeapBytes X.admits]; omega
  have e12 : (12 : Int32).toNatClampNeg = 12 := rfl
  have nn : ¬ (12 : Int32) < 0 := by decide
  have nf : ([x].find? (· < 0)) = none := by simp [hx]
  obtain ⟨r1, r2⟩ := X.roomAbove (a := 1) (b := 12) (by omega) (by omega)
  rw [multianewarray.make]
  simp only [wp_bind', W.ite, nn, if_false, wp_pure', W.theClass, State.vm_setTop, hkA, hA, Option.some.injEq, exists_eq_left']
  refine mn_new (s := T.setTop f) (v := .null) (k := kA) (comp := comp) (ty := .array .int) (len := (12 : Int32).toNatClampNeg) hkA hA (lim _ (by rw [e12]; decide)) (byt _ (by rw [e12]; decide)) rfl rfl r1 (by rw [e12]; exact r2) ?_
  simp only [nf]
  rw [ite_self, wp_bind', Std.Legacy.Range.forIn_eq_forIn_range']
  show wp (forIn (List.range' 0 12 1) PUnit.unit _) _ E e d acts _
  refine wp_forIn_inv (fun rest s' => ∃ i, i ≤ 12 ∧ rest = List.range' i (12 - i) ∧ s' = (mn_U T cA comp x.toNatClampNeg i).setTop f) _ _ ⟨0, by omega, rfl, rfl⟩ ?_ ?_
  · rintro y rest s' d' acts' Q' ⟨i, hi, hl, rfl⟩ hnext
    have hlt : i < 12 := by
      by_cases g : i < 12
      · exact g
      · rw [show 12 - i = 0 by omega] at hl
        cases hl
    obtain ⟨rfl, hrest⟩ : y = i ∧ rest = List.range' (i + 1) (12 - (i + 1)) := by
      rw [show 12 - i = 12 - (i + 1) + 1 by omega, List.range'_succ] at hl
      exact ⟨(List.cons.inj hl).1, (List.cons.inj hl).2⟩
    have hI := mn_all (cA := cA) (comp := comp) (r := x.toNatClampNeg) X y hi
    generalize hU : mn_U T cA comp x.toNatClampNeg y = U at hI
    obtain ⟨⟨locs1, g1, XU⟩, g2, g3, g4, g5, g6⟩ := id hI
    have hmul : y * x.toNatClampNeg + x.toNatClampNeg ≤ 12 * x.toNatClampNeg := by
      have := Nat.mul_le_mul_right x.toNatClampNeg (show y + 1 ≤ 12 by omega)
      rw [Nat.succ_mul] at this; exact this
    obtain ⟨q1, q2⟩ := XU.roomAbove (a := 1) (b := x.toNatClampNeg) (by omega) (by omega)
    have lt0 : T.heap.size < U.heap.size := by omega
    simp only [wp_bind']
    refine mn_row (by show U.vm.classes[comp]? = some kC; rw [g2]; exact hkC) hC hx (lim _ hr) (byt _ (by show x.toNatClampNeg * 4 ≤ _; omega)) q1 q2 ?_
    simp only [wp_bind', W.writeLoc, wp_pure']
    refine ⟨arrV cA 12 (mn_f T.heap.size y), ?_, ?_, ?_, ?_, hnext _ _ _ ⟨y + 1, by omega, hrest, ?_⟩⟩
    · show (U.pushCell (arrV comp x.toNatClampNeg (fun _ => .int 0))).heap[T.heap.size]? = _
      rw [State.heap_pushCell_of_lt _ _ lt0]; exact g5
    · exact fun h => by cases h
    · rw [arrV_size]; exact hlt
    · show ((U.setTop f).pushCell _).fitsSlot cA .none y _ = true
      simp [State.fitsSlot, State.slotType?, g2, hkA, hA, fits]
    · have e9 : (U.setTop f).heap.size = T.heap.size + 1 + y := g3
      rw [e9, mn_U, hU]
      rfl
  · rintro s' d' acts' ⟨i, hi, hl, rfl⟩
    have hi12 : i = 12 := by
      by_cases g : i < 12
      · rw [show 12 - i = 12 - (i + 1) + 1 by omega, List.range'_succ] at hl
        cases hl
      · omega
    subst hi12
    simp only [wp_pure']
    exact hq d' acts'
end MN1
section MN2
variable {p : Program} {l : Launch} {e : Env} {R : Room} {s : State} {m : MethodId} {args : Array Value} {below : List Frame} {meth : Method} {c : Code} {H : Heap} {locs : List Loc} {cells slots : Nat} {Q : State → Prop}
theorem mn_W {cc : ByteArray} {own N2 : String} {index pc : Nat} {cA comp c0 : ClassId} {kA kC : Class} {ls : Array Slot} {rest : List Value} {x : Int32} (hexec : p.tables.exec = Jvm.exec) (hb : c.code = cc) (hown : s.vm.findClass own = some m.cls) (hclink : (Cond.classLink own index N2).before args s = true) (hnA : s.vm.findClass N2 = some cA) (hkA : s.vm.classes[cA]? = some kA) (hA : kA.kind = .array comp (.array .int)) (hkC : s.vm.classes[comp]? = some kC) (hC : kC.kind = .array c0 .int) (hdg : decode cc pc = .ok (.multianewarray index 2, 4)) (hx : ¬ x < 0) (hr : x.toNatClampNeg ≤ 5040) (hcells : cells + 13 ≤ R.cells) (hslots : slots + 12 + 12 * x.toNatClampNeg ≤ R.slots)
    (kk : ∀ (H1 : Heap) (locs1 : List Loc), (∀ q ∈ locs1, q ∈ locs ∨ q.base = H.size) → H1.size = H.size + 13 → (∀ y, y < H.size → H1[y]? = H[y]?) → H1[H.size]? = some (arrV cA 12 (mn_f H.size 12)) → (∀ j, j < 12 → H1[H.size + 1 + j]? = some (arrV comp x.toNatClampNeg (fun _ => .int 0))) → W p l e R s m args below meth c H1 locs1 (cells + 13) (slots + 12 + 12 * x.toNatClampNeg) Q (F0 m (pc + 4) ls (.ref H.size :: rest))) : W p l e R s m args below meth c H locs cells slots Q (F0 m pc ls (.int x :: .int 12 :: rest)) := by
  intro T hT X
  subst hT; subst hb
  have hpl : e.platform.magicAccessors = ({} : Platform).magicAccessors := by rw [X.admits.platform]
  obtain ⟨cA', hfA, hcl⟩ := Cond.classLink_spec hown hclink e.platform hpl
  cases hnA.symm.trans hfA
  obtain ⟨hg₁, hwarm₁, hready₁⟩ := State.classEntry (e := e) X.warmed hcl
  generalize T.vm.noted m.cls index (.cls cA) = vm₁ at hg₁ hwarm₁ hready₁
  have hal : s.vm.Alike vm₁ := hwarm₁.alike
  obtain ⟨kA₁, hkA₁, heA⟩ := hal.2.2 _ _ hkA
  obtain ⟨kC₁, hkC₁, heC⟩ := hal.2.2 _ _ hkC
  have hA₁ : kA₁.kind = .array comp (.array .int) := by rw [heA]; exact hA
  have hC₁ : kC₁.kind = .array c0 .int := by rw [heC]; exact hC
  have X₁ := X.noted hwarm₁
  obtain ⟨⟨locs1, l1, XU⟩, z2, z3, z4, z5, z6⟩ := mn_all (cA := cA) (comp := comp) (r := x.toNatClampNeg) X₁ 12 (Nat.le_refl _)
  obtain ⟨t, a1, b1⟩ := kk _ locs1 l1 z3 z4 z5 z6 (mn_U (T.setVm vm₁) cA comp x.toNatClampNeg 12) rfl XU
  refine ⟨t, ?_, b1⟩
  generalize hgf : F0 m pc ls (.int x :: .int 12 :: rest) = g
  have g1 : g.method = m := by rw [← hgf]
  have g2 : g.stack = .int x :: .int 12 :: rest := by rw [← hgf]
  have g3 : decode c.code g.pc = .ok (.multianewarray index 2, 4) := by rw [← hgf]; exact hdg
  have g4 : F0 m (pc + 4) ls (.ref T.heap.size :: rest) = { g with pc := g.pc + 4, stack := .ref T.heap.size :: rest } := by rw [← hgf]
  rw [g4] at a1
  subst g1
  jvm_step X.here [hexec, g3]
  simp only [multianewarray.sem, wp_bind', W.resolveClassAt_links (State.method?_setTop g X.here.top) hg₁]
  rw [W.popN, if_neg (by decide)]
  refine ⟨g, State.topJava?_setTop' (s := T.setVm vm₁) g X.here.top, [.int 12, .int x], rest, rfl, g2, ?_⟩
  simp only [List.mapM_cons, List.mapM_nil, wp_bind', wp_pure']
  have eS : ((T.setTop g).setVm vm₁).setTop { g with stack := rest } = (T.setVm vm₁).setTop { g with stack := rest } := by
    show ((T.setVm vm₁).setTop g).setTop _ = _
    rw [State.setTop_setTop]
  rw [eS]
  refine mn_make X₁ hkA₁ hA₁ hkC₁ hC₁ hx hr hcells hslots (fun d' acts' => ?_)
  simp only [wp_bind', W.mark, W.pushRef, State.topJava?_setTop' _ XU.here.top, Option.some.injEq, exists_eq_left', State.setTop_setTop, State.heap_setTop]
  intro acts
  simp [jvm, XU.here.top]
  exact a1
end MN2
