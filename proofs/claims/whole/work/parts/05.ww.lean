/-! THE PURE FACE OF THE MACHINE: places instead of addresses, one memory of ints and one of longs; WW says that the machine, at a point of a method, does what a pure term X says. -/
def bnd {α β : Type} (a : α) (f : α → β) : β := f a
def chk {β : Type} (c : Bool) (x : Option β) : Option β := if c = true then x else none
def b2i (b : Bool) : Int32 := if b = true then 1 else 0
def inb (i : Int32) (n : Nat) : Bool := decide (0 ≤ i.toInt) && decide (i.toInt < n)
abbrev ix (i : Int32) : Nat := i.toNatClampNeg
def up2 {α : Type} (f : Nat → Nat → α) (p k : Nat) (v : α) : Nat → Nat → α := fun q j => if q = p then (if j = k then v else f q j) else f q j
def tr (ad : Nat → Nat) (v : Value) : Value := match v with
  | .ref p => .ref (ad p)
  | v => v
abbrev trs (ad : Nat → Nat) (st : List Value) : List Value := st.map (tr ad)
abbrev trl (ad : Nat → Nat) (lv : List (Nat × Value)) : List (Nat × Value) := lv.map (fun q => (q.1, tr ad q.2))
abbrev MI : Type := Nat → Nat → Int32
abbrev ML : Type := Nat → Nat → Int64
abbrev MR : Type := Nat → Nat → Option Nat
abbrev Mm : Type := MI × ML
abbrev KT : Type := List (Nat × Nat)
/-- kinds of the fields, class by class: 0 int, 1 long, 2 reference -/
def ftl : List (List Nat) := [[0,1,2,2,2,2,2,2], [2,2,0,0,0], [0,0,2,2,0,2,2,2,2,2,2,0,2], [0,1,0,2,2,2,2], [0,0,0,0,2,2,2,2,2,2,2,0,0,0,0,0], [2,0,0,0,0,0,0,0,0,2,2,2,1,0,0,0], [2,2,2,2,0,1,0], [0,0,0,0,2,2,2,2,2,2,2,2,2,2,2,2,2,2,2,2,0,2,2,2,0,2,2,2,0,2,0,0,0,0,0,0,0,0,0,0,0,0,1,2,2]]
def fty (ci j : Nat) : Nat := (ftl.getD ci []).getD j 0
def fnn (ci : Nat) : Nat := (ftl.getD ci []).length
def fv (ad : Nat → Nat) (R : MR) (I : MI) (L : ML) (p t j : Nat) : Value := if t = 0 then .int (I p j) else if t = 1 then .long (L p j) else va_rf ((R p j).map ad)
def fvs (ad : Nat → Nat) (R : MR) (I : MI) (L : ML) (p ci : Nat) : List Value := (List.range (fnn ci)).map (fun j => fv ad R I L p (fty ci j) j)
def ce (tc : Nat → ClassId) (ad : Nat → Nat) (R : MR) (I : MI) (L : ML) (p : Nat) (k : Nat × Nat) : va_E :=
  if k.1 < 8 then .inr (k.1, fvs ad R I L p k.1) else if k.1 = 11 then .inl (tc 11, k.2, .inr (.inl (L p))) else if k.1 = 14 then .inl (tc 14, k.2, .inr (.inr (.inr (.inr (fun j => (R p j).map ad))))) else .inl (tc k.1, k.2, .inl (I p))
def wd (tc : Nat → ClassId) (ad : Nat → Nat) (K : KT) (R : MR) (I : MI) (L : ML) : va_W := K.mapIdx (fun p k => (ad p, ce tc ad R I L p k))
def tyl (tc : Nat → ClassId) : List (ClassId × FieldType) := [(tc 10, .int), (tc 11, .long), (tc 12, .byte), (tc 13, .boolean), (tc 14, .array .int)]
def aA (ad : Nat → Nat) (K : KT) (sz : Nat) : Nat → Prop := fun q => (∃ p, p < K.length ∧ q = ad p) ∨ sz ≤ q
/-- the words that every method here may use: those of the tables that stay -/
def wsA : List Cond := lw_tbl.filter goodWord
theorem wsA_good : ∀ w ∈ wsA, goodWord w = true := fun _ h => (List.mem_filter.mp h).2
theorem wsA_tbl : ∀ w ∈ wsA, w ∈ lw_tbl := fun _ h => (List.mem_filter.mp h).1
theorem wsA_in {w : Cond} (h : w ∈ lw_tbl) (g : goodWord w = true) : w ∈ wsA := List.mem_filter.mpr ⟨h, g⟩
theorem good_wsA {y y' : Cond} (h : y' ∈ wsA) : GoodIn (y :: wsA) (y' :: wsA) := fun w hw => by
  rcases List.mem_cons.mp hw with rfl | h2
  · exact ⟨List.mem_cons_of_mem _ h, good_of_word (wsA_good _ h)⟩
  · exact ⟨List.mem_cons_of_mem _ h2, good_of_word (wsA_good _ h2)⟩
/-- what lies outside: words of nest mates, statics and the three String constants -/
def nwM (own : String) (i : Nat) (y : MethodName) (U : State) : Prop := va_Nw (.methodLinkNest own i y "MoveGroups") U
def sLen : List Nat := [6, 4, 4]
def sByt : List (List Int32) := [[112, 111, 105, 110, 116, 115], [109, 111, 118, 101], [119, 111, 114, 100]]
abbrev sK (ad : Nat → Nat) : Nat → Nat := fun i => ad (1000000 + i)
abbrev sV (ad : Nat → Nat) : Nat → Nat := fun i => ad (2000000 + i)
/-- the class of int[][] stands (said of a like state: it is moved on where it is used) -/
def AOx (U : State) : Prop := ∃ u : State, u.vm.Alike U.vm ∧ (Cond.arrayOver (.array .int)).before #[] u = true
def Ex (ad : Nat → Nat) (A : Nat → Prop) (U : State) : Prop :=
  (va_Nw (.fieldLinkNest RX1 55 RX0 "points" "I" RX7) U ∧ va_Nw (.methodLinkNest RX7 9 yX5_init RX7) U ∧ va_Nw (.methodLinkNest RX7 18 yX2_init RX7) U ∧ va_Nw (.methodLinkNest RX7 25 yX3_init RX7) U ∧ va_Nw (.methodLinkNest RX2 24 yX0_init RX7) U ∧ va_Nw (.methodLinkNest RX2 44 yX1_init RX7) U) ∧
  (vk_R RX5 111 "points" (sK ad 0) U ∧ vk_R RX5 116 "move" (sK ad 1) U ∧ vk_R RX5 118 "word" (sK ad 2) U) ∧ vk_S 3 sLen sByt (sK ad) (sV ad) A U U.heap ∧
  va_Z "java/lang/String" "COMPACT_STRINGS" "Z" (.int 1) A U U.heap ∧ (va_Z "jdk/internal/util/Preconditions" "SIOOBE_FORMATTER" "Ljava/util/function/BiFunction;" .null A U U.heap ∨ va_Z "jdk/internal/util/Preconditions" "SIOOBE_FORMATTER" "Ljava/util/function/BiFunction;" (.ref (ad 3000000)) A U U.heap) ∧ AOx U
theorem AO_moved {u U : State} (hvm : u.vm.Alike U.vm) (h : AOx u) : AOx U := h.elim fun v hv => ⟨v, hv.1.trans hvm, hv.2⟩
theorem Ex.blind {ad : Nat → Nat} {A : Nat → Prop} {u U : State} (hv : u.vm = U.vm) (hh : u.heap = U.heap) (h : Ex ad A u) : Ex ad A U := by
  obtain ⟨⟨a1, a2, a3, a4, a5, a6⟩, ⟨b1, b2, b3⟩, c, d, e, g⟩ := h
  have al : u.vm.Alike U.vm := by rw [hv]; exact Vm.Alike.refl _
  rw [hh] at c d e
  exact ⟨⟨va_Nw.same rfl hv a1, va_Nw.same rfl hv a2, va_Nw.same rfl hv a3, va_Nw.same rfl hv a4, va_Nw.same rfl hv a5, va_Nw.same rfl hv a6⟩, ⟨vk_R.same hv.symm b1, vk_R.same hv.symm b2, vk_R.same hv.symm b3⟩, c.moved al, d.moved al, e.imp (fun e => e.moved al) (fun e => e.moved al), AO_moved al g⟩
theorem Ex.pass {ad : Nat → Nat} {A B : Nat → Prop} {s U : State} (hW : s.WarmedH U.vm) (hq : ∀ a : Nat, a < s.heap.size → ¬ A a → U.heap[a]? = s.heap[a]?) (hAB : ∀ q, B q → A q) (h : Ex ad A s) : Ex ad B U := by
  obtain ⟨⟨a1, a2, a3, a4, a5, a6⟩, ⟨b1, b2, b3⟩, c, d, e, g⟩ := h
  exact ⟨⟨a1.warmF hW, a2.warmM hW, a3.warmM hW, a4.warmM hW, a5.warmM hW, a6.warmM hW⟩, ⟨b1.warm hW, b2.warm hW, b3.warm hW⟩, ((c.kept hq).moved hW.alike).narrow hAB, ((d.kept hq).moved hW.alike).narrow hAB, e.imp (fun e => ((e.kept hq).moved hW.alike).narrow hAB) (fun e => ((e.kept hq).moved hW.alike).narrow hAB), AO_moved hW.alike g⟩
/-- the frame of all that stays fixed while a method is walked -/
abbrev GT (β : Type) : Type := (Program × Launch × Env × Room × State × MethodId × Array Value × List Frame × Method × Code) × (va_G × (Nat → ClassId) × (Nat → Nat) × (Nat → Prop)) × (Nat × Nat × Nat) × (KT × MR) × (β → State → Prop)
section GA
variable {β : Type}
abbrev gp (G : GT β) : Program := G.1.1
abbrev gl (G : GT β) : Launch := G.1.2.1
abbrev ge (G : GT β) : Env := G.1.2.2.1
abbrev gRm (G : GT β) : Room := G.1.2.2.2.1
abbrev gs (G : GT β) : State := G.1.2.2.2.2.1
abbrev gm (G : GT β) : MethodId := G.1.2.2.2.2.2.1
abbrev ga (G : GT β) : Array Value := G.1.2.2.2.2.2.2.1
abbrev gbel (G : GT β) : List Frame := G.1.2.2.2.2.2.2.2.1
abbrev gme (G : GT β) : Method := G.1.2.2.2.2.2.2.2.2.1
abbrev gc (G : GT β) : Code := G.1.2.2.2.2.2.2.2.2.2
abbrev gD (G : GT β) : va_G := G.2.1.1
abbrev gtc (G : GT β) : Nat → ClassId := G.2.1.2.1
abbrev gad (G : GT β) : Nat → Nat := G.2.1.2.2.1
abbrev gA (G : GT β) : Nat → Prop := G.2.1.2.2.2
abbrev gnL (G : GT β) : Nat := G.2.2.1.1
abbrev gcl (G : GT β) : Nat := G.2.2.1.2.1
abbrev gsl (G : GT β) : Nat := G.2.2.1.2.2
abbrev gK (G : GT β) : KT := G.2.2.2.1.1
abbrev gR (G : GT β) : MR := G.2.2.2.1.2
abbrev gQ (G : GT β) : β → State → Prop := G.2.2.2.2
abbrev gwd (G : GT β) (I : MI) (L : ML) : va_W := wd (gtc G) (gad G) (gK G) (gR G) I L
abbrev gW (G : GT β) (H : Heap) (locs : List Loc) (b : β) (g : JFrame) : Prop := W (gp G) (gl G) (ge G) (gRm G) (gs G) (gm G) (ga G) (gbel G) (gme G) (gc G) H locs (gcl G) (gsl G) (gQ G b) g
def WW (G : GT β) (pc : Nat) (lv : List (Nat × Value)) (st : List Value) (I : MI) (L : ML) (X : Option β) : Prop :=
  ∀ b, X = some b → ∀ (H : Heap) (locs : List Loc) (ls : Array Slot), va_P (gD G) vwCl (gwd G I L) H → va_D (gA G) (gwd G I L) → va_S (gA G) (gs G).heap H locs → lv_has ls (gnL G) (trl (gad G) lv) → gW G H locs b (F0 (gm G) pc ls (trs (gad G) st))
/-- what is known throughout a method: its code, its class, its room -/
def Cx (G : GT β) (cc : ByteArray) (own : String) (rt : Option FieldType) (fr lo : Nat) : Prop :=
  (gp G).tables.exec = Jvm.exec ∧ (gc G).code = cc ∧ (gc G).maxLocals = gnL G ∧ (gs G).vm.findClass own = some (gm G).cls ∧ (∀ w ∈ wsA, w.before (ga G) (gs G) = true) ∧ va_K (gD G) vwCl (tyl (gtc G)) (gs G) ∧ (∀ q, (gs G).heap.size ≤ q → gA G q) ∧
  (gme G).sig.returnType = rt ∧ (gme G).locks = false ∧ ((gRm G).frames = fr ∧ (gRm G).locals = lo ∧ gcl G ≤ (gRm G).cells ∧ gsl G ≤ (gRm G).slots) ∧ Ex (gad G) (gA G) (gs G)
end GA
