def RelU (D : va_G) (tc : Nat → ClassId) (ad : Nat → Nat) (K : KT) (R : MR) (I : MI) (L : ML) (U : State) : Prop := va_P D vwCl (wd tc ad K R I L) U.heap ∧ va_K D vwCl (tyl tc) U ∧ va_D (fun _ => True) (wd tc ad K R I L)
def PreU (D : va_G) (tc : Nat → ClassId) (ad : Nat → Nat) (K : KT) (R : MR) (I : MI) (L : ML) (sz : Nat) (U : State) : Prop := U.heap.size = sz ∧ RelU D tc ad K R I L U ∧ Ex ad (aA ad K sz) U
def rmx (fr lo : Nat) : Room := { frames := fr, cells := 0, slots := 0, locals := lo }
def gQc (v : Option Value) (B : State → Prop) (A : Nat → Prop) : Array Value → State → Outcome → State → Prop := fun _ st oc t => (oc = .returned v ∧ B t) ∧ va_F A st t
/-- a method's contract: from the memory I, L it answers and leaves what the pure term X says -/
def MFg {γ : Type} (l : Launch) (y : MethodName) (cy : ByteArray) (maxL : Nat) (rt : Option FieldType) (fr lo : Nat) (args : List Value) (K : KT) (R : MR) (I : MI) (L : ML) (an : γ → Option Value) (me : γ → Mm) (X : Option γ) : Prop :=
  ∀ b, X = some b → ∀ (D : va_G) (tc : Nat → ClassId) (ad : Nat → Nat) (sz : Nat), Met l y (Cond.code y cy maxL rt :: wsA) (rmx fr lo) (va_Pc (trs ad args) (PreU D tc ad K R I L sz)) (gQc ((an b).map (tr ad)) (RelU D tc ad K R (me b).1 (me b).2) (aA ad K sz)) 0 0 (aA ad K sz)
def RetQ {γ : Type} (G : GT γ) (an : γ → Option Value) (me : γ → Mm) : Prop := ∀ b, gQ G b = MQ (gbel G) (gQc ((an b).map (tr (gad G))) (RelU (gD G) (gtc G) (gad G) (gK G) (gR G) (me b).1 (me b).2) (gA G)) (ga G) (gs G) (gcl G) (gsl G) (gA G)
theorem lg_sl_tr (ad : Nat → Nat) (vs : List Value) : (lg_sl (trs ad vs)).length = (lg_sl vs).length := by
  induction vs with
  | nil => rfl
  | cons v t ih =>
    simp only [lg_sl, List.map_cons, List.flatMap_cons, List.length_append] at ih ⊢
    rw [tr_cat]
    split <;> simp_all
theorem lv_args_tr (ad : Nat → Nat) (vs : List Value) : ∀ i, lv_args i (trs ad vs) = trl ad (lv_args i vs) := by
  induction vs with
  | nil => intro i; rfl
  | cons v t ih =>
    intro i
    show (i, tr ad v) :: lv_args (if (tr ad v).category = 2 then i + 2 else i + 1) (trs ad t) = (i, tr ad v) :: trl ad (lv_args (if v.category = 2 then i + 2 else i + 1) t)
    rw [tr_cat, ih]
theorem PreU.blind {D : va_G} {tc : Nat → ClassId} {ad : Nat → Nat} {K : KT} {R : MR} {I : MI} {L : ML} {sz : Nat} {av : List Value} : FrameBlind (va_Pc av (PreU D tc ad K R I L sz)) := by
  intro a U g mk h
  obtain ⟨h1, h2, ⟨h3, h4, h5⟩, h6⟩ := h
  exact ⟨h1, h2, ⟨h3, va_K.moved (Vm.Alike.refl U.vm) h4, h5⟩, Ex.blind rfl rfl h6⟩
theorem aA_of {ad : Nat → Nat} {K : KT} {sz : Nat} {tc : Nat → ClassId} {R : MR} {I : MI} {L : ML} (h : va_D (fun _ => True) (wd tc ad K R I L)) : va_D (aA ad K sz) (wd tc ad K R I L) := by
  refine ⟨h.1, fun k q hk => Or.inl ?_⟩
  have h2 : k < K.length := by
    have := (List.getElem?_eq_some_iff.mp hk).1
    simpa [wd] using this
  rw [wd_get (List.getElem?_eq_getElem h2)] at hk
  cases hk
  exact ⟨k, h2, rfl⟩
theorem Met_ofWF {l : Launch} {y : MethodName} {ws ws' : List Cond} {rm : Room} {Pc : Array Value → State → Prop} {Qc : Array Value → State → Outcome → State → Prop} {mc ms : Nat} {free : Addr → Prop} {cc : ByteArray} {maxL : Nat} {ret : Option FieldType}
    (hy : plainFor y = true) (hw : ws = Cond.code y cc maxL ret :: ws')
    (body : ∀ p e s m args below meth c s₁, BodyLoose p l y (headSpec ws rm) cc maxL ret e s m args below meth c s₁ → c.maxLocals = maxL → Pc args s →
      W p l e (headSpec ws rm).room s m args below meth c s.heap [] 0 0 (MQ below Qc args s mc ms free) (entryFrame m args maxL)) : Met l y ws rm Pc Qc mc ms free := by
  refine MetFree.of_bodySF (code := cc) (maxLocals := maxL) (ret := ret) hy ?_ ?_
  · intro args s m h hn
    obtain ⟨meth, c, h1, h2, h3, h4, h5, h6, -, -⟩ := Cond.code_spec hn (atoms_spec (ws := ws) h _ (by rw [hw]; exact List.mem_cons_self))
    exact ⟨meth, c, h1, h2, h3, h4, h5, h6⟩
  · intro p e s m args below meth c s₁ B hml hP _
    have hh0 : s₁.heap = s.heap := by rw [B.state]; rfl
    obtain ⟨t, a1, o, b1, b2, b3⟩ := body p e s m args below meth c s₁ B hml hP s₁ hh0 (Stand.of_body B)
    exact ⟨t, o, a1, b1, b2, ⟨b3.1, b3.2⟩⟩
theorem mf_of {γ : Type} {l : Launch} {y : MethodName} {cy : ByteArray} {maxL : Nat} {rt : Option FieldType} {fr lo : Nat} {args : List Value} {K : KT} {R : MR} {I : MI} {L : ML} {an : γ → Option Value} {me : γ → Mm} {X : Option γ}
    (hy : plainFor y = true) (hn : (lg_sl args).length ≤ maxL)
    (body : ∀ G : GT γ, Cx G cy y.cls rt fr lo → gl G = l → gK G = K → gR G = R → gnL G = maxL → RetQ G an me → WW G 0 (lv_args 0 args) [] I L X) : MFg l y cy maxL rt fr lo args K R I L an me X := by
  intro b hb D tc ad sz
  refine Met_ofWF (cc := cy) (maxL := maxL) (ret := rt) hy rfl ?_
  intro p e s m av below meth c s₁ B hml hv
  obtain ⟨rfl, hsz, ⟨hP, hK, hD0⟩, hE⟩ := hv
  subst hsz
  have hts := atoms_spec (ws := Cond.code y cy maxL rt :: wsA) B.pre
  rw [lg_entry_eq]
  have hl := lv_entry (trs ad args) (n := maxL) (by rw [lg_sl_tr]; exact hn)
  rw [lv_args_tr] at hl
  exact body ((p, l, e, (headSpec (Cond.code y cy maxL rt :: wsA) (rmx fr lo)).room, s, m, (trs ad args).toArray, below, meth, c), (D, tc, ad, aA ad K s.heap.size), (maxL, 0, 0), (K, R), fun b => MQ below (gQc ((an b).map (tr ad)) (RelU D tc ad K R (me b).1 (me b).2) (aA ad K s.heap.size)) (trs ad args).toArray s 0 0 (aA ad K s.heap.size))
    ⟨B.exec, B.bytes, hml, findClass_of_methodNamed B.named, fun w hw => hts w (List.mem_cons_of_mem _ hw), hK, fun q h => Or.inr h, B.returns, B.notSynchronized, ⟨rfl, rfl, Nat.zero_le _, Nat.zero_le _⟩, hE⟩ rfl rfl rfl rfl (fun _ => rfl) b hb s.heap [] _ hP (aA_of hD0) va_S.rf hl
/-- what the tables say of a callee -/
def CalF (y : MethodName) (cy : ByteArray) (maxL : Nat) (rt : Option FieldType) (n : Nat) : Prop := Cond.code y cy maxL rt ∈ wsA ∧ Cond.initialized y.cls ∈ wsA ∧ (y.cls ≠ "java/lang/invoke/MethodHandle" ∧ y.cls ≠ "java/lang/invoke/VarHandle" ∧ (parseMethodDescriptor y.desc).map (fun d => d.parameters.length) = some n)
section WC
variable {β : Type} {G : GT β} {cc : ByteArray} {own : String} {rt : Option FieldType} {fr lo pc q : Nat} {lv : List (Nat × Value)} {st : List Value} {I : MI} {L : ML} {X : Option β}
theorem cat_tr (ad : Nat → Nat) (st : List Value) : ((trs ad st).map fun v => v.category).sum = (st.map fun v => v.category).sum := by
  induction st with
  | nil => rfl
  | cons v t ih => simp only [List.map_cons, List.sum_cons] at ih ⊢; rw [tr_cat, ih]
/-- behind a call: what came back -/
theorem w_back {γ : Type} {an : γ → Option Value} {me : γ → Mm} {F : Option γ} {X' : γ → Option β} {a : Array Value} {stk : List Value} {b : β} {x : γ} {H : Heap} {locs : List Loc} {ls : Array Slot} (hc : Cx G cc own rt fr lo)
    (hr : va_Run (gp G) (gl G) (ge G) (gRm G) (gs G) (gm G) (ga G) (gbel G) (gme G) (gc G) H locs (gcl G) (gsl G) 0 0 (F0 (gm G) pc ls (trs (gad G) stk)) (trs (gad G) st) (gQc ((an x).map (tr (gad G))) (RelU (gD G) (gtc G) (gad G) (gK G) (gR G) (me x).1 (me x).2) (aA (gad G) (gK G) H.size) a) (aA (gad G) (gK G) H.size))
    (hD : va_D (gA G) (gwd G I L)) (hS : va_S (gA G) (gs G).heap H locs) (hl : lv_has ls (gnL G) (trl (gad G) lv)) (hX : X' x = some b)
    (kk : WW G (pc + 3) lv ((an x).toList ++ st) (me x).1 (me x).2 (X' x)) : gW G H locs b (F0 (gm G) pc ls (trs (gad G) stk)) := by
  have hAA : ∀ q, aA (gad G) (gK G) H.size q → gA G q := by
    intro q h
    rcases h with ⟨p, hp, rfl⟩ | h
    · exact hD.2 p _ (wd_get (List.getElem?_eq_getElem hp))
    · exact hc.2.2.2.2.2.2.1 q (Nat.le_trans hS.1 h)
  intro T hT X0
  obtain ⟨v, st₀, t, T', Lc, h0, X', hL, e1, e2, ⟨⟨hv, hB⟩, hz, hk⟩, hst⟩ := hr T hT X0
  cases hv
  rw [h0] at hz hk
  have hS' : va_S (gA G) (gs G).heap T'.heap (locs ++ Lc) := ⟨Nat.le_trans hS.1 (by rw [e1]; exact hz), fun q h1 h2 => by rw [e1, hk q (Nat.lt_of_lt_of_le h1 hS.1) (fun z => h2 (hAA q z))]; exact hS.2.1 q h1 h2, fun q hq => by
      rcases List.mem_append.mp hq with h | h
      · exact hS.2.2 q h
      · exact hAA _ (hL q h)⟩
  have hD' : va_D (gA G) (gwd G (me x).1 (me x).2) := (aA_of (sz := H.size) hB.2.2).weaken (fun _ _ _ h => hAA _ h)
  have h9 := kk b hX T'.heap (locs ++ Lc) ls (by rw [e1]; exact hB.1) hD' hS' hl
  obtain ⟨t2, a1, b1⟩ := h9 T' rfl X'
  refine ⟨t2, hst t2 ?_, b1⟩
  have ee : trs (gad G) ((an x).toList ++ st) = ((an x).map (tr (gad G))).toList ++ trs (gad G) st := by
    cases an x <;> simp
  rw [ee] at a1
  exact a1
theorem w_pre {D : va_G} {tc : Nat → ClassId} {H : Heap} {locs : List Loc} (hc : Cx G cc own rt fr lo) (hP : va_P (gD G) vwCl (gwd G I L) H) (hD : va_D (gA G) (gwd G I L)) (hS : va_S (gA G) (gs G).heap H locs) (args : List Value) : ∀ U : State, U.heap = H → (gs G).WarmedH U.vm → va_Pc (trs (gad G) args) (PreU (gD G) (gtc G) (gad G) (gK G) (gR G) I L H.size) (trs (gad G) args).toArray U := by
  intro U hU hW
  refine ⟨rfl, by rw [hU], ⟨by rw [hU]; exact hP, va_K.moved hW.alike hc.2.2.2.2.2.1, hD.weaken (fun _ _ _ _ => trivial)⟩, ?_⟩
  refine Ex.pass hW (fun a h1 h2 => by rw [hU]; exact hS.2.1 a h1 h2) (fun q h => ?_) hc.2.2.2.2.2.2.2.2.2.2
  rcases h with ⟨p, hp, rfl⟩ | h
  · exact hD.2 p _ (wd_get (List.getElem?_eq_getElem hp))
  · exact hc.2.2.2.2.2.2.1 q (Nat.le_trans hS.1 h)
theorem w_callS {γ : Type} {an : γ → Option Value} {me : γ → Mm} {F : Option γ} {X' : γ → Option β} {y : MethodName} {cy : ByteArray} {maxL fr' lo' idx n : Nat} {rt' : Option FieldType} {args stk : List Value} (hc : Cx G cc own rt fr lo) (hM : MFg (gl G) y cy maxL rt' fr' lo' args (gK G) (gR G) I L an me F)
    (hd : decode cc pc = .ok (.invokestatic idx, 3)) (hw : Cond.methodLink own idx y ∈ wsA) (hf : CalF y cy maxL rt' n) (hs : Cond.static y ∈ wsA) (hn : args.length = n) (hstk : stk = args.reverse ++ st) (h8 : (st.map fun v => v.category).sum ≤ 8) (hroom : fr' + 1 ≤ fr ∧ 8 + (maxL + 11) + lo' ≤ lo) (e : q = pc + 3)
    (kk : ∀ x, WW G q lv ((an x).toList ++ st) (me x).1 (me x).2 (X' x)) : WW G pc lv stk I L (F.bind X') := by
  subst e
  intro b hb H locs ls hP hD hS hl
  obtain ⟨x, hx, hX⟩ := Option.bind_eq_some_iff.mp hb
  obtain ⟨c1, c2, c3, c4, c5⟩ := hf
  refine w_back (a := (trs (gad G) args).toArray) (F := F) hc (va_runS (As := trs (gad G) args) (n := n) ⟨hc.1, hc.2.1, hc.2.2.1, hc.2.2.2.1, hc.2.2.2.2.1⟩ (hM x hx (gD G) (gtc G) (gad G) H.size) ⟨callB_of n hc.2.2.2.2.1 (ws := Cond.code y cy maxL rt' :: wsA) (fun w hw => by
      rcases List.mem_cons.mp hw with rfl | h2
      · exact ⟨c1, good_of_word (wsA_good _ c1)⟩
      · exact ⟨h2, good_of_word (wsA_good _ h2)⟩) rfl rfl rfl (hc.2.2.2.2.1 _ c2) (hc.2.2.2.2.1 _ hw) ⟨c3, c4, c5⟩ ⟨by rw [hc.2.2.2.2.2.2.2.2.2.1.1]; exact hroom.1, by rw [hc.2.2.2.2.2.2.2.2.2.1.2.1]; exact hroom.2⟩, hc.2.2.2.2.1 _ hs⟩ ⟨PreU.blind, w_pre (D := gD G) (tc := gtc G) hc hP hD hS args⟩ rfl (by simp [hn]) hl.1 (by rw [hstk]; simp) (by rw [cat_tr]; show 2 * 0 + _ ≤ 8; omega) hd ⟨hc.2.2.2.2.2.2.2.2.2.1.2.2.1, hc.2.2.2.2.2.2.2.2.2.1.2.2.2⟩) hD hS hl hX (kk x)
theorem w_callV {γ : Type} {an : γ → Option Value} {me : γ → Mm} {F : Option γ} {X' : γ → Option β} {y : MethodName} {cy : ByteArray} {maxL fr' lo' idx n p ci k0 N : Nat} {C : String} {T : u_T} {rt' : Option FieldType} {args stk : List Value} (hc : Cx G cc own rt fr lo) (hM : MFg (gl G) y cy maxL rt' fr' lo' (.ref p :: args) (gK G) (gR G) I L an me F)
    (hd : decode cc pc = .ok (.invokevirtual idx, 3)) (hw : Cond.methodLink own idx y ∈ wsA) (hf : CalF y cy maxL rt' n) (hs : Cond.instanceMethod y ∈ wsA ∧ Cond.selects y.cls y y ∈ wsA) (hk : (gK G)[p]? = some (ci, k0)) (hv : vwCl[ci]? = some (C, T, N)) (hC : C = y.cls) (h8c : ci < 8) (hn : args.length = n) (hstk : stk = args.reverse ++ .ref p :: st) (h8 : (st.map fun v => v.category).sum ≤ 8) (hroom : fr' + 1 ≤ fr ∧ 8 + (maxL + 11) + lo' ≤ lo) (e : q = pc + 3)
    (kk : ∀ x, WW G q lv ((an x).toList ++ st) (me x).1 (me x).2 (X' x)) : WW G pc lv stk I L (F.bind X') := by
  subst e
  intro b hb H locs ls hP hD hS hl
  obtain ⟨x, hx, hX⟩ := Option.bind_eq_some_iff.mp hb
  obtain ⟨c1, c2, c3, c4, c5⟩ := hf
  have hg : (gwd G I L)[p]? = some (gad G p, .inr (ci, fvs (gad G) (gR G) I L p ci)) := by rw [wd_get hk]; simp [ce, h8c]
  have hrc := va_recv hc.2.2.2.2.2.1 hP hv hg
  refine w_back (a := (trs (gad G) (.ref p :: args)).toArray) (F := F) hc (va_runV (C := y.cls) (b := gad G p) (As := trs (gad G) args) (n := n) ⟨hc.1, hc.2.1, hc.2.2.1, hc.2.2.2.1, hc.2.2.2.2.1⟩ (hM x hx (gD G) (gtc G) (gad G) H.size) ⟨callB_of n hc.2.2.2.2.1 (ws := Cond.code y cy maxL rt' :: wsA) (fun w hw => by
      rcases List.mem_cons.mp hw with rfl | h2
      · exact ⟨c1, good_of_word (wsA_good _ c1)⟩
      · exact ⟨h2, good_of_word (wsA_good _ h2)⟩) rfl rfl rfl (hc.2.2.2.2.1 _ c2) (hc.2.2.2.2.1 _ hw) ⟨c3, c4, c5⟩ ⟨by rw [hc.2.2.2.2.2.2.2.2.2.1.1]; exact hroom.1, by rw [hc.2.2.2.2.2.2.2.2.2.1.2.1]; exact hroom.2⟩, hc.2.2.2.2.1 _ hs.1, hc.2.2.2.2.1 _ hs.2⟩ ⟨PreU.blind, by rw [← hC]; exact hrc, w_pre (D := gD G) (tc := gtc G) hc hP hD hS (.ref p :: args)⟩ rfl (by simp [hn]) hl.1 (by rw [hstk]; simp [tr]) (by rw [cat_tr]; show 2 * 0 + _ ≤ 8; omega) hd ⟨hc.2.2.2.2.2.2.2.2.2.1.2.2.1, hc.2.2.2.2.2.2.2.2.2.1.2.2.2⟩) hD hS hl hX (kk x)
/-- ends -/
theorem w_rel {H : Heap} {locs : List Loc} (hc : Cx G cc own rt fr lo) (hP : va_P (gD G) vwCl (gwd G I L) H) (hD : va_D (gA G) (gwd G I L)) {v : Option Value} (hS : va_S (gA G) (gs G).heap H locs) : ∀ t : State, t.heap = H → (gs G).WarmedH t.vm → gQc v (RelU (gD G) (gtc G) (gad G) (gK G) (gR G) I L) (gA G) (ga G) (gs G) (.returned v) t := fun t ht hW =>
  ⟨⟨rfl, by rw [ht]; exact hP, va_K.moved hW.alike hc.2.2.2.2.2.1, hD.weaken (fun _ _ _ _ => trivial)⟩, hS.F ht⟩
theorem w_ireturn {an : β → Option Value} {me : β → Mm} {ty : FieldType} {v : Int32} {b0 : β} (hc : Cx G cc own (some ty) fr lo) (hq : RetQ G an me) (hd : decode cc pc = .ok (.ireturn, 1)) (hn : narrow ty (.int v) = .int v) (ha : an b0 = some (.int v)) (hm : me b0 = (I, L)) : WW G pc lv [.int v] I L (some b0) := by
  intro b hb H locs ls hP hD hS hl
  cases hb
  show W _ _ _ _ _ _ _ _ _ _ _ _ _ _ (gQ G b0) _
  rw [hq b0, ha, hm]
  exact W.zret hc.1 hc.2.1 hc.2.2.2.2.2.2.2.1 hn (w_rel hc hP hD hS) hS.2.2 hd hc.2.2.2.2.2.2.2.2.1
theorem w_lreturn {an : β → Option Value} {me : β → Mm} {v : Int64} {b0 : β} (hc : Cx G cc own (some .long) fr lo) (hq : RetQ G an me) (hd : decode cc pc = .ok (.lreturn, 1)) (ha : an b0 = some (.long v)) (hm : me b0 = (I, L)) : WW G pc lv [.long v] I L (some b0) := by
  intro b hb H locs ls hP hD hS hl
  cases hb
  show W _ _ _ _ _ _ _ _ _ _ _ _ _ _ (gQ G b0) _
  rw [hq b0, ha, hm]
  exact W.lret hc.1 hc.2.1 hc.2.2.2.2.2.2.2.1 (w_rel hc hP hD hS) hS.2.2 hd hc.2.2.2.2.2.2.2.2.1
theorem w_return {an : β → Option Value} {me : β → Mm} {b0 : β} (hc : Cx G cc own none fr lo) (hq : RetQ G an me) (hd : decode cc pc = .ok (.return_, 1)) (ha : an b0 = none) (hm : me b0 = (I, L)) : WW G pc lv [] I L (some b0) := by
  intro b hb H locs ls hP hD hS hl
  cases hb
  show W _ _ _ _ _ _ _ _ _ _ _ _ _ _ (gQ G b0) _
  rw [hq b0, ha, hm]
  exact W.vret hc.1 hc.2.1 hc.2.2.2.2.2.2.2.1 (w_rel hc hP hD hS) hS.2.2 hd hc.2.2.2.2.2.2.2.2.1
theorem nar_b2i (b : Bool) : narrow .boolean (.int (b2i b)) = .int (b2i b) := by cases b <;> decide +kernel
end WC
