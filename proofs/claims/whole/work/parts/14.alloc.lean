/-! methods that may make a new Roster: the room of it is told beside the memory; 0: there is none -/
def mcA (r r' : Nat) : Nat := if r' = r then 0 else 20
def msA (r r' : Nat) : Nat := if r' = r then 0 else 28 + 18 * r'
def rmA (fr lo : Nat) : Room := { frames := fr, cells := 20, slots := 90748, locals := lo }
theorem mcA_0 (r : Nat) : mcA r r = 0 := if_pos rfl
theorem msA_0 (r : Nat) : msA r r = 0 := if_pos rfl
theorem mcA_le (r r' : Nat) : mcA r r' ≤ 20 := by unfold mcA; split <;> omega
theorem msA_le {r r' : Nat} (h : r' ≤ 5040) : msA r r' ≤ 90748 := by unfold msA; split <;> omega
def agr (ad ad' : Nat → Nat) : Prop := ∀ p, p < 69 ∨ 1000000 ≤ p → ad' p = ad p
def QAc {γ : Type} (D : va_G) (tc : Nat → ClassId) (ad : Nat → Nat) (rm sz : Nat) (an : γ → Option Value) (me : γ → Mm) (ro : γ → Nat) (b : γ) : Array Value → State → Outcome → State → Prop := fun _ st oc t =>
  (∃ ad', agr ad ad' ∧ oc = .returned ((an b).map (tr ad')) ∧ RelU D tc ad' (lK (ro b)) (lR (ro b)) (me b).1 (me b).2 t ∧ ∀ p, p < (lK (ro b)).length → aA ad (lK rm) sz (ad' p)) ∧ va_F (aA ad (lK rm) sz) st t
def MFa {γ : Type} (l : Launch) (y : MethodName) (cy : ByteArray) (maxL : Nat) (rt : Option FieldType) (fr lo : Nat) (args : List Value) (rm : Nat) (I : MI) (L : ML) (an : γ → Option Value) (me : γ → Mm) (ro : γ → Nat) (X : Option γ) : Prop :=
  ∀ b, X = some b → ∀ (D : va_G) (tc : Nat → ClassId) (ad : Nat → Nat) (sz : Nat), Met l y (Cond.code y cy maxL rt :: wsA) (rmA fr lo) (va_Pc (trs ad args) (PreU D tc ad (lK rm) (lR rm) I L sz)) (QAc D tc ad rm sz an me ro b) (mcA rm (ro b)) (msA rm (ro b)) (aA ad (lK rm) sz)
def AXX {γ : Type} (G : GT γ) (ad0 : Nat → Nat) (rm0 rm : Nat) (an : γ → Option Value) (me : γ → Mm) (ro : γ → Nat) : Prop :=
  (∀ b, gQ G b = MQ (gbel G) (QAc (gD G) (gtc G) ad0 rm0 (gs G).heap.size an me ro b) (ga G) (gs G) (mcA rm0 (ro b)) (msA rm0 (ro b)) (aA ad0 (lK rm0) (gs G).heap.size)) ∧ agr ad0 (gad G) ∧ gA G = aA ad0 (lK rm0) (gs G).heap.size ∧ gK G = lK rm ∧ gR G = lR rm ∧ gcl G = mcA rm0 rm ∧ gsl G = msA rm0 rm
theorem mfa_of {γ : Type} {l : Launch} {y : MethodName} {cy : ByteArray} {maxL : Nat} {rt : Option FieldType} {fr lo : Nat} {args : List Value} {rm : Nat} {I : MI} {L : ML} {an : γ → Option Value} {me : γ → Mm} {ro : γ → Nat} {X : Option γ}
    (hy : plainFor y = true) (hn : (lg_sl args).length ≤ maxL)
    (body : ∀ (G : GT γ) (ad0 : Nat → Nat), Cx G cy y.cls rt fr lo → AXX G ad0 rm rm an me ro → gRm G = rmA fr lo → gnL G = maxL → WW G 0 (lv_args 0 args) [] I L X) : MFa l y cy maxL rt fr lo args rm I L an me ro X := by
  intro b hb D tc ad sz
  refine Met_ofWF (cc := cy) (maxL := maxL) (ret := rt) hy rfl ?_
  intro p e s m av below meth c s₁ B hml hv
  obtain ⟨rfl, hsz, ⟨hP, hK, hD0⟩, hE⟩ := hv
  subst hsz
  have hts := atoms_spec (ws := Cond.code y cy maxL rt :: wsA) B.pre
  rw [lg_entry_eq]
  have hl := lv_entry (trs ad args) (n := maxL) (by rw [lg_sl_tr]; exact hn)
  rw [lv_args_tr] at hl
  exact body ((p, l, e, (headSpec (Cond.code y cy maxL rt :: wsA) (rmA fr lo)).room, s, m, (trs ad args).toArray, below, meth, c), (D, tc, ad, aA ad (lK rm) s.heap.size), (maxL, 0, 0), (lK rm, lR rm), fun b => MQ below (QAc D tc ad rm s.heap.size an me ro b) (trs ad args).toArray s (mcA rm (ro b)) (msA rm (ro b)) (aA ad (lK rm) s.heap.size)) ad
    ⟨B.exec, B.bytes, hml, findClass_of_methodNamed B.named, fun w hw => hts w (List.mem_cons_of_mem _ hw), hK, fun q h => Or.inr h, B.returns, B.notSynchronized, ⟨rfl, rfl, Nat.zero_le _, Nat.zero_le _⟩, hE⟩
    ⟨fun _ => rfl, fun _ _ => rfl, rfl, rfl, rfl, (mcA_0 rm).symm, (msA_0 rm).symm⟩ rfl rfl b hb s.heap [] _ hP (aA_of hD0) va_S.rf hl
/-- a call whose callee's room is larger than what it makes -/
def PreOf2 (R rm : Room) (Pc : Array Value → State → Prop) : Pt → Array Value → Prop := fun A a => A.cells + rm.cells ≤ R.cells ∧ A.slots + rm.slots ≤ R.slots ∧ Pc a A.U
theorem back_of2 {l : Launch} {R : Room} {p : Program} {e : Env} {below : List Frame} {s : State} {sargs : Array Value} {y : MethodName} {len W : Nat} {ws : List Cond} {rm : Room} {Pc : Array Value → State → Prop} {Qc : Array Value → State → Outcome → State → Prop} {mc ms : Nat} {free : Addr → Prop} {bytes : ByteArray} {maxL : Nat} {ret : Option FieldType}
    (hM : Met l y ws rm Pc Qc mc ms free) (hblind : FrameBlind Pc) (hframes : rm.frames + 1 ≤ R.frames) (hlocals : W + (maxL + 11) + rm.locals ≤ R.locals)
    (hws : ∀ w ∈ ws, ∀ a' U, s.WarmedH U.vm → w.before a' U = true) (hcode : Cond.code y bytes maxL ret ∈ ws) (hinit : ∀ a' U, s.WarmedH U.vm → (Cond.initialized y.cls).before a' U = true) :
    Back l R p e below s sargs y len W (PreOf2 R rm Pc) (PostOf Qc mc ms free) := by
  refine Back.of_free (S := headSpec ws rm) (P := Pc) (K := fun _ _ _ _ _ => True) (Q := fun a st o t => Qc a st o t ∧ ∃ L, FrameEnd st o t L mc ms ∧ ∀ q ∈ L, free q.base) (bytes := bytes) (maxL := maxL) (ret := ret)
    (E := fun a st o t L k n => k = mc ∧ n = ms ∧ ∀ q ∈ L, free q.base) hM hframes hlocals ?_ ?_ (fun _ _ _ _ _ _ _ _ _ => trivial) ?_ ?_
  · intro m meth c A a X hp
    exact ⟨atoms_intro fun w hw => hws w hw _ _ X.warmed, hws _ hcode _ _ X.warmed, hinit _ _ X.warmed, hp.1, hp.2.1⟩
  · intro m meth c A a g mk X hp
    exact hblind _ _ _ _ hp.2.2
  · intro a st o t ⟨hq, L, hF, hL⟩
    exact ⟨L, mc, ms, hF, rfl, rfl, hL⟩
  · intro m meth c A a g mk v t L k n X hp hq hF ⟨e1, e2, hL⟩
    subst e1; subst e2
    exact ⟨g, mk, t, L, rfl, rfl, hq.1, rfl, hL, rfl, rfl⟩
section RA
variable {p : Program} {l : Launch} {e : Env} {R : Room} {s : State} {m : MethodId} {args : Array Value} {below : List Frame} {meth : Method} {c : Code} {H : Heap} {locs : List Loc} {cells slots : Nat}
theorem runV2 {y : MethodName} {bytes cc : ByteArray} {maxL nL mc ms n index : Nat} {ret : Option FieldType} {ws : List Cond} {rm : Room} {Pc : Array Value → State → Prop} {Qc : Array Value → State → Outcome → State → Prop} {free : Addr → Prop} {Ts : List Cond} {own C : String} {b : Addr} {As rest : List Value} {g : JFrame}
    (S : CallFix p m c cc nL s args Ts own) (hM : Met l y ws rm Pc Qc mc ms free) (cw : CallW R s args own C index y bytes maxL ret ws rm rm.cells rm.slots n) (hp : PreV s H C b Pc As)
    (hg : g.method = m) (hn : As.length = n) (hsize : g.locals.size = nL) (hstack : g.stack = As.reverse ++ .ref b :: rest) (hW : 2 * g.monitorRoom + (rest.map fun v => v.category).sum ≤ 8) (hdg : decode cc g.pc = .ok (.invokevirtual index, 3)) (hf : cells + rm.cells ≤ R.cells ∧ slots + rm.slots ≤ R.slots) :
    va_Run p l e R s m args below meth c H locs cells slots mc ms g rest (Qc (Value.ref b :: As).toArray) free := by
  obtain ⟨⟨-, -, hfr, hlo, hws, hcw, hcode, hini, hy, hlen, hl⟩, hin, hse⟩ := cw
  have hK : Back l R p e below s args y 3 8 (PreOf2 R rm Pc) (PostOf Qc mc ms free) := back_of2 (bytes := bytes) (maxL := maxL) (ret := ret) hM hp.1 hfr hlo hws hcw (fun a' U hW => word_at hW (Or.inl (by first | rfl | simp [Cond.onTables, Cond.keeps, Cond.steady])) hini)
  obtain ⟨hx, hb, hml, ho, -⟩ := S
  obtain ⟨-, ⟨cellB, hcB, hoB, hclB⟩, hPc⟩ := hp
  intro T hT X
  obtain ⟨v, vm₁, ⟨U', l2, c2, s2⟩, hW₁, X', ⟨g', mk, t, L, e1, e2, hq, h1, hL, h2, h3⟩, st⟩ := callV X hx (C := C) (bytes := bytes) (maxL := maxL) (ret := ret) ho hl hin hse hcode hy hK (by rw [hT]; exact hcB) hoB hclB hg (hsize.trans hml.symm) (argsL := As) (rest := rest) (fun sig h => hn.trans (hlen sig h)) hstack hW (by rw [hb]; exact hdg)
    (fun vm₁ hW₁ => ⟨hf.1, hf.2, hPc (T.setVm vm₁) hT hW₁⟩)
  dsimp only [Pt.U, Pt.locs, Pt.cells, Pt.slots] at X' e1 e2 h1 h2 h3 st
  subst h1; subst h2; subst h3
  exact ⟨v, (T.setVm vm₁).calling g' mk (Value.ref b :: As).toArray, t, U', L, hT, X', hL, e1, e2, hq, st⟩
end RA
/-- references in a list are of places that stay -/
def okv (v : Value) : Bool := match v with
  | .ref p => decide (p < 69) || decide (1000000 ≤ p)
  | _ => true
def oks (st : List Value) : Bool := st.all okv
def okl (lv : List (Nat × Value)) : Bool := lv.all (fun q => okv q.2)
theorem tr_agr {ad ad' : Nat → Nat} (h : agr ad ad') {v : Value} (hv : okv v = true) : tr ad' v = tr ad v := by
  cases v with
  | ref p =>
    have : p < 69 ∨ 1000000 ≤ p := by simpa [okv] using hv
    show Value.ref (ad' p) = Value.ref (ad p)
    rw [h p this]
  | _ => rfl
theorem trs_agr {ad ad' : Nat → Nat} (h : agr ad ad') {st : List Value} (hv : oks st = true) : trs ad' st = trs ad st := by
  apply List.map_congr_left
  intro v hm
  exact tr_agr h (List.all_eq_true.mp hv v hm)
theorem trl_agr {ad ad' : Nat → Nat} (h : agr ad ad') {lv : List (Nat × Value)} (hv : okl lv = true) : trl ad' lv = trl ad lv := by
  apply List.map_congr_left
  intro q hm
  rw [tr_agr h (List.all_eq_true.mp hv q hm)]
theorem Ex.agr {ad ad' : Nat → Nat} {A : Nat → Prop} {U : State} (h : agr ad ad') (hE : Ex ad A U) : Ex ad' A U := by
  have e1 : sK ad' = sK ad := by funext i; exact h _ (Or.inr (by omega))
  have e2 : sV ad' = sV ad := by funext i; exact h _ (Or.inr (by omega))
  have e3 : ad' 3000000 = ad 3000000 := h _ (Or.inr (by omega))
  unfold Ex at hE ⊢
  rw [e1, e2, e3]
  exact hE
def gset {β : Type} (G : GT β) (ad : Nat → Nat) (rm rm0 : Nat) : GT β := (G.1, (gD G, gtc G, ad, gA G), (gnL G, mcA rm0 rm, msA rm0 rm), (lK rm, lR rm), gQ G)
section WA
variable {β : Type} {G : GT β} {cc : ByteArray} {own : String} {rt : Option FieldType} {fr lo pc q : Nat} {lv : List (Nat × Value)} {st : List Value} {I : MI} {L : ML} {X : Option β}
theorem w_chk {c : Bool} (kk : c = true → WW G pc lv st I L X) : WW G pc lv st I L (chk c X) := by
  intro b hb
  obtain ⟨h1, h2⟩ := chk_t hb
  exact kk h1 b h2
theorem w_callA {γ : Type} {an : γ → Option Value} {me : γ → Mm} {ro : γ → Nat} {F : Option γ} {X' : γ → Option β} {an' : β → Option Value} {me' : β → Mm} {ro' : β → Nat} {ad0 : Nat → Nat} {rm : Nat} {y : MethodName} {cy : ByteArray} {maxL fr' lo' idx n p ci k0 N : Nat} {C : String} {T : u_T} {rt' : Option FieldType} {args stk : List Value} (hc : Cx G cc own rt fr lo) (hX : AXX G ad0 rm rm an' me' ro') (hRm : gRm G = rmA fr lo) {nL0 : Nat} (hn0 : gnL G = nL0) (hM : MFa (gl G) y cy maxL rt' fr' lo' (.ref p :: args) rm I L an me ro F)
    (hd : decode cc pc = .ok (.invokevirtual idx, 3)) (hw : Cond.methodLink own idx y ∈ wsA) (hf : CalF y cy maxL rt' n) (hs : Cond.instanceMethod y ∈ wsA ∧ Cond.selects y.cls y y ∈ wsA) (hk : (gK G)[p]? = some (ci, k0)) (hv : vwCl[ci]? = some (C, T, N)) (hC : C = y.cls) (h8c : ci < 8) (hn : args.length = n) (hstk : stk = args.reverse ++ .ref p :: st) (h8 : (st.map fun v => v.category).sum ≤ 8) (hroom : fr' + 1 ≤ fr ∧ 8 + (maxL + 11) + lo' ≤ lo) (hol : okl lv = true) (hos : oks st = true) (e : q = pc + 3)
    (kk : ∀ (x : γ) (G : GT β), Cx G cc own rt fr lo → AXX G ad0 rm (ro x) an' me' ro' → gRm G = rmA fr lo → gnL G = nL0 → WW G q lv ((an x).toList ++ st) (me x).1 (me x).2 (X' x)) : WW G pc lv stk I L (F.bind fun x => chk (decide (ro x ≤ 5040)) (X' x)) := by
  subst e
  intro b hb H locs ls hP hD hS hl
  obtain ⟨x, hx, hX1⟩ := Option.bind_eq_some_iff.mp hb
  obtain ⟨hle, hX2⟩ := chk_t hX1
  have hle : ro x ≤ 5040 := of_decide_eq_true hle
  obtain ⟨c1, c2, c3, c4, c5⟩ := hf
  obtain ⟨hQ, hag, hAe, hKe, hRe, hcl, hsl⟩ := hX
  have hcl0 : gcl G = 0 := hcl.trans (mcA_0 rm)
  have hsl0 : gsl G = 0 := hsl.trans (msA_0 rm)
  have hg : (gwd G I L)[p]? = some (gad G p, .inr (ci, fvs (gad G) (gR G) I L p ci)) := by rw [wd_get hk]; simp [ce, h8c]
  have hrc := va_recv hc.2.2.2.2.2.1 hP hv hg
  have hpre := w_pre (D := gD G) (tc := gtc G) hc hP hD hS (.ref p :: args)
  have hMet := hM x hx (gD G) (gtc G) (gad G) H.size
  rw [← hKe, ← hRe] at hMet
  have hr := runV2 (C := y.cls) (b := gad G p) (As := trs (gad G) args) (rest := trs (gad G) st) (n := n) (g := F0 (gm G) pc ls (trs (gad G) stk)) (e := ge G) (R := gRm G) (below := gbel G) (meth := gme G) (H := H) (locs := locs) (cells := gcl G) (slots := gsl G) ⟨hc.1, hc.2.1, hc.2.2.1, hc.2.2.2.1, hc.2.2.2.2.1⟩ hMet ⟨callB_of n hc.2.2.2.2.1 (ws := Cond.code y cy maxL rt' :: wsA) (fun w hw => by
      rcases List.mem_cons.mp hw with rfl | h2
      · exact ⟨c1, good_of_word (wsA_good _ c1)⟩
      · exact ⟨h2, good_of_word (wsA_good _ h2)⟩) rfl rfl rfl (hc.2.2.2.2.1 _ c2) (hc.2.2.2.2.1 _ hw) ⟨c3, c4, c5⟩ ⟨by rw [hRm]; exact hroom.1, by rw [hRm]; exact hroom.2⟩, hc.2.2.2.2.1 _ hs.1, hc.2.2.2.2.1 _ hs.2⟩ ⟨PreU.blind, by rw [← hC]; exact hrc, hpre⟩ rfl (by simp [hn]) hl.1 (by rw [hstk]; simp [tr]) (by rw [cat_tr]; show 2 * 0 + _ ≤ 8; omega) hd ⟨by rw [hcl0, hRm]; exact Nat.le_of_ble_eq_true rfl, by rw [hsl0, hRm]; exact Nat.le_of_ble_eq_true rfl⟩
  have hAA : ∀ q, aA (gad G) (gK G) H.size q → gA G q := by
    intro q h
    rcases h with ⟨p, hp, rfl⟩ | h
    · exact hD.2 p _ (wd_get (List.getElem?_eq_getElem hp))
    · exact hc.2.2.2.2.2.2.1 q (Nat.le_trans hS.1 h)
  intro T hT X0
  obtain ⟨v, st₀, t, T', Lc, h0, X', hL, e1, e2, ⟨⟨ad', hag', hv', hB, hin⟩, hz, hkp⟩, hst⟩ := hr T hT X0
  cases hv'
  rw [h0] at hz hkp
  rw [← hKe] at hkp
  rw [← hKe] at hin
  have hS' : va_S (gA G) (gs G).heap T'.heap (locs ++ Lc) := ⟨Nat.le_trans hS.1 (by rw [e1]; exact hz), fun q h1 h2 => by rw [e1, hkp q (Nat.lt_of_lt_of_le h1 hS.1) (fun z => h2 (hAA q z))]; exact hS.2.1 q h1 h2, fun q hq => by
      rcases List.mem_append.mp hq with h | h
      · exact hS.2.2 q h
      · exact hAA _ (hL q h)⟩
  have hD' : va_D (gA G) (wd (gtc G) ad' (lK (ro x)) (lR (ro x)) (me x).1 (me x).2) := ⟨hB.2.2.1, fun k q hk => by
    have h2 : k < (lK (ro x)).length := by
      have := (List.getElem?_eq_some_iff.mp hk).1
      simpa [wd] using this
    rw [wd_get (List.getElem?_eq_getElem h2)] at hk
    cases hk
    exact hAA _ (hin k h2)⟩
  have h9 := kk x (gset G ad' (ro x) rm) ⟨hc.1, hc.2.1, hc.2.2.1, hc.2.2.2.1, hc.2.2.2.2.1, hc.2.2.2.2.2.1, hc.2.2.2.2.2.2.1, hc.2.2.2.2.2.2.2.1, hc.2.2.2.2.2.2.2.2.1, ⟨hc.2.2.2.2.2.2.2.2.2.1.1, hc.2.2.2.2.2.2.2.2.2.1.2.1, by show mcA rm (ro x) ≤ (gRm G).cells; rw [hRm]; exact mcA_le _ _, by show msA rm (ro x) ≤ (gRm G).slots; rw [hRm]; exact msA_le hle⟩, hc.2.2.2.2.2.2.2.2.2.2.agr hag'⟩
    ⟨hQ, fun p hp => (hag' p hp).trans (hag p hp), hAe, rfl, rfl, rfl, rfl⟩ hRm hn0 b hX2 T'.heap (locs ++ Lc) ls (by rw [e1]; exact hB.1) hD' hS' (by show lv_has ls (gnL G) (trl ad' lv); rw [trl_agr hag' hol]; exact hl)
  have X2 : Stand (gp G) (gl G) (ge G) (gRm G) (gs G) (gm G) (ga G) (gbel G) (gme G) (gc G) T' (locs ++ Lc) (mcA rm (ro x)) (msA rm (ro x)) := by
    have := X'
    rwa [hcl0, hsl0, Nat.zero_add, Nat.zero_add] at this
  obtain ⟨t2, a1, b1⟩ := h9 T' rfl X2
  refine ⟨t2, hst t2 ?_, b1⟩
  have ee : trs ad' ((an x).toList ++ st) = ((an x).map (tr ad')).toList ++ trs (gad G) st := by
    have h1 := trs_agr hag' hos
    show List.map (tr ad') _ = _
    rw [List.map_append]
    rw [show List.map (tr ad') st = trs (gad G) st from h1]
    cases an x <;> simp
  have a2 : Steps (gp G).tables (ge G) (gbel G) (T'.setTop (F0 (gm G) (pc + 3) ls (trs ad' ((an x).toList ++ st)))) t2 := a1
  rw [ee] at a2
  exact a2
theorem w_relA {an : β → Option Value} {me : β → Mm} {ro : β → Nat} {ad0 : Nat → Nat} {rm0 rm : Nat} {b0 : β} {H : Heap} {locs : List Loc} (hc : Cx G cc own rt fr lo) (hX : AXX G ad0 rm0 rm an me ro) (hm : me b0 = (I, L)) (hr : ro b0 = rm) (hP : va_P (gD G) vwCl (gwd G I L) H) (hD : va_D (gA G) (gwd G I L)) (hS : va_S (gA G) (gs G).heap H locs) : ∀ t : State, t.heap = H → (gs G).WarmedH t.vm → QAc (gD G) (gtc G) ad0 rm0 (gs G).heap.size an me ro b0 (ga G) (gs G) (.returned ((an b0).map (tr (gad G)))) t := by
  obtain ⟨hQ, hag, hAe, hKe, hRe, hcl, hsl⟩ := hX
  intro t ht hW
  rw [hAe] at hS hD
  refine ⟨⟨gad G, hag, rfl, ⟨?_, va_K.moved hW.alike hc.2.2.2.2.2.1, ?_⟩, ?_⟩, hS.F ht⟩
  · rw [ht, hm, hr, ← hKe, ← hRe]; exact hP
  · rw [hm, hr, ← hKe, ← hRe]; exact hD.weaken (fun _ _ _ _ => trivial)
  · intro p hp
    rw [hr, ← hKe] at hp
    exact hD.2 p _ (wd_get (List.getElem?_eq_getElem hp))
theorem w_ireturnA {an : β → Option Value} {me : β → Mm} {ro : β → Nat} {ad0 : Nat → Nat} {rm0 rm : Nat} {ty : FieldType} {v : Int32} {b0 : β} (hc : Cx G cc own (some ty) fr lo) (hX : AXX G ad0 rm0 rm an me ro) (hd : decode cc pc = .ok (.ireturn, 1)) (hn : narrow ty (.int v) = .int v) (ha : an b0 = some (.int v)) (hm : me b0 = (I, L)) (hr : ro b0 = rm) : WW G pc lv [.int v] I L (some b0) := by
  intro b hb H locs ls hP hD hS hl
  cases hb
  have hrel := w_relA hc hX hm hr hP hD hS
  rw [ha] at hrel
  show W _ _ _ _ _ _ _ _ _ _ _ _ _ _ (gQ G b0) _
  rw [hX.1 b0, hr, ← hX.2.2.2.2.2.1, ← hX.2.2.2.2.2.2]
  exact W.zret hc.1 hc.2.1 hc.2.2.2.2.2.2.2.1 hn hrel (by rw [← hX.2.2.1]; exact hS.2.2) hd hc.2.2.2.2.2.2.2.2.1
theorem w_lreturnA {an : β → Option Value} {me : β → Mm} {ro : β → Nat} {ad0 : Nat → Nat} {rm0 rm : Nat} {v : Int64} {b0 : β} (hc : Cx G cc own (some .long) fr lo) (hX : AXX G ad0 rm0 rm an me ro) (hd : decode cc pc = .ok (.lreturn, 1)) (ha : an b0 = some (.long v)) (hm : me b0 = (I, L)) (hr : ro b0 = rm) : WW G pc lv [.long v] I L (some b0) := by
  intro b hb H locs ls hP hD hS hl
  cases hb
  have hrel := w_relA hc hX hm hr hP hD hS
  rw [ha] at hrel
  show W _ _ _ _ _ _ _ _ _ _ _ _ _ _ (gQ G b0) _
  rw [hX.1 b0, hr, ← hX.2.2.2.2.2.1, ← hX.2.2.2.2.2.2]
  exact W.lret hc.1 hc.2.1 hc.2.2.2.2.2.2.2.1 hrel (by rw [← hX.2.2.1]; exact hS.2.2) hd hc.2.2.2.2.2.2.2.2.1
theorem w_areturnA {an : β → Option Value} {me : β → Mm} {ro : β → Nat} {ad0 : Nat → Nat} {rm0 rm p : Nat} {t : String} {b0 : β} (hc : Cx G cc own (some (.object t)) fr lo) (hX : AXX G ad0 rm0 rm an me ro) (hd : decode cc pc = .ok (.areturn, 1)) (ha : an b0 = some (.ref p)) (hm : me b0 = (I, L)) (hr : ro b0 = rm) : WW G pc lv [.ref p] I L (some b0) := by
  intro b hb H locs ls hP hD hS hl
  cases hb
  have hrel := w_relA hc hX hm hr hP hD hS
  rw [ha] at hrel
  show W _ _ _ _ _ _ _ _ _ _ _ _ _ _ (gQ G b0) _
  rw [hX.1 b0, hr, ← hX.2.2.2.2.2.1, ← hX.2.2.2.2.2.2]
  exact W.aret hc.1 hc.2.1 hc.2.2.2.2.2.2.2.1 (Or.inl ⟨_, rfl⟩) (Or.inr ⟨_, rfl⟩) hrel (by rw [← hX.2.2.1]; exact hS.2.2) hd hc.2.2.2.2.2.2.2.2.1
end WA
abbrev anIA (x : (Int32 × Mm) × Nat) : Option Value := some (.int x.1.1)
abbrev anLA (x : (Int64 × Mm) × Nat) : Option Value := some (.long x.1.1)
abbrev anRA (x : Mm × Nat) : Option Value := some (.ref 69)
abbrev meA {γ : Type} (x : (γ × Mm) × Nat) : Mm := x.1.2
abbrev meB (x : Mm × Nat) : Mm := x.1
abbrev roA {γ : Type} (x : γ × Nat) : Nat := x.2
section WA2
variable {β : Type} {G : GT β} {cc : ByteArray} {own : String} {rt : Option FieldType} {fr lo pc q : Nat} {lv : List (Nat × Value)} {st : List Value} {I : MI} {L : ML} {X : Option β}
theorem w_callA_i {F : Option ((Int32 × Mm) × Nat)} {X' : ((Int32 × Mm) × Nat) → Option β} {an' : β → Option Value} {me' : β → Mm} {ro' : β → Nat} {ad0 : Nat → Nat} {rm : Nat} {y : MethodName} {cy : ByteArray} {maxL fr' lo' idx n p ci k0 N : Nat} {C : String} {T : u_T} {rt' : Option FieldType} {args stk : List Value} (hc : Cx G cc own rt fr lo) (hX : AXX G ad0 rm rm an' me' ro') (hRm : gRm G = rmA fr lo) {nL0 : Nat} (hn0 : gnL G = nL0) (hM : MFa (gl G) y cy maxL rt' fr' lo' (.ref p :: args) rm I L anIA meA roA F)
    (hd : decode cc pc = .ok (.invokevirtual idx, 3)) (hw : Cond.methodLink own idx y ∈ wsA) (hf : CalF y cy maxL rt' n) (hs : Cond.instanceMethod y ∈ wsA ∧ Cond.selects y.cls y y ∈ wsA) (hk : (gK G)[p]? = some (ci, k0)) (hv : vwCl[ci]? = some (C, T, N)) (hC : C = y.cls) (h8c : ci < 8) (hn : args.length = n) (hstk : stk = args.reverse ++ .ref p :: st) (h8 : (st.map fun v => v.category).sum ≤ 8) (hroom : fr' + 1 ≤ fr ∧ 8 + (maxL + 11) + lo' ≤ lo) (hol : okl lv = true) (hos : oks st = true) (e : q = pc + 3)
    (kk : ∀ (x : ((Int32 × Mm) × Nat)) (G : GT β), Cx G cc own rt fr lo → AXX G ad0 rm x.2 an' me' ro' → gRm G = rmA fr lo → gnL G = nL0 → WW G q lv (.int x.1.1 :: st) x.1.2.1 x.1.2.2 (X' x)) : WW G pc lv stk I L (F.bind fun x => chk (decide (x.2 ≤ 5040)) (X' x)) := w_callA hc hX hRm hn0 hM hd hw hf hs hk hv hC h8c hn hstk h8 hroom hol hos e kk
theorem w_callA_r {F : Option (Mm × Nat)} {X' : (Mm × Nat) → Option β} {an' : β → Option Value} {me' : β → Mm} {ro' : β → Nat} {ad0 : Nat → Nat} {rm : Nat} {y : MethodName} {cy : ByteArray} {maxL fr' lo' idx n p ci k0 N : Nat} {C : String} {T : u_T} {rt' : Option FieldType} {args stk : List Value} (hc : Cx G cc own rt fr lo) (hX : AXX G ad0 rm rm an' me' ro') (hRm : gRm G = rmA fr lo) {nL0 : Nat} (hn0 : gnL G = nL0) (hM : MFa (gl G) y cy maxL rt' fr' lo' (.ref p :: args) rm I L anRA meB roA F)
    (hd : decode cc pc = .ok (.invokevirtual idx, 3)) (hw : Cond.methodLink own idx y ∈ wsA) (hf : CalF y cy maxL rt' n) (hs : Cond.instanceMethod y ∈ wsA ∧ Cond.selects y.cls y y ∈ wsA) (hk : (gK G)[p]? = some (ci, k0)) (hv : vwCl[ci]? = some (C, T, N)) (hC : C = y.cls) (h8c : ci < 8) (hn : args.length = n) (hstk : stk = args.reverse ++ .ref p :: st) (h8 : (st.map fun v => v.category).sum ≤ 8) (hroom : fr' + 1 ≤ fr ∧ 8 + (maxL + 11) + lo' ≤ lo) (hol : okl lv = true) (hos : oks st = true) (e : q = pc + 3)
    (kk : ∀ (x : (Mm × Nat)) (G : GT β), Cx G cc own rt fr lo → AXX G ad0 rm x.2 an' me' ro' → gRm G = rmA fr lo → gnL G = nL0 → WW G q lv (.ref 69 :: st) x.1.1 x.1.2 (X' x)) : WW G pc lv stk I L (F.bind fun x => chk (decide (x.2 ≤ 5040)) (X' x)) := w_callA hc hX hRm hn0 hM hd hw hf hs hk hv hC h8c hn hstk h8 hroom hol hos e kk
end WA2
