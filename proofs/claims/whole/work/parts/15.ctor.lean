/-! constructors: the world grows along a plan KB of places, references are put along a list RL -/
abbrev RLT : Type := List ((Nat × Nat) × Nat)
def Rp (RL : RLT) (Rb : MR) (m : Nat) : MR := fun p k => match (RL.take m).find? (fun e => e.1 == (p, k)) with
  | some e => some e.2
  | none => Rb p k
theorem Rp_put {RL : RLT} {Rb : MR} {m p k q : Nat} (h : RL[m]? = some ((p, k), q)) (hn : (RL.take m).find? (fun e => e.1 == (p, k)) = none) : up2 (Rp RL Rb m) p k (some q) = Rp RL Rb (m + 1) := by
  funext a b
  have ht : RL.take (m + 1) = RL.take m ++ [((p, k), q)] := by rw [List.take_succ, h]; rfl
  show (if a = p then (if b = k then some q else Rp RL Rb m a b) else Rp RL Rb m a b) = _
  unfold Rp
  rw [ht, List.find?_append]
  by_cases h1 : a = p
  · subst h1
    by_cases h2 : b = k
    · subst h2; simp [hn]
    · have h3 : (((a, k) : Nat × Nat) == (a, b)) = false := by simp; exact fun z => h2 z.symm
      rw [if_pos rfl, if_neg h2]
      simp only [List.find?_cons, h3, List.find?_nil, Option.or_none]
  · have h3 : (((p, k) : Nat × Nat) == (a, b)) = false := by simp; exact fun z => absurd z.symm h1
    rw [if_neg h1]
    simp only [List.find?_cons, h3, List.find?_nil, Option.or_none]
def agrn (n : Nat) (ad ad' : Nat → Nat) : Prop := ∀ p, p < n ∨ 1000000 ≤ p → ad' p = ad p
def QSc (D : va_G) (tc : Nat → ClassId) (ad : Nat → Nat) (KB : KT) (RL : RLT) (Rb : MR) (n sz n' m' : Nat) (b : Mm) : Array Value → State → Outcome → State → Prop := fun _ st oc t =>
  (∃ ad', agrn n ad ad' ∧ oc = .returned none ∧ RelU D tc ad' (KB.take n') (Rp RL Rb m') b.1 b.2 t ∧ ∀ p, p < (KB.take n').length → aA ad (KB.take n) sz (ad' p)) ∧ va_F (aA ad (KB.take n) sz) st t
def rmS (fr lo mc ms : Nat) : Room := { frames := fr, cells := mc, slots := ms, locals := lo }
/-- a constructor's contract: from n places and m references to n' and m' -/
def MFs (l : Launch) (y : MethodName) (cy : ByteArray) (maxL fr lo mc ms : Nat) (args : List Value) (KB : KT) (RL : RLT) (Rb : MR) (n m n' m' : Nat) (I : MI) (L : ML) (X : Option Mm) : Prop :=
  ∀ b, X = some b → ∀ (D : va_G) (tc : Nat → ClassId) (ad : Nat → Nat) (sz : Nat), Met l y (Cond.code y cy maxL none :: wsA) (rmS fr lo mc ms) (va_Pc (trs ad args) (PreU D tc ad (KB.take n) (Rp RL Rb m) I L sz)) (QSc D tc ad KB RL Rb n sz n' m' b) mc ms (aA ad (KB.take n) sz)
/-- what stays while a constructor is walked: n0 places at its start, n now; c cells, s slots made -/
def SXX (G : GT Mm) (ad0 : Nat → Nat) (KB : KT) (RL : RLT) (Rb : MR) (n0 n1 m1 mc ms n m c s : Nat) : Prop :=
  (∀ b, gQ G b = MQ (gbel G) (QSc (gD G) (gtc G) ad0 KB RL Rb n0 (gs G).heap.size n1 m1 b) (ga G) (gs G) mc ms (aA ad0 (KB.take n0) (gs G).heap.size)) ∧ agrn n0 ad0 (gad G) ∧ gA G = aA ad0 (KB.take n0) (gs G).heap.size ∧ gK G = KB.take n ∧ gR G = Rp RL Rb m ∧ gcl G = c ∧ gsl G = s ∧ n0 ≤ n ∧ (gme G).name = "<init>"
theorem mfs_of {l : Launch} {y : MethodName} {cy : ByteArray} {maxL fr lo mc ms : Nat} {args : List Value} {KB : KT} {RL : RLT} {Rb : MR} {n m n' m' : Nat} {I : MI} {L : ML} {X : Option Mm}
    (hy : plainFor y = true) (hyn : y.name = "<init>") (hn : (lg_sl args).length ≤ maxL)
    (body : ∀ (G : GT Mm) (ad0 : Nat → Nat), Cx G cy y.cls none fr lo → SXX G ad0 KB RL Rb n n' m' mc ms n m 0 0 → gRm G = rmS fr lo mc ms → gnL G = maxL → WW G 0 (lv_args 0 args) [] I L X) : MFs l y cy maxL fr lo mc ms args KB RL Rb n m n' m' I L X := by
  intro b hb D tc ad sz
  refine Met_ofWF (cc := cy) (maxL := maxL) (ret := none) hy rfl ?_
  intro p e s m9 av below meth c s₁ B hml hv
  obtain ⟨rfl, hsz, ⟨hP, hK, hD0⟩, hE⟩ := hv
  subst hsz
  have hts := atoms_spec (ws := Cond.code y cy maxL none :: wsA) B.pre
  rw [lg_entry_eq]
  have hl := lv_entry (trs ad args) (n := maxL) (by rw [lg_sl_tr]; exact hn)
  rw [lv_args_tr] at hl
  exact body ((p, l, e, (headSpec (Cond.code y cy maxL none :: wsA) (rmS fr lo mc ms)).room, s, m9, (trs ad args).toArray, below, meth, c), (D, tc, ad, aA ad (KB.take n) s.heap.size), (maxL, 0, 0), (KB.take n, Rp RL Rb m), fun b => MQ below (QSc D tc ad KB RL Rb n s.heap.size n' m' b) (trs ad args).toArray s mc ms (aA ad (KB.take n) s.heap.size)) ad
    ⟨B.exec, B.bytes, hml, findClass_of_methodNamed B.named, fun w hw => hts w (List.mem_cons_of_mem _ hw), hK, fun q h => Or.inr h, B.returns, B.notSynchronized, ⟨rfl, rfl, Nat.zero_le _, Nat.zero_le _⟩, hE⟩
    ⟨fun _ => rfl, fun _ _ => rfl, rfl, rfl, rfl, rfl, rfl, Nat.le_refl _, hyn ▸ (name_of_methodNamed B.named B.method).1⟩ rfl rfl b hb s.heap [] _ hP (aA_of hD0) va_S.rf hl
def gsetS {β : Type} (G : GT β) (ad : Nat → Nat) (K : KT) (R : MR) (c s : Nat) : GT β := (G.1, (gD G, gtc G, ad, gA G), (gnL G, c, s), (K, R), gQ G)
def oknv (n : Nat) (v : Value) : Bool := match v with
  | .ref p => decide (p < n) || decide (1000000 ≤ p)
  | _ => true
theorem tr_agrn {n : Nat} {ad ad' : Nat → Nat} (h : agrn n ad ad') {v : Value} (hv : oknv n v = true) : tr ad' v = tr ad v := by
  cases v with
  | ref p =>
    have : p < n ∨ 1000000 ≤ p := by simpa [oknv] using hv
    show Value.ref (ad' p) = Value.ref (ad p)
    rw [h p this]
  | _ => rfl
theorem trs_agrn {n : Nat} {ad ad' : Nat → Nat} (h : agrn n ad ad') {st : List Value} (hv : st.all (oknv n) = true) : trs ad' st = trs ad st := by
  apply List.map_congr_left
  intro v hm
  exact tr_agrn h (List.all_eq_true.mp hv v hm)
theorem trl_agrn {n : Nat} {ad ad' : Nat → Nat} (h : agrn n ad ad') {lv : List (Nat × Value)} (hv : lv.all (fun q => oknv n q.2) = true) : trl ad' lv = trl ad lv := by
  apply List.map_congr_left
  intro q hm
  rw [tr_agrn h (List.all_eq_true.mp hv q hm)]
theorem Ex.agrn {n : Nat} {ad ad' : Nat → Nat} {A : Nat → Prop} {U : State} (h : agrn n ad ad') (hE : Ex ad A U) : Ex ad' A U := by
  have e1 : sK ad' = sK ad := by funext i; exact h _ (Or.inr (by omega))
  have e2 : sV ad' = sV ad := by funext i; exact h _ (Or.inr (by omega))
  have e3 : ad' 3000000 = ad 3000000 := h _ (Or.inr (by omega))
  unfold Ex at hE ⊢
  rw [e1, e2, e3]
  exact hE
/-- one cell more: the address of place n is q -/
def adn (ad : Nat → Nat) (n q : Nat) : Nat → Nat := fun p => if p = n then q else ad p
theorem adn_agr {ad : Nat → Nat} {n q : Nat} (hn : n < 1000000) : agrn n ad (adn ad n q) := fun p hp => by
  have : p ≠ n := by omega
  simp [adn, this]
theorem ce_adn {tc : Nat → ClassId} {ad : Nat → Nat} {R : MR} {I : MI} {L : ML} {p n q : Nat} (h : ∀ j, R p j ≠ some n) (k : Nat × Nat) : ce tc (adn ad n q) R I L p k = ce tc ad R I L p k := by
  have hm : ∀ j, (R p j).map (adn ad n q) = (R p j).map ad := by
    intro j
    cases hr : R p j with
    | none => rfl
    | some r =>
      have : r ≠ n := fun z => h j (by rw [hr, z])
      simp [adn, this]
  simp only [ce, fvs, fv, hm]
theorem wd_push {tc : Nat → ClassId} {ad : Nat → Nat} {K : KT} {R : MR} {I : MI} {L : ML} {k : Nat × Nat} {q : Nat} (hR : ∀ p j, p < K.length → R p j ≠ some K.length) : wd tc (adn ad K.length q) (K ++ [k]) R I L = wd tc ad K R I L ++ [(q, ce tc (adn ad K.length q) R I L K.length k)] := by
  unfold wd
  rw [List.mapIdx_append]
  congr 1
  · apply List.ext_getElem?
    intro j
    rw [List.getElem?_mapIdx, List.getElem?_mapIdx]
    cases hj : K[j]? with
    | none => rfl
    | some x =>
      have hlt : j < K.length := (List.getElem?_eq_some_iff.mp hj).1
      have hne : j ≠ K.length := by omega
      simp only [Option.map_some]
      rw [ce_adn (fun i => hR j i hlt)]
      simp [adn, hne]
  · simp [adn]
theorem take_push {KB : KT} {n : Nat} {k : Nat × Nat} (h : KB[n]? = some k) : KB.take (n + 1) = KB.take n ++ [k] ∧ (KB.take n).length = n := by
  have hlt : n < KB.length := (List.getElem?_eq_some_iff.mp h).1
  refine ⟨by rw [List.take_succ, h]; rfl, by rw [List.length_take]; omega⟩
theorem va_D_map {A : Nat → Prop} {w w' : va_W} (h : w'.map Prod.fst = w.map Prod.fst) (hD : va_D A w) : va_D A w' := by
  have key : ∀ (k : Nat) (q : Nat × va_E), w'[k]? = some q → ∃ q', w[k]? = some q' ∧ q'.1 = q.1 := by
    intro k q hk
    have h1 : (w'.map Prod.fst)[k]? = some q.1 := by rw [List.getElem?_map, hk]; rfl
    rw [h, List.getElem?_map] at h1
    cases hw : w[k]? with
    | none => rw [hw] at h1; cases h1
    | some q' => rw [hw] at h1; exact ⟨q', rfl, by simpa using h1⟩
  refine ⟨fun i j p q hi hj e => ?_, fun k q hk => ?_⟩
  · obtain ⟨p', a1, a2⟩ := key i p hi
    obtain ⟨q', b1, b2⟩ := key j q hj
    exact hD.1 i j p' q' a1 b1 (by rw [a2, b2]; exact e)
  · obtain ⟨q', b1, b2⟩ := key k q hk
    rw [← b2]; exact hD.2 k q' b1
section WK
variable {G : GT Mm} {cc : ByteArray} {own : String} {fr lo pc q : Nat} {lv : List (Nat × Value)} {st : List Value} {I : MI} {L : ML} {X : Option Mm} {ad0 : Nat → Nat} {KB : KT} {RL : RLT} {Rb : MR} {n0 n1 m1 mc ms n m c s nL0 : Nat}
/-- the world behind a new cell -/
theorem w_grow {k : Nat × Nat} {a c' s' q0 pc' : Nat} {b : Mm} {H : Heap} {locs : List Loc} {ls : Array Slot} (hc : Cx G cc own none fr lo) (hX : SXX G ad0 KB RL Rb n0 n1 m1 mc ms n m c s) (hRm : gRm G = rmS fr lo mc ms) (hn0 : gnL G = nL0)
    (hkb : KB[n]? = some k) (hn6 : n < 1000000) (hR : ∀ p j, p < n → Rp RL Rb m p j ≠ some n) (hc1 : c' ≤ mc) (hs1 : s' ≤ ms) (hol : lv.all (fun q => oknv n q.2) = true) (hos : st.all (oknv n) = true) (hb : X = some b)
    (hP : va_P (gD G) vwCl (gwd G I L ++ [(q0, ce (gtc G) (adn (gad G) n q0) (gR G) I L n k)]) H) (hD : va_D (gA G) (gwd G I L ++ [(q0, ce (gtc G) (adn (gad G) n q0) (gR G) I L n k)])) (hS : va_S (gA G) (gs G).heap H locs) (hl : lv_has ls (gnL G) (trl (gad G) lv))
    (kk : ∀ G : GT Mm, Cx G cc own none fr lo → SXX G ad0 KB RL Rb n0 n1 m1 mc ms (n + 1) m c' s' → gRm G = rmS fr lo mc ms → gnL G = nL0 → WW G pc' lv (.ref n :: st) I L X) :
    W (gp G) (gl G) (ge G) (gRm G) (gs G) (gm G) (ga G) (gbel G) (gme G) (gc G) H locs c' s' (gQ G b) (F0 (gm G) pc' ls (.ref q0 :: trs (gad G) st)) := by
  obtain ⟨hQ, hag, hAe, hKe, hRe, hcl, hsl, hle, hin⟩ := hX
  obtain ⟨t1, t2⟩ := take_push hkb
  have hag' : agrn n (gad G) (adn (gad G) n q0) := adn_agr hn6
  have e : wd (gtc G) (adn (gad G) n q0) (KB.take (n + 1)) (Rp RL Rb m) I L = gwd G I L ++ [(q0, ce (gtc G) (adn (gad G) n q0) (gR G) I L n k)] := by
    have := wd_push (tc := gtc G) (ad := gad G) (K := KB.take n) (R := Rp RL Rb m) (I := I) (L := L) (k := k) (q := q0) (by rw [t2]; exact hR)
    rw [t2] at this
    rw [t1, this, hRe]
    show _ = wd (gtc G) (gad G) (gK G) (gR G) I L ++ _
    rw [hKe, hRe]
  have h9 := kk (gsetS G (adn (gad G) n q0) (KB.take (n + 1)) (Rp RL Rb m) c' s') ⟨hc.1, hc.2.1, hc.2.2.1, hc.2.2.2.1, hc.2.2.2.2.1, hc.2.2.2.2.2.1, hc.2.2.2.2.2.2.1, hc.2.2.2.2.2.2.2.1, hc.2.2.2.2.2.2.2.2.1, ⟨hc.2.2.2.2.2.2.2.2.2.1.1, hc.2.2.2.2.2.2.2.2.2.1.2.1, by show c' ≤ (gRm G).cells; rw [hRm]; exact hc1, by show s' ≤ (gRm G).slots; rw [hRm]; exact hs1⟩, hc.2.2.2.2.2.2.2.2.2.2.agrn hag'⟩
    ⟨hQ, fun p hp => (hag' p (by omega)).trans (hag p hp), hAe, rfl, rfl, rfl, rfl, by omega, hin⟩ hRm hn0 b hb H locs ls (by show va_P _ _ (wd _ _ _ _ _ _) _; exact e ▸ hP) (by show va_D _ (wd _ _ _ _ _ _); exact e ▸ hD) hS (by show lv_has ls (gnL G) (trl (adn (gad G) n q0) lv); rw [trl_agrn hag' hol]; exact hl)
  have ee : trs (adn (gad G) n q0) (.ref n :: st) = .ref q0 :: trs (gad G) st := by
    show tr _ _ :: trs (adn (gad G) n q0) st = _
    rw [trs_agrn hag' hos]
    simp [tr, adn]
  have h10 : W (gp G) (gl G) (ge G) (gRm G) (gs G) (gm G) (ga G) (gbel G) (gme G) (gc G) H locs c' s' (gQ G b) (F0 (gm G) pc' ls (trs (adn (gad G) n q0) (.ref n :: st))) := h9
  rw [ee] at h10
  exact h10
theorem w_newO {ci N idx : Nat} {C : String} {T : u_T} {ty : Nat → FieldType} (hc : Cx G cc own none fr lo) (hX : SXX G ad0 KB RL Rb n0 n1 m1 mc ms n m c s) (hRm : gRm G = rmS fr lo mc ms) (hn0 : gnL G = nL0) (hd : decode cc pc = .ok (.new idx, 3))
    (hkb : KB[n]? = some (ci, 0)) (h8 : ci < 8) (hv : vwCl[ci]? = some (C, T, N)) (hfn : fnn ci = N) (hin : ∀ w ∈ u_ws C T N, w ∈ wsA) (hty : ∀ k, k < N → parseFieldDescriptor (T k).2.2.1 = some (ty k)) (hdf : ∀ j, j < N → defaultValue (ty j) = (if fty ci j = 0 then .int 0 else if fty ci j = 1 then .long 0 else .null)) (hcl : Cond.classLink own idx C ∈ wsA) (hins : Cond.instantiable C N ∈ wsA) (hini : Cond.initialized C ∈ wsA)
    (hI : I n = fun _ => 0) (hL : L n = fun _ => 0) (hRn : Rp RL Rb m n = fun _ => none) (hn6 : n < 1000000) (hR : ∀ p j, p < n → Rp RL Rb m p j ≠ some n) (hc1 : c + 1 ≤ mc) (hs1 : s + N ≤ ms) (hol : lv.all (fun q => oknv n q.2) = true) (hos : st.all (oknv n) = true) (e : q = pc + 3)
    (kk : ∀ G : GT Mm, Cx G cc own none fr lo → SXX G ad0 KB RL Rb n0 n1 m1 mc ms (n + 1) m (c + 1) (s + N) → gRm G = rmS fr lo mc ms → gnL G = nL0 → WW G q lv (.ref n :: st) I L X) : WW G pc lv st I L X := by
  subst e
  intro b hb H locs ls hP hD hS hl
  have h5 := hX.2.2.2.2.1
  have h6 := hX.2.2.2.2.2.1
  have h7 := hX.2.2.2.2.2.2.1
  refine va_new (ci := ci) (fs := fvs (gad G) (gR G) I L n ci) (C := C) (T := T) (N := N) hc.1 hc.2.1 hc.2.2.2.2.1 hin ty hty hc.2.2.2.1 (hc.2.2.2.2.1 _ hcl) (hc.2.2.2.2.1 _ hins) (hc.2.2.2.2.1 _ hini) hc.2.2.2.2.2.1 hP hD hS hc.2.2.2.2.2.2.1 hv ?_ ?_ ?_ hd (fun q0 H1 hP1 hD1 hS1 => ?_)
  · intro j hj
    rw [hdf j hj]
    show _ = (fvs (gad G) (gR G) I L n ci).getD j .null
    rw [List.getD_eq_getElem?_getD, fvs_get (by rw [hfn]; exact hj)]
    show _ = fv (gad G) (gR G) I L n (fty ci j) j
    unfold fv
    rw [h5, hRn, hI, hL]
    rfl
  · rw [h6, hRm]; exact hc1
  · rw [h7, hRm]; exact hs1
  · have ece : ∀ q0, ce (gtc G) (adn (gad G) n q0) (gR G) I L n (ci, 0) = .inr (ci, fvs (gad G) (gR G) I L n ci) := by
      intro q0
      rw [ce_adn (fun j => by rw [h5, hRn]; simp)]
      simp [ce, h8]
    have hw := w_grow (q0 := q0) (a := 0) (c' := c + 1) (s' := s + N) (pc' := pc + 3) hc hX hRm hn0 hkb hn6 hR hc1 hs1 hol hos hb (by rw [ece]; exact hP1) (by rw [ece]; exact hD1) hS1 hl kk
    rw [h6, h7]
    exact hw
theorem tc_eq {ty : FieldType} {code : Nat} {cA : ClassId} {t0 : Nat} (hc : Cx G cc own none fr lo) (ht : (tyl (gtc G))[t0]? = some (gtc G code, ty)) (hty : ∀ C, ty ≠ .object C) (h : va_RA (gs G) cA ty) : cA = gtc G code := by
  have h2 := (hc.2.2.2.2.2.1.2 t0 _ ht).2
  have e1 : (gs G).vm.findClass ("[" ++ ty.toString) = some cA := by
    cases ty <;> first | exact h | exact absurd rfl (hty _)
  have e2 : (gs G).vm.findClass ("[" ++ ty.toString) = some (gtc G code) := by
    cases ty <;> first | exact h2 | exact absurd rfl (hty _)
  have := e1.symm.trans e2
  cases this; rfl
theorem w_newA {code N : Nat} {x : Int32} {atype : ArrayType} {ty : FieldType} {t0 : Nat} (hc : Cx G cc own none fr lo) (hX : SXX G ad0 KB RL Rb n0 n1 m1 mc ms n m c s) (hRm : gRm G = rmS fr lo mc ms) (hn0 : gnL G = nL0) (hd : decode cc pc = .ok (.newarray atype, 2))
    (hkb : KB[n]? = some (code, N)) (hty : newarray.typeOf atype = ty) (ha : Cond.arrayClass ty ∈ wsA) (hno : ∀ C, ty ≠ .object C) (ht0 : ∀ tc : Nat → ClassId, (tyl tc)[t0]? = some (tc code, ty)) (hcell : ∀ (cA : ClassId) (f : Nat → Int32) (g : Nat → Int64) (tc : Nat → ClassId) (ad : Nat → Nat) (R : MR) (I : MI) (L : ML) (p : Nat), I p = (fun _ => 0) → L p = (fun _ => 0) → ∃ a0 : vp_A, ce tc ad R I L p (code, N) = .inl (tc code, a0) ∧ ∀ cA : ClassId, vp_cell cA a0 = arrV cA N (fun _ => defaultValue ty))
    (hx : ¬ x < 0) (hxN : x.toNatClampNeg = N) (hby : N * componentBytes ty ≤ 536870912)
    (hI : I n = fun _ => 0) (hL : L n = fun _ => 0) (hn6 : n < 1000000) (hR : ∀ p j, p < n → Rp RL Rb m p j ≠ some n) (hc1 : c + 1 ≤ mc) (hs1 : s + N ≤ ms) (hol : lv.all (fun q => oknv n q.2) = true) (hos : st.all (oknv n) = true) (e : q = pc + 2)
    (kk : ∀ G : GT Mm, Cx G cc own none fr lo → SXX G ad0 KB RL Rb n0 n1 m1 mc ms (n + 1) m (c + 1) (s + N) → gRm G = rmS fr lo mc ms → gnL G = nL0 → WW G q lv (.ref n :: st) I L X) : WW G pc lv (.int x :: st) I L X := by
  subst e
  intro b hb H locs ls hP hD hS hl
  have h5 := hX.2.2.2.2.1
  have h6 := hX.2.2.2.2.2.1
  have h7 := hX.2.2.2.2.2.2.1
  obtain ⟨a0, e0, e1⟩ := hcell 0 (fun _ => 0) (fun _ => 0) (gtc G) (gad G) (gR G) I L n hI hL
  refine va_newa hc.1 hc.2.1 (atype := atype) (by rw [hty]; exact hc.2.2.2.2.1 _ ha) hty hc.2.2.2.2.2.1 hP hD hS hc.2.2.2.2.2.2.1 (a0 := a0) e1 hx hxN hby ?_ ?_ hd (fun q0 cA H1 hK1 hP1 hD1 hS1 => ?_)
  · rw [h6, hRm]; exact hc1
  · rw [h7, hRm]; exact hs1
  · have hRA := (hK1.2 5 (cA, ty) (by rw [List.getElem?_append_right (by show 5 ≤ 5; omega)]; rfl)).2
    have eA : cA = gtc G code := tc_eq hc (ht0 _) hno hRA
    subst eA
    obtain ⟨a1, e2, e3⟩ := hcell 0 (fun _ => 0) (fun _ => 0) (gtc G) (adn (gad G) n q0) (gR G) I L n hI hL
    have hx1 : va_at (gD G) vwCl (q0, ce (gtc G) (adn (gad G) n q0) (gR G) I L n (code, N)) H1 := by
      rw [e2]
      show H1[q0]? = some (vp_cell (gtc G code) a1)
      rw [e3, ← e1]
      exact hP1 (gwd G I L).length _ (by rw [List.getElem?_append_right (Nat.le_refl _), Nat.sub_self]; rfl)
    have hP2 : va_P (gD G) vwCl (gwd G I L ++ [(q0, ce (gtc G) (adn (gad G) n q0) (gR G) I L n (code, N))]) H1 := by
      intro k9 q9 h9
      by_cases hlt : k9 < (gwd G I L).length
      · rw [List.getElem?_append_left hlt] at h9
        exact hP1 k9 q9 (by rw [List.getElem?_append_left hlt]; exact h9)
      · rw [List.getElem?_append_right (by omega)] at h9
        cases hk9 : k9 - (gwd G I L).length with
        | zero => rw [hk9] at h9; cases h9; exact hx1
        | succ z => rw [hk9] at h9; cases h9
    have hD2 : va_D (gA G) (gwd G I L ++ [(q0, ce (gtc G) (adn (gad G) n q0) (gR G) I L n (code, N))]) := by
      have hmap : (gwd G I L ++ [(q0, ce (gtc G) (adn (gad G) n q0) (gR G) I L n (code, N))]).map Prod.fst = (gwd G I L ++ [(q0, (Sum.inl (gtc G code, a0) : va_E))]).map Prod.fst := by simp
      exact va_D_map hmap hD1
    have hw := w_grow (q0 := q0) (a := 0) (c' := c + 1) (s' := s + N) (pc' := pc + 2) hc hX hRm hn0 hkb hn6 hR hc1 hs1 hol hos hb hP2 hD2 hS1 hl kk
    rw [h6, h7]
    exact hw
theorem w_putS {p ci k0 k N idx r : Nat} {C : String} {T : u_T} {ty0 : Nat → FieldType} {ty : FieldType} (hc : Cx G cc own none fr lo) (hX : SXX G ad0 KB RL Rb n0 n1 m1 mc ms n m c s) (hRm : gRm G = rmS fr lo mc ms) (hn0 : gnL G = nL0) (hd : decode cc pc = .ok (.putfield idx, 3))
    (hrl : RL[m]? = some ((p, k), r)) (hnf : (RL.take m).find? (fun e => e.1 == (p, k)) = none) (hkb : KB[p]? = some (ci, k0)) (hpn : p < n) (hv : vwCl[ci]? = some (C, T, N)) (h8 : ci < 8) (hin : ∀ w ∈ u_ws C T N, w ∈ wsA) (hty : ∀ k, k < N → parseFieldDescriptor (T k).2.2.1 = some (ty0 k)) (hnm : ∀ a, a < N → ∀ b, b < N → a ≠ b → (T a).2.1 ≠ (T b).2.1) (hlt : k < N) (hf : k < fnn ci) (ht : fty ci k = 2) (hw : Cond.fieldLink own idx C (T k).2.1 (T k).2.2.1 ∈ wsA) (hC : (T k).1 = C) (hfin : (T k).2.2.2 = true) (hdecl : (T k).1 = own) (hdt : parseFieldDescriptor (T k).2.2.1 = some ty) (hnar : ∀ a, narrow ty (.ref a) = .ref a) (hfit : ∀ a, fits ty (.ref a) = true) (e : q = pc + 3)
    (kk : ∀ G : GT Mm, Cx G cc own none fr lo → SXX G ad0 KB RL Rb n0 n1 m1 mc ms n (m + 1) c s → gRm G = rmS fr lo mc ms → gnL G = nL0 → WW G q lv st I L X) : WW G pc lv (.ref r :: .ref p :: st) I L X := by
  subst e
  intro b hb H locs ls hP hD hS hl
  obtain ⟨hQ, hag, hAe, hKe, hRe, hcl, hsl, hle, hin2⟩ := id hX
  have hk : (gK G)[p]? = some (ci, k0) := by rw [hKe, List.getElem?_take]; rw [if_pos hpn]; exact hkb
  have hg : (gwd G I L)[p]? = some (gad G p, .inr (ci, fvs (gad G) (gR G) I L p ci)) := by rw [wd_get hk]; simp [ce, h8]
  have he : (gwd G I L).set p (gad G p, .inr (ci, (fvs (gad G) (gR G) I L p ci).set k (.ref (gad G r)))) = wd (gtc G) (gad G) (KB.take n) (Rp RL Rb (m + 1)) I L := by
    rw [show Value.ref (gad G r) = va_rf ((some r).map (gad G)) from rfl, fvs_setR (by rw [ht]; decide) (by rw [ht]; decide)]
    have h2 := wd_set (tc := gtc G) (ad := gad G) hk (R := gR G) (R' := up2 (gR G) p k (some r)) (I := I) (I' := I) (L := L) (L' := L) (fun _ h => (up2_ne h).symm) (fun _ _ => rfl) (fun _ _ => rfl)
    rw [hRe, Rp_put hrl hnf] at h2
    rw [← hKe]
    refine Eq.trans ?_ h2
    rw [hRe, Rp_put hrl hnf]
    simp only [ce, h8, if_true]
    show (wd (gtc G) (gad G) (gK G) (gR G) I L).set _ _ = _
    rw [hRe]
  refine va_putF hc.1 hc.2.1 hc.2.2.2.2.1 hin ty0 hty hnm hc.2.2.2.1 hc.2.2.2.2.2.1 hP hD hS p hg hv k hlt (hc.2.2.2.2.1 _ hw) (by rw [hC]; exact fun _ h9 => h9) hfin hin2 hdecl hdt (hnar _) (hfit _) (by rw [fvs_len]; exact hf) hd (fun H1 locs1 hP1 hD1 hS1 => ?_)
  have hP2 : va_P (gD G) vwCl (wd (gtc G) (gad G) (KB.take n) (Rp RL Rb (m + 1)) I L) H1 := by rw [← he]; exact hP1
  have hD2 : va_D (gA G) (wd (gtc G) (gad G) (KB.take n) (Rp RL Rb (m + 1)) I L) := by rw [← he]; exact hD1
  have h9 := kk (gsetS G (gad G) (KB.take n) (Rp RL Rb (m + 1)) c s) ⟨hc.1, hc.2.1, hc.2.2.1, hc.2.2.2.1, hc.2.2.2.2.1, hc.2.2.2.2.2.1, hc.2.2.2.2.2.2.1, hc.2.2.2.2.2.2.2.1, hc.2.2.2.2.2.2.2.2.1, ⟨hc.2.2.2.2.2.2.2.2.2.1.1, hc.2.2.2.2.2.2.2.2.2.1.2.1, by show c ≤ (gRm G).cells; rw [← hcl]; exact hc.2.2.2.2.2.2.2.2.2.1.2.2.1, by show s ≤ (gRm G).slots; rw [← hsl]; exact hc.2.2.2.2.2.2.2.2.2.1.2.2.2⟩, hc.2.2.2.2.2.2.2.2.2.2⟩
    ⟨hQ, hag, hAe, rfl, rfl, rfl, rfl, hle, hin2⟩ hRm hn0 b hb H1 locs1 ls hP2 hD2 hS1 hl
  rw [hcl, hsl]
  exact h9
theorem w_objI {idx : Nat} {p : Nat} (hc : Cx G cc own none fr lo) (hd : decode cc pc = .ok (.invokespecial idx, 3)) (hw : Cond.methodLink own idx Lib.objectInit ∈ wsA) (hi : Cond.instanceMethod Lib.objectInit ∈ wsA) (hco : Cond.code Lib.objectInit ⟨#[0xb1]⟩ 1 none ∈ wsA) (h1 : 1 ≤ fr) (h2 : 12 ≤ lo) (e : q = pc + 3) (kk : WW G q lv [] I L X) : WW G pc lv [.ref p] I L X := by
  subst e
  intro b hb H locs ls hP hD hS hl
  obtain ⟨r1, r2, r3, r4⟩ := hc.2.2.2.2.2.2.2.2.2.1
  refine W.objInit hc.1 hc.2.1 hc.2.2.2.1 (hc.2.2.2.2.1 _ hw) (hc.2.2.2.2.1 _ hi) (hc.2.2.2.2.1 _ hco) rfl (hl.1.trans hc.2.2.1.symm) rfl hd (by rw [r1]; exact h1) ?_ ?_
  · show 2 * 0 + 0 + 12 ≤ _; rw [r2]; omega
  · exact kk b hb H locs ls hP hD hS hl
theorem w_returnS (hc : Cx G cc own none fr lo) (hX : SXX G ad0 KB RL Rb n0 n1 m1 mc ms n1 m1 mc ms) (hd : decode cc pc = .ok (.return_, 1)) : WW G pc lv [] I L (some (I, L)) := by
  intro b hb H locs ls hP hD hS hl
  cases hb
  obtain ⟨hQ, hag, hAe, hKe, hRe, hcl, hsl, hle, hin⟩ := hX
  show W _ _ _ _ _ _ _ _ _ _ _ _ _ _ (gQ G (I, L)) _
  rw [hQ, ← hAe]
  have hr : ∀ t : State, t.heap = H → (gs G).WarmedH t.vm → QSc (gD G) (gtc G) ad0 KB RL Rb n0 (gs G).heap.size n1 m1 (I, L) (ga G) (gs G) (.returned none) t := by
    intro t ht hW
    rw [hAe] at hS hD
    refine ⟨⟨gad G, hag, rfl, ⟨?_, va_K.moved hW.alike hc.2.2.2.2.2.1, ?_⟩, ?_⟩, hS.F ht⟩
    · rw [ht, ← hKe, ← hRe]; exact hP
    · rw [← hKe, ← hRe]; exact hD.weaken (fun _ _ _ _ => trivial)
    · intro p hp
      rw [← hKe] at hp
      exact hD.2 p _ (wd_get (List.getElem?_eq_getElem hp))
  rw [← hcl, ← hsl]
  exact W.vret hc.1 hc.2.1 hc.2.2.2.2.2.2.2.1 hr hS.2.2 hd hc.2.2.2.2.2.2.2.2.1
/-- a constructor called by a nest mate -/
theorem w_callC {F : Option Mm} {X' : Mm → Option Mm} {y : MethodName} {cy : ByteArray} {maxL fr' lo' mc' ms' idx p n' m' : Nat} {host : String} (hc : Cx G cc own none fr lo) (hX : SXX G ad0 KB RL Rb n0 n1 m1 mc ms n m c s) (hRm : gRm G = rmS fr lo mc ms) (hn0 : gnL G = nL0) (hM : MFs (gl G) y cy maxL fr' lo' mc' ms' [.ref p] KB RL Rb n m n' m' I L F)
    (hd : decode cc pc = .ok (.invokespecial idx, 3)) (hw : va_Nw (.methodLinkNest own idx y host) (gs G)) (hf : CalF y cy maxL none 0) (hs : Cond.instanceMethod y ∈ wsA) (hyn : y.name = "<init>") (h8 : (st.map fun v => v.category).sum ≤ 8) (hroom : fr' + 1 ≤ fr ∧ 8 + (maxL + 11) + lo' ≤ lo) (hcm : c + mc' ≤ mc) (hsm : s + ms' ≤ ms) (hnn : n ≤ n') (hol : lv.all (fun q => oknv n q.2) = true) (hos : st.all (oknv n) = true) (e : q = pc + 3)
    (kk : ∀ (x : Mm), F = some x → ∀ (G : GT Mm), Cx G cc own none fr lo → SXX G ad0 KB RL Rb n0 n1 m1 mc ms n' m' (c + mc') (s + ms') → gRm G = rmS fr lo mc ms → gnL G = nL0 → WW G q lv st x.1 x.2 (X' x)) : WW G pc lv (.ref p :: st) I L (F.bind X') := by
  subst e
  intro b hb H locs ls hP hD hS hl
  obtain ⟨x, hx, hX1⟩ := Option.bind_eq_some_iff.mp hb
  obtain ⟨c1, c2, c3, c4, c5⟩ := hf
  obtain ⟨hQ, hag, hAe, hKe, hRe, hcl, hsl, hle, hin⟩ := id hX
  have hpre := w_pre (D := gD G) (tc := gtc G) hc hP hD hS [.ref p]
  have hMet := hM x hx (gD G) (gtc G) (gad G) H.size
  rw [← hKe, ← hRe] at hMet
  have hG : GoodIn wsA (Cond.code y cy maxL none :: wsA) := fun w hw => by
      rcases List.mem_cons.mp hw with rfl | h2
      · exact ⟨c1, good_of_word (wsA_good _ c1)⟩
      · exact ⟨h2, good_of_word (wsA_good _ h2)⟩
  have hr := va_runIN (b := gad G p) (As := []) (rest := trs (gad G) st) (n := 0) (g := F0 (gm G) pc ls (trs (gad G) (.ref p :: st))) (e := ge G) (R := gRm G) (below := gbel G) (meth := gme G) (H := H) (locs := locs) (cells := gcl G) (slots := gsl G) ⟨hc.1, hc.2.1, hc.2.2.1, hc.2.2.2.1, hc.2.2.2.2.1⟩ hMet ⟨va_cnB 0 hc.2.2.2.2.1 hG rfl rfl rfl hw (hc.2.2.2.2.1 _ c2) ⟨c3, c4, c5⟩ ⟨by rw [hRm]; exact hroom.1, by rw [hRm]; exact hroom.2⟩, hyn, hc.2.2.2.2.1 _ hs⟩ ⟨PreU.blind, hpre⟩ rfl rfl hl.1 rfl (by rw [cat_tr]; show 2 * 0 + _ ≤ 8; omega) hd ⟨by rw [hcl, hRm]; exact hcm, by rw [hsl, hRm]; exact hsm⟩
  have hAA : ∀ q, aA (gad G) (gK G) H.size q → gA G q := by
    intro q h
    rcases h with ⟨p, hp, rfl⟩ | h
    · exact hD.2 p _ (wd_get (List.getElem?_eq_getElem hp))
    · exact hc.2.2.2.2.2.2.1 q (Nat.le_trans hS.1 h)
  intro T hT X0
  obtain ⟨v, st₀, t, T', Lc, h0, X', hL, e1, e2, ⟨⟨ad', hag', hv', hB, hin9⟩, hz, hkp⟩, hst⟩ := hr T hT X0
  cases hv'
  rw [h0] at hz hkp
  rw [← hKe] at hkp
  rw [← hKe] at hin9
  have hS' : va_S (gA G) (gs G).heap T'.heap (locs ++ Lc) := ⟨Nat.le_trans hS.1 (by rw [e1]; exact hz), fun q h1 h2 => by rw [e1, hkp q (Nat.lt_of_lt_of_le h1 hS.1) (fun z => h2 (hAA q z))]; exact hS.2.1 q h1 h2, fun q hq => by
      rcases List.mem_append.mp hq with h | h
      · exact hS.2.2 q h
      · exact hAA _ (hL q h)⟩
  have hD' : va_D (gA G) (wd (gtc G) ad' (KB.take n') (Rp RL Rb m') x.1 x.2) := ⟨hB.2.2.1, fun k q hk => by
    have h2 : k < (KB.take n').length := by
      have := (List.getElem?_eq_some_iff.mp hk).1
      simpa [wd] using this
    rw [wd_get (List.getElem?_eq_getElem h2)] at hk
    cases hk
    exact hAA _ (hin9 k h2)⟩
  have h9 := kk x hx (gsetS G ad' (KB.take n') (Rp RL Rb m') (c + mc') (s + ms')) ⟨hc.1, hc.2.1, hc.2.2.1, hc.2.2.2.1, hc.2.2.2.2.1, hc.2.2.2.2.2.1, hc.2.2.2.2.2.2.1, hc.2.2.2.2.2.2.2.1, hc.2.2.2.2.2.2.2.2.1, ⟨hc.2.2.2.2.2.2.2.2.2.1.1, hc.2.2.2.2.2.2.2.2.2.1.2.1, by show c + mc' ≤ (gRm G).cells; rw [hRm]; exact hcm, by show s + ms' ≤ (gRm G).slots; rw [hRm]; exact hsm⟩, hc.2.2.2.2.2.2.2.2.2.2.agrn hag'⟩
    ⟨hQ, fun p hp => (hag' p (by omega)).trans (hag p hp), hAe, rfl, rfl, rfl, rfl, by omega, hin⟩ hRm hn0 b hX1 T'.heap (locs ++ Lc) ls (by rw [e1]; exact hB.1) hD' hS' (by show lv_has ls (gnL G) (trl ad' lv); rw [trl_agrn hag' hol]; exact hl)
  have X2 : Stand (gp G) (gl G) (ge G) (gRm G) (gs G) (gm G) (ga G) (gbel G) (gme G) (gc G) T' (locs ++ Lc) (c + mc') (s + ms') := by
    have := X'
    rwa [hcl, hsl] at this
  obtain ⟨t2, a1, b1⟩ := h9 T' rfl X2
  refine ⟨t2, hst t2 ?_, b1⟩
  have a2 : Steps (gp G).tables (ge G) (gbel G) (T'.setTop (F0 (gm G) (pc + 3) ls (trs ad' st))) t2 := a1
  rw [trs_agrn hag' hos] at a2
  exact a2
end WK
section WP
variable {β : Type} {G : GT β} {cc : ByteArray} {own : String} {rt : Option FieldType} {fr lo pc q : Nat} {lv : List (Nat × Value)} {st : List Value} {I : MI} {L : ML} {X : Option β}
theorem w_putE {p ci k0 k N idx : Nat} {C : String} {T : u_T} {ty0 : Nat → FieldType} {ty : FieldType} (hc : Cx G cc own rt fr lo) (hd : decode cc pc = .ok (.putfield idx, 3)) (hk : (gK G)[p]? = some (ci, k0)) (hv : vwCl[ci]? = some (C, T, N)) (h8 : ci < 8) (hin : ∀ w ∈ u_ws C T N, w ∈ wsA) (hty : ∀ k, k < N → parseFieldDescriptor (T k).2.2.1 = some (ty0 k)) (hnm : ∀ a, a < N → ∀ b, b < N → a ≠ b → (T a).2.1 ≠ (T b).2.1) (hlt : k < N) (hf : k < fnn ci) (ht : fty ci k = 0) (hw : Cond.fieldLink own idx C (T k).2.1 (T k).2.2.1 ∈ wsA) (hC : (T k).1 = C) (hfin : (T k).2.2.2 = false) (hdt : parseFieldDescriptor (T k).2.2.1 = some ty) {v : Int32} (hn : narrow ty (.int v) = .int v) (hfit : fits ty (.int v) = true) (e : q = pc + 3) (kk : WW G q lv st (up2 I p k v) L X) : WW G pc lv (.int v :: .ref p :: st) I L X := by
  subst e
  intro b hb H locs ls hP hD hS hl
  have hg : (gwd G I L)[p]? = some (gad G p, .inr (ci, fvs (gad G) (gR G) I L p ci)) := by rw [wd_get hk]; simp [ce, h8]
  have he : (gwd G I L).set p (gad G p, .inr (ci, (fvs (gad G) (gR G) I L p ci).set k (.int v))) = gwd G (up2 I p k v) L := by
    rw [fvs_setI ht]
    refine Eq.trans ?_ (wd_set (tc := gtc G) (ad := gad G) hk (R := gR G) (R' := gR G) (I := I) (I' := up2 I p k v) (L := L) (L' := L) (fun _ _ => rfl) (fun _ h => (up2_ne h).symm) (fun _ _ => rfl))
    simp [ce, h8]
  refine va_put hc.1 hc.2.1 hc.2.2.2.2.1 hin ty0 hty hnm hc.2.2.2.1 hc.2.2.2.2.2.1 hP hD hS p hg hv k hlt (hc.2.2.2.2.1 _ hw) (by rw [hC]; exact fun _ h9 => h9) hfin hdt hn hfit (by rw [fvs_len]; exact hf) hd (fun H1 locs1 hP1 hD1 hS1 => ?_)
  have hP2 : va_P (gD G) vwCl (gwd G (up2 I p k v) L) H1 := by rw [← he]; exact hP1
  have hD2 : va_D (gA G) (gwd G (up2 I p k v) L) := by rw [← he]; exact hD1
  exact kk b hb H1 locs1 ls hP2 hD2 hS1 hl
theorem up2_same {α : Type} {f : Nat → Nat → α} {p k : Nat} {v : α} (h : f p k = v) : up2 f p k v = f := by
  funext a b
  unfold up2
  by_cases h1 : a = p
  · subst h1
    by_cases h2 : b = k
    · subst h2; simp [h]
    · simp [h2]
  · simp [h1]
theorem w_put0 {p ci k0 k N idx : Nat} {C : String} {T : u_T} {ty0 : Nat → FieldType} {ty : FieldType} (hc : Cx G cc own rt fr lo) (hd : decode cc pc = .ok (.putfield idx, 3)) (hk : (gK G)[p]? = some (ci, k0)) (hv : vwCl[ci]? = some (C, T, N)) (h8 : ci < 8) (hin : ∀ w ∈ u_ws C T N, w ∈ wsA) (hty : ∀ k, k < N → parseFieldDescriptor (T k).2.2.1 = some (ty0 k)) (hnm : ∀ a, a < N → ∀ b, b < N → a ≠ b → (T a).2.1 ≠ (T b).2.1) (hlt : k < N) (hf : k < fnn ci) (ht : fty ci k = 0) (hw : Cond.fieldLink own idx C (T k).2.1 (T k).2.2.1 ∈ wsA) (hC : (T k).1 = C) (hfin : (T k).2.2.2 = false) (hdt : parseFieldDescriptor (T k).2.2.1 = some ty) (hn : narrow ty (.int 0) = .int 0) (hfit : fits ty (.int 0) = true) (h0 : I p = fun _ => 0) (e : q = pc + 3) (kk : WW G q lv st I L X) : WW G pc lv (.int 0 :: .ref p :: st) I L X :=
  w_putE hc hd hk hv h8 hin hty hnm hlt hf ht hw hC hfin hdt hn hfit e (by rw [up2_same (by rw [h0])]; exact kk)
theorem w_put0L {p ci k0 k N idx : Nat} {C : String} {T : u_T} {ty0 : Nat → FieldType} {ty : FieldType} (hc : Cx G cc own rt fr lo) (hd : decode cc pc = .ok (.putfield idx, 3)) (hk : (gK G)[p]? = some (ci, k0)) (hv : vwCl[ci]? = some (C, T, N)) (h8 : ci < 8) (hin : ∀ w ∈ u_ws C T N, w ∈ wsA) (hty : ∀ k, k < N → parseFieldDescriptor (T k).2.2.1 = some (ty0 k)) (hnm : ∀ a, a < N → ∀ b, b < N → a ≠ b → (T a).2.1 ≠ (T b).2.1) (hlt : k < N) (hf : k < fnn ci) (ht : fty ci k = 1) (hw : Cond.fieldLink own idx C (T k).2.1 (T k).2.2.1 ∈ wsA) (hC : (T k).1 = C) (hfin : (T k).2.2.2 = false) (hdt : parseFieldDescriptor (T k).2.2.1 = some .long) (h0 : L p = fun _ => 0) (e : q = pc + 3) (kk : WW G q lv st I L X) : WW G pc lv (.long 0 :: .ref p :: st) I L X := by
  subst e
  intro b hb H locs ls hP hD hS hl
  have hg : (gwd G I L)[p]? = some (gad G p, .inr (ci, fvs (gad G) (gR G) I L p ci)) := by rw [wd_get hk]; simp [ce, h8]
  have he : (gwd G I L).set p (gad G p, .inr (ci, (fvs (gad G) (gR G) I L p ci).set k (.long 0))) = gwd G I L := by
    rw [fvs_setL ht, up2_same (by rw [h0])]
    refine Eq.trans ?_ (wd_set (tc := gtc G) (ad := gad G) hk (R := gR G) (R' := gR G) (I := I) (I' := I) (L := L) (L' := L) (fun _ _ => rfl) (fun _ _ => rfl) (fun _ _ => rfl))
    simp [ce, h8]
  refine va_put hc.1 hc.2.1 hc.2.2.2.2.1 hin ty0 hty hnm hc.2.2.2.1 hc.2.2.2.2.2.1 hP hD hS p hg hv k hlt (hc.2.2.2.2.1 _ hw) (by rw [hC]; exact fun _ h9 => h9) hfin hdt rfl rfl (by rw [fvs_len]; exact hf) hd (fun H1 locs1 hP1 hD1 hS1 => ?_)
  have hP2 : va_P (gD G) vwCl (gwd G I L) H1 := by rw [← he]; exact hP1
  have hD2 : va_D (gA G) (gwd G I L) := by rw [← he]; exact hD1
  exact kk b hb H1 locs1 ls hP2 hD2 hS1 hl
theorem w_put0R {p ci k0 k N idx : Nat} {C : String} {T : u_T} {ty0 : Nat → FieldType} {ty : FieldType} (hc : Cx G cc own rt fr lo) (hd : decode cc pc = .ok (.putfield idx, 3)) (hk : (gK G)[p]? = some (ci, k0)) (hv : vwCl[ci]? = some (C, T, N)) (h8 : ci < 8) (hin : ∀ w ∈ u_ws C T N, w ∈ wsA) (hty : ∀ k, k < N → parseFieldDescriptor (T k).2.2.1 = some (ty0 k)) (hnm : ∀ a, a < N → ∀ b, b < N → a ≠ b → (T a).2.1 ≠ (T b).2.1) (hlt : k < N) (hf : k < fnn ci) (ht : fty ci k = 2) (hw : Cond.fieldLink own idx C (T k).2.1 (T k).2.2.1 ∈ wsA) (hC : (T k).1 = C) (hfin : (T k).2.2.2 = false) (hdt : parseFieldDescriptor (T k).2.2.1 = some ty) (hn : narrow ty .null = .null) (hfit : fits ty .null = true) (h0 : gR G p k = none) (e : q = pc + 3) (kk : WW G q lv st I L X) : WW G pc lv (.null :: .ref p :: st) I L X := by
  subst e
  intro b hb H locs ls hP hD hS hl
  have hg : (gwd G I L)[p]? = some (gad G p, .inr (ci, fvs (gad G) (gR G) I L p ci)) := by rw [wd_get hk]; simp [ce, h8]
  have he : (gwd G I L).set p (gad G p, .inr (ci, (fvs (gad G) (gR G) I L p ci).set k .null)) = gwd G I L := by
    rw [show Value.null = va_rf ((none : Option Nat).map (gad G)) from rfl, fvs_setR (by rw [ht]; decide) (by rw [ht]; decide), up2_same h0]
    refine Eq.trans ?_ (wd_set (tc := gtc G) (ad := gad G) hk (R := gR G) (R' := gR G) (I := I) (I' := I) (L := L) (L' := L) (fun _ _ => rfl) (fun _ _ => rfl) (fun _ _ => rfl))
    simp [ce, h8]
  refine va_put hc.1 hc.2.1 hc.2.2.2.2.1 hin ty0 hty hnm hc.2.2.2.1 hc.2.2.2.2.2.1 hP hD hS p hg hv k hlt (hc.2.2.2.2.1 _ hw) (by rw [hC]; exact fun _ h9 => h9) hfin hdt hn hfit (by rw [fvs_len]; exact hf) hd (fun H1 locs1 hP1 hD1 hS1 => ?_)
  have hP2 : va_P (gD G) vwCl (gwd G I L) H1 := by rw [← he]; exact hP1
  have hD2 : va_D (gA G) (gwd G I L) := by rw [← he]; exact hD1
  exact kk b hb H1 locs1 ls hP2 hD2 hS1 hl
end WP
theorem cell_10 (N : Nat) : ∀ (cA : ClassId) (f : Nat → Int32) (g : Nat → Int64) (tc : Nat → ClassId) (ad : Nat → Nat) (R : MR) (I : MI) (L : ML) (p : Nat), I p = (fun _ => 0) → L p = (fun _ => 0) → ∃ a0 : vp_A, ce tc ad R I L p (10, N) = .inl (tc 10, a0) ∧ ∀ cA : ClassId, vp_cell cA a0 = arrV cA N (fun _ => defaultValue .int) := by
  intro _ _ _ tc ad R I L p hI hL
  refine ⟨(N, .inl (fun _ => 0)), ?_, fun _ => rfl⟩
  show _ = Sum.inl (tc 10, N, _)
  rw [← hI]
  rfl
theorem cell_12 (N : Nat) : ∀ (cA : ClassId) (f : Nat → Int32) (g : Nat → Int64) (tc : Nat → ClassId) (ad : Nat → Nat) (R : MR) (I : MI) (L : ML) (p : Nat), I p = (fun _ => 0) → L p = (fun _ => 0) → ∃ a0 : vp_A, ce tc ad R I L p (12, N) = .inl (tc 12, a0) ∧ ∀ cA : ClassId, vp_cell cA a0 = arrV cA N (fun _ => defaultValue .byte) := by
  intro _ _ _ tc ad R I L p hI hL
  refine ⟨(N, .inl (fun _ => 0)), ?_, fun _ => rfl⟩
  show _ = Sum.inl (tc 12, N, _)
  rw [← hI]
  rfl
theorem cell_13 (N : Nat) : ∀ (cA : ClassId) (f : Nat → Int32) (g : Nat → Int64) (tc : Nat → ClassId) (ad : Nat → Nat) (R : MR) (I : MI) (L : ML) (p : Nat), I p = (fun _ => 0) → L p = (fun _ => 0) → ∃ a0 : vp_A, ce tc ad R I L p (13, N) = .inl (tc 13, a0) ∧ ∀ cA : ClassId, vp_cell cA a0 = arrV cA N (fun _ => defaultValue .boolean) := by
  intro _ _ _ tc ad R I L p hI hL
  refine ⟨(N, .inl (fun _ => 0)), ?_, fun _ => rfl⟩
  show _ = Sum.inl (tc 13, N, _)
  rw [← hI]
  rfl
theorem cell_11 (N : Nat) : ∀ (cA : ClassId) (f : Nat → Int32) (g : Nat → Int64) (tc : Nat → ClassId) (ad : Nat → Nat) (R : MR) (I : MI) (L : ML) (p : Nat), I p = (fun _ => 0) → L p = (fun _ => 0) → ∃ a0 : vp_A, ce tc ad R I L p (11, N) = .inl (tc 11, a0) ∧ ∀ cA : ClassId, vp_cell cA a0 = arrV cA N (fun _ => defaultValue .long) := by
  intro _ _ _ tc ad R I L p hI hL
  refine ⟨(N, .inr (.inl (fun _ => 0))), ?_, fun _ => rfl⟩
  show _ = Sum.inl (tc 11, N, _)
  rw [← hL]
  rfl
def Rb0 : MR := fun p k => if 69 ≤ p then lR 0 p k else none
theorem rp_ne {m n : Nat} (h : (RL0.take m).all (fun e => e.2 != n) = true) (hn : n ≤ 69) : ∀ p j, p < n → Rp RL0 Rb0 m p j ≠ some n := by
  intro p j hp
  unfold Rp
  cases hf : (RL0.take m).find? (fun e => e.1 == (p, j)) with
  | none =>
    have : ¬ 69 ≤ p := by omega
    simp [Rb0, this]
  | some e =>
    have h2 := List.all_eq_true.mp h e (List.mem_of_find?_eq_some hf)
    simpa using h2
theorem rp_none {m n : Nat} (h : (RL0.take m).all (fun e => e.1.1 != n) = true) (hn : n < 69) : Rp RL0 Rb0 m n = fun _ => none := by
  funext j
  unfold Rp
  cases hf : (RL0.take m).find? (fun e => e.1 == (n, j)) with
  | none =>
    have : ¬ 69 ≤ n := by omega
    simp [Rb0, this]
  | some e =>
    have h2 := List.all_eq_true.mp h e (List.mem_of_find?_eq_some hf)
    have h3 := List.find?_some hf
    have h4 : e.1 = (n, j) := by simpa using h3
    rw [h4] at h2
    simp at h2
theorem RL0_610 : RL0.find? (fun e => e.1 == (6, 10)) = none := by decide +kernel
theorem rp_full {m : Nat} (hm : RL0.length ≤ m) : Rp RL0 Rb0 m = lR 0 := by
  funext p k
  unfold Rp
  rw [List.take_of_length_le hm]
  cases hf : RL0.find? (fun e => e.1 == (p, k)) with
  | none =>
    by_cases h : 69 ≤ p
    · simp [Rb0, h]
    · simp only [Rb0, h, if_false]
      unfold lR
      split
      · rfl
      · unfold R0
        rw [hf]
        have h1 : p ≠ 69 := by omega
        have h2 : p ≠ 76 := by omega
        simp [h1, h2]
  | some e =>
    show some e.2 = lR 0 p k
    unfold lR
    by_cases h : p = 6 ∧ k = 10
    · exfalso; rw [h.1, h.2, RL0_610] at hf; cases hf
    · rw [if_neg h]; unfold R0; rw [hf]
theorem K0_69 : K0.take 69 = lK 0 := rfl
theorem nar_obj (t : String) : ∀ a, narrow (.object t) (.ref a) = .ref a := fun _ => rfl
theorem nar_arr (t : FieldType) : ∀ a, narrow (.array t) (.ref a) = .ref a := fun _ => rfl
