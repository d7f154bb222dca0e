def LSx (G : GT Unit) (b Ls : Nat) (xs : Nat → Int32) (n m c s : Nat) : Prop :=
  gK G = K0.take n ∧ gR G = Rp RL0 Rb0 m ∧ gRm G = room_1 ∧ gA G = (fun q : Nat => (gs G).heap.size ≤ q) ∧ gad G 4000000 = b ∧ gcl G = c ∧ gsl G = s ∧ va_X b Ls xs (gs G) (gs G).heap ∧ b < (gs G).heap.size ∧ (∀ u, gQ G u = lw_Z (gbel G) #[Value.ref b] (gs G)) ∧ ga G = #[Value.ref b] ∧ gnL G = 4
section LG
variable {G : GT Unit} {cc : ByteArray} {own : String} {rt : Option FieldType} {fr lo pc q : Nat} {lv : List (Nat × Value)} {st : List Value} {I : MI} {L : ML} {X : Option Unit} {b Ls n m c s : Nat} {xs : Nat → Int32}
theorem w_growL {k : Nat × Nat} {a c' s' q0 pc' : Nat} {u : Unit} {H : Heap} {locs : List Loc} {ls : Array Slot} (hc : Cx G cc own rt fr lo) (hX : LSx G b Ls xs n m c s)
    (hkb : K0[n]? = some k) (hn6 : n < 1000000) (hR : ∀ p j, p < n → Rp RL0 Rb0 m p j ≠ some n) (hc1 : c' ≤ 600000) (hs1 : s' ≤ 7302250) (hol : lv.all (fun q => oknv n q.2) = true) (hos : st.all (oknv n) = true) (hb : X = some u)
    (hP : va_P (gD G) vwCl (gwd G I L ++ [(q0, ce (gtc G) (adn (gad G) n q0) (gR G) I L n k)]) H) (hD : va_D (gA G) (gwd G I L ++ [(q0, ce (gtc G) (adn (gad G) n q0) (gR G) I L n k)])) (hS : va_S (gA G) (gs G).heap H locs) (hl : lv_has ls (gnL G) (trl (gad G) lv))
    (kk : ∀ G : GT Unit, Cx G cc own rt fr lo → LSx G b Ls xs (n + 1) m c' s' → WW G pc' lv (.ref n :: st) I L X) :
    W (gp G) (gl G) (ge G) (gRm G) (gs G) (gm G) (ga G) (gbel G) (gme G) (gc G) H locs c' s' (gQ G u) (F0 (gm G) pc' ls (.ref q0 :: trs (gad G) st)) := by
  obtain ⟨hKe, hRe, hRm, hAe, hb4, hcl, hsl, hXs, hbl, hQ, hga, hnL⟩ := hX
  obtain ⟨t1, t2⟩ := take_push hkb
  have hag' : agrn n (gad G) (adn (gad G) n q0) := adn_agr hn6
  have e : wd (gtc G) (adn (gad G) n q0) (K0.take (n + 1)) (Rp RL0 Rb0 m) I L = gwd G I L ++ [(q0, ce (gtc G) (adn (gad G) n q0) (gR G) I L n k)] := by
    have := wd_push (tc := gtc G) (ad := gad G) (K := K0.take n) (R := Rp RL0 Rb0 m) (I := I) (L := L) (k := k) (q := q0) (by rw [t2]; exact hR)
    rw [t2] at this
    rw [t1, this, hRe]
    show _ = wd (gtc G) (gad G) (gK G) (gR G) I L ++ _
    rw [hKe, hRe]
  have h9 := kk (gsetS G (adn (gad G) n q0) (K0.take (n + 1)) (Rp RL0 Rb0 m) c' s') ⟨hc.1, hc.2.1, hc.2.2.1, hc.2.2.2.1, hc.2.2.2.2.1, hc.2.2.2.2.2.1, hc.2.2.2.2.2.2.1, hc.2.2.2.2.2.2.2.1, hc.2.2.2.2.2.2.2.2.1, ⟨hc.2.2.2.2.2.2.2.2.2.1.1, hc.2.2.2.2.2.2.2.2.2.1.2.1, by show c' ≤ (gRm G).cells; rw [hRm]; exact hc1, by show s' ≤ (gRm G).slots; rw [hRm]; exact hs1⟩, hc.2.2.2.2.2.2.2.2.2.2.agrn hag'⟩
    ⟨rfl, rfl, hRm, hAe, (hag' 4000000 (Or.inr (by omega))).trans hb4, rfl, rfl, hXs, hbl, hQ, hga, hnL⟩ u hb H locs ls (by show va_P _ _ (wd _ _ _ _ _ _) _; exact e ▸ hP) (by show va_D _ (wd _ _ _ _ _ _); exact e ▸ hD) hS (by show lv_has ls (gnL G) (trl (adn (gad G) n q0) lv); rw [trl_agrn hag' hol]; exact hl)
  have ee : trs (adn (gad G) n q0) (.ref n :: st) = .ref q0 :: trs (gad G) st := by
    show tr _ _ :: trs (adn (gad G) n q0) st = _
    rw [trs_agrn hag' hos]
    simp [tr, adn]
  have h10 : W (gp G) (gl G) (ge G) (gRm G) (gs G) (gm G) (ga G) (gbel G) (gme G) (gc G) H locs c' s' (gQ G u) (F0 (gm G) pc' ls (trs (adn (gad G) n q0) (.ref n :: st))) := h9
  rw [ee] at h10
  exact h10
theorem w_newL {ci N idx : Nat} {C : String} {T : u_T} {ty : Nat → FieldType} (hc : Cx G cc own rt fr lo) (hX : LSx G b Ls xs n m c s) (hd : decode cc pc = .ok (.new idx, 3))
    (hkb : K0[n]? = some (ci, 0)) (h8 : ci < 8) (hv : vwCl[ci]? = some (C, T, N)) (hfn : fnn ci = N) (hin : ∀ w ∈ u_ws C T N, w ∈ wsA) (hty : ∀ k, k < N → parseFieldDescriptor (T k).2.2.1 = some (ty k)) (hdf : ∀ j, j < N → defaultValue (ty j) = (if fty ci j = 0 then .int 0 else if fty ci j = 1 then .long 0 else .null)) (hcl : Cond.classLink own idx C ∈ wsA) (hins : Cond.instantiable C N ∈ wsA) (hini : Cond.initialized C ∈ wsA)
    (hI : I n = fun _ => 0) (hL : L n = fun _ => 0) (hRn : Rp RL0 Rb0 m n = fun _ => none) (hn6 : n < 1000000) (hR : ∀ p j, p < n → Rp RL0 Rb0 m p j ≠ some n) (hc1 : c + 1 ≤ 600000) (hs1 : s + N ≤ 7302250) (hol : lv.all (fun q => oknv n q.2) = true) (hos : st.all (oknv n) = true) (e : q = pc + 3)
    (kk : ∀ G : GT Unit, Cx G cc own rt fr lo → LSx G b Ls xs (n + 1) m (c + 1) (s + N) → WW G q lv (.ref n :: st) I L X) : WW G pc lv st I L X := by
  subst e
  intro u hb H locs ls hP hD hS hl
  have h5 := hX.2.1
  have hRm := hX.2.2.1
  have h6 := hX.2.2.2.2.2.1
  have h7 := hX.2.2.2.2.2.2.1
  refine va_new (ci := ci) (fs := fvs (gad G) (gR G) I L n ci) (C := C) (T := T) (N := N) hc.1 hc.2.1 hc.2.2.2.2.1 hin ty hty hc.2.2.2.1 (hc.2.2.2.2.1 _ hcl) (hc.2.2.2.2.1 _ hins) (hc.2.2.2.2.1 _ hini) hc.2.2.2.2.2.1 hP hD hS hc.2.2.2.2.2.2.1 hv ?_ ?_ ?_ hd (fun q0 H1 hP1 hD1 hS1 => ?_)
  · intro j hj
    rw [hdf j hj]
    show _ = (fvs (gad G) (gR G) I L n ci).getD j .null
    rw [List.getD_eq_getElem?_getD, fvs_get (by rw [hfn]; exact hj)]
    show _ = fv (gad G) (gR G) I L n (fty ci j) j
    unfold fv
    rw [h5, hRn, hI, hL]
    rfl
  · rw [h6, hRm]; exact hc1
  · rw [h7, hRm]; exact hs1
  · have ece : ∀ q0, ce (gtc G) (adn (gad G) n q0) (gR G) I L n (ci, 0) = .inr (ci, fvs (gad G) (gR G) I L n ci) := by
      intro q0
      rw [ce_adn (fun j => by rw [h5, hRn]; simp)]
      simp [ce, h8]
    have hw := w_growL (q0 := q0) (a := 0) (c' := c + 1) (s' := s + N) (pc' := pc + 3) hc hX hkb hn6 hR hc1 hs1 hol hos hb (by rw [ece]; exact hP1) (by rw [ece]; exact hD1) hS1 hl kk
    rw [h6, h7]
    exact hw
theorem w_ctorL {F : Option Mm} {x : Mm} {y : MethodName} {cy : ByteArray} {maxL fr' lo' mc' ms' idx p n' m' : Nat} (hF : F = some x) (hc : Cx G cc own rt fr lo) (hX : LSx G b Ls xs n m c s) (hM : MFs (gl G) y cy maxL fr' lo' mc' ms' [.ref p] K0 RL0 Rb0 n m n' m' I L F)
    (hd : decode cc pc = .ok (.invokespecial idx, 3)) (hw : Cond.methodLink own idx y ∈ wsA) (hf : CalF y cy maxL none 0) (hs : Cond.instanceMethod y ∈ wsA) (hyn : y.name = "<init>") (h8 : (st.map fun v => v.category).sum ≤ 8) (hroom : fr' + 1 ≤ fr ∧ 8 + (maxL + 11) + lo' ≤ lo) (hcm : c + mc' ≤ 600000) (hsm : s + ms' ≤ 7302250) (hnn : n ≤ n') (hol : lv.all (fun q => oknv n q.2) = true) (hos : st.all (oknv n) = true) (e : q = pc + 3)
    (kk : ∀ (G : GT Unit), Cx G cc own rt fr lo → LSx G b Ls xs n' m' (c + mc') (s + ms') → WW G q lv st x.1 x.2 X) : WW G pc lv (.ref p :: st) I L X := by
  subst e
  intro u hb H locs ls hP hD hS hl
  obtain ⟨c1, c2, c3, c4, c5⟩ := hf
  obtain ⟨hKe, hRe, hRm, hAe, hb4, hcl, hsl, hXs, hbl, hQ, hga, hnL⟩ := id hX
  have hpre := w_pre (D := gD G) (tc := gtc G) hc hP hD hS [.ref p]
  have hMet := hM x hF (gD G) (gtc G) (gad G) H.size
  rw [← hKe, ← hRe] at hMet
  have hG : GoodIn wsA (Cond.code y cy maxL none :: wsA) := fun w hw => by
      rcases List.mem_cons.mp hw with rfl | h2
      · exact ⟨c1, good_of_word (wsA_good _ c1)⟩
      · exact ⟨h2, good_of_word (wsA_good _ h2)⟩
  have hr := va_runI (b := gad G p) (As := []) (rest := trs (gad G) st) (n := 0) (g := F0 (gm G) pc ls (trs (gad G) (.ref p :: st))) (e := ge G) (R := gRm G) (below := gbel G) (meth := gme G) (H := H) (locs := locs) (cells := gcl G) (slots := gsl G) ⟨hc.1, hc.2.1, hc.2.2.1, hc.2.2.2.1, hc.2.2.2.2.1⟩ hMet ⟨callB_of 0 hc.2.2.2.2.1 hG rfl rfl rfl (hc.2.2.2.2.1 _ c2) (hc.2.2.2.2.1 _ hw) ⟨c3, c4, c5⟩ ⟨by rw [hc.2.2.2.2.2.2.2.2.2.1.1]; exact hroom.1, by rw [hc.2.2.2.2.2.2.2.2.2.1.2.1]; exact hroom.2⟩, hyn, hc.2.2.2.2.1 _ hs⟩ ⟨PreU.blind, hpre⟩ rfl rfl hl.1 rfl (by rw [cat_tr]; show 2 * 0 + _ ≤ 8; omega) hd ⟨by rw [hcl, hRm]; exact hcm, by rw [hsl, hRm]; exact hsm⟩
  have hAA : ∀ q, aA (gad G) (gK G) H.size q → gA G q := by
    intro q h
    rcases h with ⟨p, hp, rfl⟩ | h
    · exact hD.2 p _ (wd_get (List.getElem?_eq_getElem hp))
    · exact hc.2.2.2.2.2.2.1 q (Nat.le_trans hS.1 h)
  intro T hT X0
  obtain ⟨v, st₀, t, T', Lc, h0, X', hL, e1, e2, ⟨⟨ad', hag', hv', hB, hin9⟩, hz, hkp⟩, hst⟩ := hr T hT X0
  cases hv'
  rw [h0] at hz hkp
  rw [← hKe] at hkp
  rw [← hKe] at hin9
  have hS' : va_S (gA G) (gs G).heap T'.heap (locs ++ Lc) := ⟨Nat.le_trans hS.1 (by rw [e1]; exact hz), fun q h1 h2 => by rw [e1, hkp q (Nat.lt_of_lt_of_le h1 hS.1) (fun z => h2 (hAA q z))]; exact hS.2.1 q h1 h2, fun q hq => by
      rcases List.mem_append.mp hq with h | h
      · exact hS.2.2 q h
      · exact hAA _ (hL q h)⟩
  have hD' : va_D (gA G) (wd (gtc G) ad' (K0.take n') (Rp RL0 Rb0 m') x.1 x.2) := ⟨hB.2.2.1, fun k q hk => by
    have h2 : k < (K0.take n').length := by
      have := (List.getElem?_eq_some_iff.mp hk).1
      simpa [wd] using this
    rw [wd_get (List.getElem?_eq_getElem h2)] at hk
    cases hk
    exact hAA _ (hin9 k h2)⟩
  have h9 := kk (gsetS G ad' (K0.take n') (Rp RL0 Rb0 m') (c + mc') (s + ms')) ⟨hc.1, hc.2.1, hc.2.2.1, hc.2.2.2.1, hc.2.2.2.2.1, hc.2.2.2.2.2.1, hc.2.2.2.2.2.2.1, hc.2.2.2.2.2.2.2.1, hc.2.2.2.2.2.2.2.2.1, ⟨hc.2.2.2.2.2.2.2.2.2.1.1, hc.2.2.2.2.2.2.2.2.2.1.2.1, by show c + mc' ≤ (gRm G).cells; rw [hRm]; exact hcm, by show s + ms' ≤ (gRm G).slots; rw [hRm]; exact hsm⟩, hc.2.2.2.2.2.2.2.2.2.2.agrn hag'⟩
    ⟨rfl, rfl, hRm, hAe, (hag' 4000000 (Or.inr (by omega))).trans hb4, rfl, rfl, hXs, hbl, hQ, hga, hnL⟩ u hb T'.heap (locs ++ Lc) ls (by rw [e1]; exact hB.1) hD' hS' (by show lv_has ls (gnL G) (trl ad' lv); rw [trl_agrn hag' hol]; exact hl)
  have X2 : Stand (gp G) (gl G) (ge G) (gRm G) (gs G) (gm G) (ga G) (gbel G) (gme G) (gc G) T' (locs ++ Lc) (c + mc') (s + ms') := by
    have := X'
    rwa [hcl, hsl] at this
  obtain ⟨t2, a1, b1⟩ := h9 T' rfl X2
  refine ⟨t2, hst t2 ?_, b1⟩
  have a2 : Steps (gp G).tables (ge G) (gbel G) (T'.setTop (F0 (gm G) (pc + 3) ls (trs ad' st))) t2 := a1
  rw [trs_agrn hag' hos] at a2
  exact a2
end LG
