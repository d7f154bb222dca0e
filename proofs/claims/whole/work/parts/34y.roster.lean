/-! a new Roster inside all(): the world grows by twenty cells, the old roster is forgotten, the new one takes its places -/
section RO
variable {β : Type} {G : GT β} {cc : ByteArray} {own : String} {rt : Option FieldType} {fr lo pc q : Nat} {lv : List (Nat × Value)} {st : List Value} {I : MI} {L : ML} {X : Option β}
theorem wd_mem {tc : Nat → ClassId} {ad : Nat → Nat} {K : KT} {R R' : MR} {I' : MI} {L' : ML} (hR : ∀ p, p < K.length → R p = R' p) (hI : ∀ p, p < K.length → I p = I' p) (hL : ∀ p, p < K.length → L p = L' p) : wd tc ad K R I L = wd tc ad K R' I' L' := by
  apply List.ext_getElem?
  intro j
  show (List.mapIdx _ K)[j]? = (List.mapIdx _ K)[j]?
  rw [List.getElem?_mapIdx, List.getElem?_mapIdx]
  cases hj : K[j]? with
  | none => rfl
  | some x =>
    have hlt : j < K.length := (List.getElem?_eq_some_iff.mp hj).1
    simp only [Option.map_some]
    rw [ce_ext (hR j hlt) (hI j hlt) (hL j hlt)]
theorem w_zero {I' : MI} {L' : ML} (hI : ∀ p, p < (gK G).length → I p = I' p) (hL : ∀ p, p < (gK G).length → L p = L' p) (kk : WW G pc lv st I' L' X) : WW G pc lv st I L X := by
  intro b hb H locs ls hP hD hS hl
  have e : gwd G I L = gwd G I' L' := wd_mem (fun _ _ => rfl) hI hL
  exact kk b hb H locs ls (by rw [← e]; exact hP) (by rw [← e]; exact hD) hS hl
theorem cx_set {ad : Nat → Nat} {K : KT} {R : MR} {c s : Nat} (hc : Cx G cc own rt fr lo) (hcl : c ≤ (gRm G).cells) (hsl : s ≤ (gRm G).slots) (hE : Ex ad (gA G) (gs G)) : Cx (gsetS G ad K R c s) cc own rt fr lo :=
  ⟨hc.1, hc.2.1, hc.2.2.1, hc.2.2.2.1, hc.2.2.2.2.1, hc.2.2.2.2.2.1, hc.2.2.2.2.2.2.1, hc.2.2.2.2.2.2.2.1, hc.2.2.2.2.2.2.2.2.1, ⟨hc.2.2.2.2.2.2.2.2.2.1.1, hc.2.2.2.2.2.2.2.2.2.1.2.1, hcl, hsl⟩, hE⟩
theorem w_newG {n ci N idx : Nat} {C : String} {T : u_T} {ty : Nat → FieldType} (hc : Cx G cc own rt fr lo) (hn : (gK G).length = n) (hd : decode cc pc = .ok (.new idx, 3))
    (h8 : ci < 8) (hv : vwCl[ci]? = some (C, T, N)) (hfn : fnn ci = N) (hin : ∀ w ∈ u_ws C T N, w ∈ wsA) (hty : ∀ k, k < N → parseFieldDescriptor (T k).2.2.1 = some (ty k)) (hdf : ∀ j, j < N → defaultValue (ty j) = (if fty ci j = 0 then .int 0 else if fty ci j = 1 then .long 0 else .null)) (hcl : Cond.classLink own idx C ∈ wsA) (hins : Cond.instantiable C N ∈ wsA) (hini : Cond.initialized C ∈ wsA)
    (hI : I n = fun _ => 0) (hL : L n = fun _ => 0) (hRn : gR G n = fun _ => none) (hn6 : n < 1000000) (hR : ∀ p j, p < n → gR G p j ≠ some n) (hc1 : gcl G + 1 ≤ (gRm G).cells) (hs1 : gsl G + N ≤ (gRm G).slots) (hol : lv.all (fun q => oknv n q.2) = true) (hos : st.all (oknv n) = true) (e : q = pc + 3)
    (kk : ∀ q0, Cx (gsetS G (adn (gad G) n q0) (gK G ++ [(ci, 0)]) (gR G) (gcl G + 1) (gsl G + N)) cc own rt fr lo → WW (gsetS G (adn (gad G) n q0) (gK G ++ [(ci, 0)]) (gR G) (gcl G + 1) (gsl G + N)) q lv (.ref n :: st) I L X) : WW G pc lv st I L X := by
  subst e
  subst hn
  intro b hb H locs ls hP hD hS hl
  refine va_new (ci := ci) (fs := fvs (gad G) (gR G) I L (gK G).length ci) (C := C) (T := T) (N := N) hc.1 hc.2.1 hc.2.2.2.2.1 hin ty hty hc.2.2.2.1 (hc.2.2.2.2.1 _ hcl) (hc.2.2.2.2.1 _ hins) (hc.2.2.2.2.1 _ hini) hc.2.2.2.2.2.1 hP hD hS hc.2.2.2.2.2.2.1 hv ?_ hc1 hs1 hd (fun q0 H1 hP1 hD1 hS1 => ?_)
  · intro j hj
    rw [hdf j hj]
    show _ = (fvs (gad G) (gR G) I L (gK G).length ci).getD j .null
    rw [List.getD_eq_getElem?_getD, fvs_get (by rw [hfn]; exact hj)]
    show _ = fv (gad G) (gR G) I L (gK G).length (fty ci j) j
    unfold fv
    rw [hRn, hI, hL]
    rfl
  · have ece : ce (gtc G) (adn (gad G) (gK G).length q0) (gR G) I L (gK G).length (ci, 0) = .inr (ci, fvs (gad G) (gR G) I L (gK G).length ci) := by
      rw [ce_adn (fun j => by rw [hRn]; simp)]
      simp [ce, h8]
    have hag' : agrn (gK G).length (gad G) (adn (gad G) (gK G).length q0) := adn_agr hn6
    have e := wd_push (tc := gtc G) (ad := gad G) (K := gK G) (R := gR G) (I := I) (L := L) (k := (ci, 0)) (q := q0) hR
    rw [ece] at e
    have h9 := kk q0 (cx_set hc hc1 hs1 (hc.2.2.2.2.2.2.2.2.2.2.agrn hag')) b hb H1 locs ls (by show va_P _ _ (wd _ _ _ _ _ _) _; exact e ▸ hP1) (by show va_D _ (wd _ _ _ _ _ _); exact e ▸ hD1) hS1 (by show lv_has ls (gnL G) (trl (adn (gad G) (gK G).length q0) lv); rw [trl_agrn hag' hol]; exact hl)
    have ee : trs (adn (gad G) (gK G).length q0) (.ref (gK G).length :: st) = .ref q0 :: trs (gad G) st := by
      show tr _ _ :: trs (adn (gad G) (gK G).length q0) st = _
      rw [trs_agrn hag' hos]
      simp [tr, adn]
    have h10 : W (gp G) (gl G) (ge G) (gRm G) (gs G) (gm G) (ga G) (gbel G) (gme G) (gc G) H1 locs (gcl G + 1) (gsl G + N) (gQ G b) (F0 (gm G) (pc + 3) ls (trs (adn (gad G) (gK G).length q0) (.ref (gK G).length :: st))) := h9
    rw [ee] at h10
    exact h10
theorem w_ctorG {KB : KT} {RL : RLT} {Rb : MR} {n m n' m' mc' ms' : Nat} {F : Option Mm} {x : Mm} {y : MethodName} {cy : ByteArray} {maxL fr' lo' idx p np : Nat} {args stk : List Value} (hF : F = some x) (hc : Cx G cc own rt fr lo) (hKe : gK G = KB.take n) (hRe : gR G = Rp RL Rb m) (hM : MFs (gl G) y cy maxL fr' lo' mc' ms' (.ref p :: args) KB RL Rb n m n' m' I L F)
    (hd : decode cc pc = .ok (.invokespecial idx, 3)) (hw : Cond.methodLink own idx y ∈ wsA) (hf : CalF y cy maxL none np) (hs : Cond.instanceMethod y ∈ wsA) (hyn : y.name = "<init>") (hnp : args.length = np) (hstk : stk = args.reverse ++ .ref p :: st) (h8 : (st.map fun v => v.category).sum ≤ 8) (hroom : fr' + 1 ≤ fr ∧ 8 + (maxL + 11) + lo' ≤ lo) (hcm : gcl G + mc' ≤ (gRm G).cells) (hsm : gsl G + ms' ≤ (gRm G).slots) (hol : lv.all (fun q => oknv n q.2) = true) (hos : st.all (oknv n) = true) (e : q = pc + 3)
    (kk : ∀ ad', agrn n (gad G) ad' → (∀ p, p < (KB.take n').length → gA G (ad' p)) → Cx (gsetS G ad' (KB.take n') (Rp RL Rb m') (gcl G + mc') (gsl G + ms')) cc own rt fr lo → WW (gsetS G ad' (KB.take n') (Rp RL Rb m') (gcl G + mc') (gsl G + ms')) q lv st x.1 x.2 X) : WW G pc lv stk I L X := by
  subst e
  intro u hb H locs ls hP hD hS hl
  obtain ⟨c1, c2, c3, c4, c5⟩ := hf
  have hpre := w_pre (D := gD G) (tc := gtc G) hc hP hD hS (.ref p :: args)
  have hMet := hM x hF (gD G) (gtc G) (gad G) H.size
  rw [← hKe, ← hRe] at hMet
  have hG : GoodIn wsA (Cond.code y cy maxL none :: wsA) := fun w hw => by
      rcases List.mem_cons.mp hw with rfl | h2
      · exact ⟨c1, good_of_word (wsA_good _ c1)⟩
      · exact ⟨h2, good_of_word (wsA_good _ h2)⟩
  have hr := va_runI (b := gad G p) (As := trs (gad G) args) (rest := trs (gad G) st) (n := np) (g := F0 (gm G) pc ls (trs (gad G) stk)) (e := ge G) (R := gRm G) (below := gbel G) (meth := gme G) (H := H) (locs := locs) (cells := gcl G) (slots := gsl G) ⟨hc.1, hc.2.1, hc.2.2.1, hc.2.2.2.1, hc.2.2.2.2.1⟩ hMet ⟨callB_of np hc.2.2.2.2.1 hG rfl rfl rfl (hc.2.2.2.2.1 _ c2) (hc.2.2.2.2.1 _ hw) ⟨c3, c4, c5⟩ ⟨by rw [hc.2.2.2.2.2.2.2.2.2.1.1]; exact hroom.1, by rw [hc.2.2.2.2.2.2.2.2.2.1.2.1]; exact hroom.2⟩, hyn, hc.2.2.2.2.1 _ hs⟩ ⟨PreU.blind, hpre⟩ rfl (by simp [hnp]) hl.1 (by rw [hstk]; simp [tr]) (by rw [cat_tr]; show 2 * 0 + _ ≤ 8; omega) hd ⟨hcm, hsm⟩
  have hAA : ∀ q, aA (gad G) (gK G) H.size q → gA G q := by
    intro q h
    rcases h with ⟨p, hp, rfl⟩ | h
    · exact hD.2 p _ (wd_get (List.getElem?_eq_getElem hp))
    · exact hc.2.2.2.2.2.2.1 q (Nat.le_trans hS.1 h)
  intro T hT X0
  obtain ⟨v, st₀, t, T', Lc, h0, X', hL, e1, e2, ⟨⟨ad', hag', hv', hB, hin9⟩, hz, hkp⟩, hst⟩ := hr T hT X0
  cases hv'
  rw [h0] at hz hkp
  rw [← hKe] at hkp
  rw [← hKe] at hin9
  have hS' : va_S (gA G) (gs G).heap T'.heap (locs ++ Lc) := ⟨Nat.le_trans hS.1 (by rw [e1]; exact hz), fun q h1 h2 => by rw [e1, hkp q (Nat.lt_of_lt_of_le h1 hS.1) (fun z => h2 (hAA q z))]; exact hS.2.1 q h1 h2, fun q hq => by
      rcases List.mem_append.mp hq with h | h
      · exact hS.2.2 q h
      · exact hAA _ (hL q h)⟩
  have hin8 : ∀ p, p < (KB.take n').length → gA G (ad' p) := fun p hp => hAA _ (hin9 p hp)
  have hD' : va_D (gA G) (wd (gtc G) ad' (KB.take n') (Rp RL Rb m') x.1 x.2) := ⟨hB.2.2.1, fun k q hk => by
    have h2 : k < (KB.take n').length := by
      have := (List.getElem?_eq_some_iff.mp hk).1
      simpa [wd] using this
    rw [wd_get (List.getElem?_eq_getElem h2)] at hk
    cases hk
    exact hin8 k h2⟩
  have h9 := kk ad' hag' hin8 (cx_set hc hcm hsm (hc.2.2.2.2.2.2.2.2.2.2.agrn hag')) u hb T'.heap (locs ++ Lc) ls (by rw [e1]; exact hB.1) hD' hS' (by show lv_has ls (gnL G) (trl ad' lv); rw [trl_agrn hag' hol]; exact hl)
  obtain ⟨t2, a1, b1⟩ := h9 T' rfl X'
  refine ⟨t2, hst t2 ?_, b1⟩
  have a2 : Steps (gp G).tables (ge G) (gbel G) (T'.setTop (F0 (gm G) (pc + 3) ls (trs ad' st))) t2 := a1
  rw [trs_agrn hag' hos] at a2
  exact a2
/-- a reference is put into a field that isn't final -/
theorem w_putRG {p ci k0 k N idx r : Nat} {C : String} {T : u_T} {ty0 : Nat → FieldType} {ty : FieldType} (hc : Cx G cc own rt fr lo) (hd : decode cc pc = .ok (.putfield idx, 3))
    (hk : (gK G)[p]? = some (ci, k0)) (hv : vwCl[ci]? = some (C, T, N)) (h8 : ci < 8) (hin : ∀ w ∈ u_ws C T N, w ∈ wsA) (hty : ∀ k, k < N → parseFieldDescriptor (T k).2.2.1 = some (ty0 k)) (hnm : ∀ a, a < N → ∀ b, b < N → a ≠ b → (T a).2.1 ≠ (T b).2.1) (hlt : k < N) (hf : k < fnn ci) (ht : fty ci k = 2) (hw : Cond.fieldLink own idx C (T k).2.1 (T k).2.2.1 ∈ wsA) (hC : (T k).1 = C) (hfin : (T k).2.2.2 = false) (hdt : parseFieldDescriptor (T k).2.2.1 = some ty) (hnar : ∀ a, narrow ty (.ref a) = .ref a) (hfit : ∀ a, fits ty (.ref a) = true) (e : q = pc + 3)
    (kk : WW (gsetS G (gad G) (gK G) (up2 (gR G) p k (some r)) (gcl G) (gsl G)) q lv st I L X) : WW G pc lv (.ref r :: .ref p :: st) I L X := by
  subst e
  intro b hb H locs ls hP hD hS hl
  have hg : (gwd G I L)[p]? = some (gad G p, .inr (ci, fvs (gad G) (gR G) I L p ci)) := by rw [wd_get hk]; simp [ce, h8]
  have he : (gwd G I L).set p (gad G p, .inr (ci, (fvs (gad G) (gR G) I L p ci).set k (.ref (gad G r)))) = wd (gtc G) (gad G) (gK G) (up2 (gR G) p k (some r)) I L := by
    rw [show Value.ref (gad G r) = va_rf ((some r).map (gad G)) from rfl, fvs_setR (by rw [ht]; decide) (by rw [ht]; decide)]
    refine Eq.trans ?_ (wd_set (tc := gtc G) (ad := gad G) hk (R := gR G) (R' := up2 (gR G) p k (some r)) (I := I) (I' := I) (L := L) (L' := L) (fun _ h => (up2_ne h).symm) (fun _ _ => rfl) (fun _ _ => rfl))
    simp [ce, h8]
  refine va_put hc.1 hc.2.1 hc.2.2.2.2.1 hin ty0 hty hnm hc.2.2.2.1 hc.2.2.2.2.2.1 hP hD hS p hg hv k hlt (hc.2.2.2.2.1 _ hw) (by rw [hC]; exact fun _ h9 => h9) hfin hdt (hnar _) (hfit _) (by rw [fvs_len]; exact hf) hd (fun H1 locs1 hP1 hD1 hS1 => ?_)
  have hP2 : va_P (gD G) vwCl (wd (gtc G) (gad G) (gK G) (up2 (gR G) p k (some r)) I L) H1 := by rw [← he]; exact hP1
  have hD2 : va_D (gA G) (wd (gtc G) (gad G) (gK G) (up2 (gR G) p k (some r)) I L) := by rw [← he]; exact hD1
  exact kk b hb H1 locs1 ls hP2 hD2 hS1 hl
/-- places are told anew: what isn't told is forgotten -/
theorem w_renum {ad' : Nat → Nat} {K' : KT} {R' : MR} {I' : MI} {L' : ML} (g : Nat → Nat) (hlt : ∀ p, p < K'.length → g p < (gK G).length) (hinj : ∀ p q, p < K'.length → q < K'.length → g p = g q → p = q) (hK : ∀ p, p < K'.length → (gK G)[g p]? = K'[p]?) (had : ∀ p, p < K'.length → ad' p = gad G (g p)) (hce : ∀ p k, K'[p]? = some k → ce (gtc G) ad' R' I' L' p k = ce (gtc G) (gad G) (gR G) I L (g p) k) (hl : trl ad' lv = trl (gad G) lv) (hs : trs ad' st = trs (gad G) st)
    (kk : WW (gsetS G ad' K' R' (gcl G) (gsl G)) pc lv st I' L' X) : WW G pc lv st I L X := by
  intro b hb H locs ls hP hD hS hls
  have key : ∀ (k : Nat) (q : Nat × va_E), (wd (gtc G) ad' K' R' I' L')[k]? = some q → (gwd G I L)[g k]? = some q := by
    intro k q hk
    have h2 : k < K'.length := by
      have := (List.getElem?_eq_some_iff.mp hk).1
      simpa [wd] using this
    have h3 : K'[k]? = some K'[k] := List.getElem?_eq_getElem h2
    rw [wd_get h3] at hk
    cases hk
    rw [wd_get ((hK k h2).trans h3), hce k _ h3, had k h2]
  have hlen : (wd (gtc G) ad' K' R' I' L').length = K'.length := by simp [wd]
  have hD2 : va_D (gA G) (wd (gtc G) ad' K' R' I' L') := hD.by g key (fun i j hi hj h => hinj i j (by rw [hlen] at hi; exact hi) (by rw [hlen] at hj; exact hj) h)
  have h9 := kk b hb H locs ls (hP.by g key) hD2 hS (by show lv_has ls (gnL G) (trl ad' lv); rw [hl]; exact hls)
  have h10 : W (gp G) (gl G) (ge G) (gRm G) (gs G) (gm G) (ga G) (gbel G) (gme G) (gc G) H locs (gcl G) (gsl G) (gQ G b) (F0 (gm G) pc ls (trs ad' st)) := h9
  rw [hs] at h10
  exact h10
end RO
