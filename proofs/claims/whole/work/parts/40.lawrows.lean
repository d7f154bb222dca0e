/-! the law's own rows: the script is the reference 4000000 -/
def LX (G : GT Unit) (b Ls : Nat) (xs : Nat → Int32) (rm c s : Nat) : Prop :=
  gK G = lK rm ∧ gR G = lR rm ∧ gRm G = room_1 ∧ gA G = (fun q : Nat => (gs G).heap.size ≤ q) ∧ gad G 4000000 = b ∧ gcl G = c ∧ gsl G = s ∧ va_X b Ls xs (gs G) (gs G).heap ∧ b < (gs G).heap.size ∧ (∀ u, gQ G u = lw_Z (gbel G) #[Value.ref b] (gs G)) ∧ ga G = #[Value.ref b] ∧ gnL G = 4
section LW
variable {G : GT Unit} {cc : ByteArray} {own : String} {rt : Option FieldType} {fr lo pc q : Nat} {lv : List (Nat × Value)} {st : List Value} {I : MI} {L : ML} {X : Option Unit} {b Ls rm c s : Nat} {xs : Nat → Int32}
theorem w_slen4 (hc : Cx G cc own rt fr lo) (hX : LX G b Ls xs rm c s) (hd : decode cc pc = .ok (.arraylength, 1)) (e : q = pc + 1) (kk : WW G q lv (.int (Int32.ofNat Ls) :: st) I L X) : WW G pc lv (.ref 4000000 :: st) I L X := by
  subst e
  intro u hu H locs ls hP hD hS hl
  obtain ⟨h1, h2, h3, h4, h5, h6, h7, h8, h9, h10, h11, h12⟩ := hX
  have hh : trs (gad G) (.ref 4000000 :: st) = .ref b :: trs (gad G) st := by
    show Value.ref (gad G 4000000) :: _ = _
    rw [h5]
  rw [hh]
  exact va_slen hc.1 hc.2.1 h8 h9 (by rw [h4]; exact Nat.not_le.mpr h9) hS hd (kk u hu H locs ls hP hD hS hl)
theorem w_sld4 {i : Int32} (hc : Cx G cc own rt fr lo) (hX : LX G b Ls xs rm c s) (hd : decode cc pc = .ok (.iaload, 1)) (hi : vp_in i Ls) (e : q = pc + 1) (kk : WW G q lv (.int (xs (ix i)) :: st) I L X) : WW G pc lv (.int i :: .ref 4000000 :: st) I L X := by
  subst e
  intro u hu H locs ls hP hD hS hl
  obtain ⟨h1, h2, h3, h4, h5, h6, h7, h8, h9, h10, h11, h12⟩ := hX
  have hh : trs (gad G) (.int i :: .ref 4000000 :: st) = .int i :: .ref b :: trs (gad G) st := by
    show _ :: Value.ref (gad G 4000000) :: _ = _
    rw [h5]; rfl
  rw [hh]
  exact va_sld hc.1 hc.2.1 h8 h9 (by rw [h4]; exact Nat.not_le.mpr h9) hS hi hd (kk u hu H locs ls hP hD hS hl)
theorem w_icmpeqT {x : Int32} {off : Int} {tgt : Nat} (hc : Cx G cc own rt fr lo) (hd : decode cc pc = .ok (.if_icmp .eq off, 3)) (ht : (pc : Int) + off = (tgt : Int)) (kk : WW G tgt lv st I L X) : WW G pc lv (.int x :: .int x :: st) I L X := by
  intro u hu H locs ls hP hD hS hl
  exact lv_icmp_eq hc.1 hc.2.1 hd ht (fun _ => kk u hu H locs ls hP hD hS hl) (fun z => absurd rfl z)
theorem lg_self (x : Int64) : lg_cmp x x = 0 := by
  unfold lg_cmp
  have : ¬ x > x := by simp only [gt_iff_lt, Int64.lt_iff_toInt_lt]; omega
  rw [if_neg this, if_pos rfl]
/-- a call without a new roster, at the law -/
theorem w_lawV {γ : Type} {an : γ → Option Value} {me : γ → Mm} {F : Option γ} {x : γ} {y : MethodName} {cy : ByteArray} {maxL fr' lo' idx n p ci k0 N : Nat} {C : String} {T : u_T} {rt' : Option FieldType} {args stk : List Value} (hF : F = some x) (hc : Cx G cc own rt fr lo) (hM : MFg (gl G) y cy maxL rt' fr' lo' (.ref p :: args) (gK G) (gR G) I L an me F)
    (hd : decode cc pc = .ok (.invokevirtual idx, 3)) (hw : Cond.methodLink own idx y ∈ wsA) (hf : CalF y cy maxL rt' n) (hs : Cond.instanceMethod y ∈ wsA ∧ Cond.selects y.cls y y ∈ wsA) (hk : (gK G)[p]? = some (ci, k0)) (hv : vwCl[ci]? = some (C, T, N)) (hC : C = y.cls) (h8c : ci < 8) (hn : args.length = n) (hstk : stk = args.reverse ++ .ref p :: st) (h8 : (st.map fun v => v.category).sum ≤ 8) (hroom : fr' + 1 ≤ fr ∧ 8 + (maxL + 11) + lo' ≤ lo) (e : q = pc + 3)
    (kk : WW G q lv ((an x).toList ++ st) (me x).1 (me x).2 X) : WW G pc lv stk I L X := by
  subst e
  subst hF
  intro u hu H locs ls hP hD hS hl
  obtain ⟨c1, c2, c3, c4, c5⟩ := hf
  have hg : (gwd G I L)[p]? = some (gad G p, .inr (ci, fvs (gad G) (gR G) I L p ci)) := by rw [wd_get hk]; simp [ce, h8c]
  have hrc := va_recv hc.2.2.2.2.2.1 hP hv hg
  refine w_back (a := (trs (gad G) (.ref p :: args)).toArray) (F := some x) (X' := fun _ => X) hc (va_runV (C := y.cls) (b := gad G p) (As := trs (gad G) args) (n := n) ⟨hc.1, hc.2.1, hc.2.2.1, hc.2.2.2.1, hc.2.2.2.2.1⟩ (hM x rfl (gD G) (gtc G) (gad G) H.size) ⟨callB_of n hc.2.2.2.2.1 (ws := Cond.code y cy maxL rt' :: wsA) (fun w hw => by
      rcases List.mem_cons.mp hw with rfl | h2
      · exact ⟨c1, good_of_word (wsA_good _ c1)⟩
      · exact ⟨h2, good_of_word (wsA_good _ h2)⟩) rfl rfl rfl (hc.2.2.2.2.1 _ c2) (hc.2.2.2.2.1 _ hw) ⟨c3, c4, c5⟩ ⟨by rw [hc.2.2.2.2.2.2.2.2.2.1.1]; exact hroom.1, by rw [hc.2.2.2.2.2.2.2.2.2.1.2.1]; exact hroom.2⟩, hc.2.2.2.2.1 _ hs.1, hc.2.2.2.2.1 _ hs.2⟩ ⟨PreU.blind, by rw [← hC]; exact hrc, w_pre (D := gD G) (tc := gtc G) hc hP hD hS (.ref p :: args)⟩ rfl (by simp [hn]) hl.1 (by rw [hstk]; simp [tr]) (by rw [cat_tr]; show 2 * 0 + _ ≤ 8; omega) hd ⟨hc.2.2.2.2.2.2.2.2.2.1.2.2.1, hc.2.2.2.2.2.2.2.2.2.1.2.2.2⟩) hD hS hl hu kk
/-- a call that may make one -/
theorem w_lawA {γ : Type} {an : γ → Option Value} {me : γ → Mm} {ro : γ → Nat} {F : Option γ} {x : γ} {y : MethodName} {cy : ByteArray} {maxL fr' lo' idx n p ci k0 N : Nat} {C : String} {T : u_T} {rt' : Option FieldType} {args stk : List Value} (hF : F = some x) (hc : Cx G cc own rt fr lo) (hX : LX G b Ls xs rm c s) (hM : MFa (gl G) y cy maxL rt' fr' lo' (.ref p :: args) rm I L an me ro F)
    (hd : decode cc pc = .ok (.invokevirtual idx, 3)) (hw : Cond.methodLink own idx y ∈ wsA) (hf : CalF y cy maxL rt' n) (hs : Cond.instanceMethod y ∈ wsA ∧ Cond.selects y.cls y y ∈ wsA) (hk : (gK G)[p]? = some (ci, k0)) (hv : vwCl[ci]? = some (C, T, N)) (hC : C = y.cls) (h8c : ci < 8) (hn : args.length = n) (hstk : stk = args.reverse ++ .ref p :: st) (h8 : (st.map fun v => v.category).sum ≤ 8) (hroom : fr' + 1 ≤ fr ∧ 8 + (maxL + 11) + lo' ≤ lo) (hol : okl lv = true) (hos : oks st = true) (hle : ro x ≤ 5040) (hcb : c + 20 ≤ 600000) (hsb : s + 90748 ≤ 7302250) (e : q = pc + 3)
    (kk : ∀ G : GT Unit, Cx G cc own rt fr lo → LX G b Ls xs (ro x) (c + mcA rm (ro x)) (s + msA rm (ro x)) → WW G q lv ((an x).toList ++ st) (me x).1 (me x).2 X) : WW G pc lv stk I L X := by
  subst e
  subst hF
  intro u hu H locs ls hP hD hS hl
  obtain ⟨c1, c2, c3, c4, c5⟩ := hf
  obtain ⟨hKe, hRe, hRm, hAe, hb4, hcl, hsl, hXs, hbl, hQ, hga, hnL⟩ := id hX
  have hg : (gwd G I L)[p]? = some (gad G p, .inr (ci, fvs (gad G) (gR G) I L p ci)) := by rw [wd_get hk]; simp [ce, h8c]
  have hrc := va_recv hc.2.2.2.2.2.1 hP hv hg
  have hpre := w_pre (D := gD G) (tc := gtc G) hc hP hD hS (.ref p :: args)
  have hMet := hM x rfl (gD G) (gtc G) (gad G) H.size
  rw [← hKe, ← hRe] at hMet
  have hr := runV2 (C := y.cls) (b := gad G p) (As := trs (gad G) args) (rest := trs (gad G) st) (n := n) (g := F0 (gm G) pc ls (trs (gad G) stk)) (e := ge G) (R := gRm G) (below := gbel G) (meth := gme G) (H := H) (locs := locs) (cells := gcl G) (slots := gsl G) ⟨hc.1, hc.2.1, hc.2.2.1, hc.2.2.2.1, hc.2.2.2.2.1⟩ hMet ⟨callB_of n hc.2.2.2.2.1 (ws := Cond.code y cy maxL rt' :: wsA) (fun w hw => by
      rcases List.mem_cons.mp hw with rfl | h2
      · exact ⟨c1, good_of_word (wsA_good _ c1)⟩
      · exact ⟨h2, good_of_word (wsA_good _ h2)⟩) rfl rfl rfl (hc.2.2.2.2.1 _ c2) (hc.2.2.2.2.1 _ hw) ⟨c3, c4, c5⟩ ⟨by rw [hc.2.2.2.2.2.2.2.2.2.1.1]; exact hroom.1, by rw [hc.2.2.2.2.2.2.2.2.2.1.2.1]; exact hroom.2⟩, hc.2.2.2.2.1 _ hs.1, hc.2.2.2.2.1 _ hs.2⟩ ⟨PreU.blind, by rw [← hC]; exact hrc, hpre⟩ rfl (by simp [hn]) hl.1 (by rw [hstk]; simp [tr]) (by rw [cat_tr]; show 2 * 0 + _ ≤ 8; omega) hd ⟨by rw [hcl, hRm]; exact hcb, by rw [hsl, hRm]; exact hsb⟩
  have hAA : ∀ q, aA (gad G) (gK G) H.size q → gA G q := by
    intro q h
    rcases h with ⟨p, hp, rfl⟩ | h
    · exact hD.2 p _ (wd_get (List.getElem?_eq_getElem hp))
    · exact hc.2.2.2.2.2.2.1 q (Nat.le_trans hS.1 h)
  intro T hT X0
  obtain ⟨v, st₀, t, T', Lc, h0, X', hL, e1, e2, ⟨⟨ad', hag', hv', hB, hin⟩, hz, hkp⟩, hst⟩ := hr T hT X0
  cases hv'
  rw [h0] at hz hkp
  rw [← hKe] at hkp
  rw [← hKe] at hin
  have hS' : va_S (gA G) (gs G).heap T'.heap (locs ++ Lc) := ⟨Nat.le_trans hS.1 (by rw [e1]; exact hz), fun q h1 h2 => by rw [e1, hkp q (Nat.lt_of_lt_of_le h1 hS.1) (fun z => h2 (hAA q z))]; exact hS.2.1 q h1 h2, fun q hq => by
      rcases List.mem_append.mp hq with h | h
      · exact hS.2.2 q h
      · exact hAA _ (hL q h)⟩
  have hD' : va_D (gA G) (wd (gtc G) ad' (lK (ro x)) (lR (ro x)) (me x).1 (me x).2) := ⟨hB.2.2.1, fun k q hk => by
    have h2 : k < (lK (ro x)).length := by
      have := (List.getElem?_eq_some_iff.mp hk).1
      simpa [wd] using this
    rw [wd_get (List.getElem?_eq_getElem h2)] at hk
    cases hk
    exact hAA _ (hin k h2)⟩
  have hm1 := mcA_le rm (ro x)
  have hm2 := msA_le (r := rm) hle
  have h9 := kk (gsetS G ad' (lK (ro x)) (lR (ro x)) (c + mcA rm (ro x)) (s + msA rm (ro x))) ⟨hc.1, hc.2.1, hc.2.2.1, hc.2.2.2.1, hc.2.2.2.2.1, hc.2.2.2.2.2.1, hc.2.2.2.2.2.2.1, hc.2.2.2.2.2.2.2.1, hc.2.2.2.2.2.2.2.2.1, ⟨hc.2.2.2.2.2.2.2.2.2.1.1, hc.2.2.2.2.2.2.2.2.2.1.2.1, by show c + mcA rm (ro x) ≤ (gRm G).cells; rw [hRm]; show _ ≤ 600000; omega, by show s + msA rm (ro x) ≤ (gRm G).slots; rw [hRm]; show _ ≤ 7302250; omega⟩, hc.2.2.2.2.2.2.2.2.2.2.agr hag'⟩
    ⟨rfl, rfl, hRm, hAe, (hag' 4000000 (Or.inr (by omega))).trans hb4, rfl, rfl, hXs, hbl, hQ, hga, hnL⟩ u hu T'.heap (locs ++ Lc) ls (by rw [e1]; exact hB.1) hD' hS' (by show lv_has ls (gnL G) (trl ad' lv); rw [trl_agr hag' hol]; exact hl)
  have X2 : Stand (gp G) (gl G) (ge G) (gRm G) (gs G) (gm G) (ga G) (gbel G) (gme G) (gc G) T' (locs ++ Lc) (c + mcA rm (ro x)) (s + msA rm (ro x)) := by
    have := X'
    rwa [hcl, hsl] at this
  obtain ⟨t2, a1, b1⟩ := h9 T' rfl X2
  refine ⟨t2, hst t2 ?_, b1⟩
  have ee : trs ad' ((an x).toList ++ st) = ((an x).map (tr ad')).toList ++ trs (gad G) st := by
    have h1 := trs_agr hag' hos
    show List.map (tr ad') _ = _
    rw [List.map_append]
    rw [show List.map (tr ad') st = trs (gad G) st from h1]
    cases an x <;> simp
  have a2 : Steps (gp G).tables (ge G) (gbel G) (T'.setTop (F0 (gm G) (pc + 3) ls (trs ad' ((an x).toList ++ st)))) t2 := a1
  rw [ee] at a2
  exact a2
/-- the end: 1 -/
theorem w_lawret (hc : Cx G code own ret fr lo) (hX : LX G b Ls xs rm c s) (hcb : c ≤ 600000) (hsb : s ≤ 7302250) (hd : decode code pc = .ok (.ireturn, 1)) : WW G pc lv [.int 1] I L X := by
  intro u hu H locs ls hP hD hS hl
  obtain ⟨hKe, hRe, hRm, hAe, hb4, hcl, hsl, hXs, hbl, hQ, hga, hnL⟩ := hX
  show W _ _ _ _ _ _ _ _ _ _ _ _ _ _ (gQ G u) _
  rw [hQ u, hga, hRm]
  refine va_forget (fun q hq => by have := hS.2.2 q hq; rwa [hAe] at this) ?_
  refine W.widen (k := 600000) (n := 7302250) (by rw [hcl]; exact hcb) (by rw [hsl]; exact hsb) ?_
  exact lw_ret hc.1 hc.2.1 hc.2.2.2.2.2.2.2.1 hc.2.2.2.2.2.2.2.2.1 hd
end LW
