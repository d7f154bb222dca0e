/-! the three String constants: their length and their signs, by the JDK's own code -/
def slen (k : Nat) : Int32 := Int32.ofNat (sLen.getD k 0)
def sbt (k : Nat) (j : Nat) : Int32 := (sByt.getD k []).getD j 0
def i2c (x : Int32) : Int32 := (x.toUInt32 % 65536).toInt32
def sch (k : Nat) (i : Int32) : Int32 := i2c (sbt k (ix i) &&& 255)
section SR
variable {β : Type} {G : GT β} {cc : ByteArray} {own : String} {rt : Option FieldType} {fr lo pc q : Nat} {lv : List (Nat × Value)} {st : List Value} {I : MI} {L : ML} {X : Option β}
theorem w_ldcS0 (hc : Cx G cc RX5 rt fr lo) (hd : decode cc pc = .ok (.ldc 111, 2)) (e : q = pc + 2) (kk : WW G q lv (.ref 1000000 :: st) I L X) : WW G pc lv st I L X := by
  subst e
  intro b hb H locs ls hP hD hS hl
  exact va_ldcS hc.1 hc.2.1 hc.2.2.2.1 hc.2.2.2.2.2.2.2.2.2.2.2.1.1 hd (kk b hb H locs ls hP hD hS hl)
theorem w_ldcS1 (hc : Cx G cc RX5 rt fr lo) (hd : decode cc pc = .ok (.ldc 116, 2)) (e : q = pc + 2) (kk : WW G q lv (.ref 1000001 :: st) I L X) : WW G pc lv st I L X := by
  subst e
  intro b hb H locs ls hP hD hS hl
  exact va_ldcS hc.1 hc.2.1 hc.2.2.2.1 hc.2.2.2.2.2.2.2.2.2.2.2.1.2.1 hd (kk b hb H locs ls hP hD hS hl)
theorem w_ldcS2 (hc : Cx G cc RX5 rt fr lo) (hd : decode cc pc = .ok (.ldc 118, 2)) (e : q = pc + 2) (kk : WW G q lv (.ref 1000002 :: st) I L X) : WW G pc lv st I L X := by
  subst e
  intro b hb H locs ls hP hD hS hl
  exact va_ldcS hc.1 hc.2.1 hc.2.2.2.1 hc.2.2.2.2.2.2.2.2.2.2.2.1.2.2 hd (kk b hb H locs ls hP hD hS hl)
theorem w_sval {k : Nat} (hk : k < 3) (hc : Cx G cc RJ0 rt fr lo) (hd : decode cc pc = .ok (.getfield 9, 3)) (e : q = pc + 3) (kk : WW G q lv (.ref (2000000 + k) :: st) I L X) : WW G pc lv (.ref (1000000 + k) :: st) I L X := by
  subst e
  intro b hb H locs ls hP hD hS hl
  exact vk_getf hc.1 hc.2.1 (hc.2.2.2.2.2.2.2.2.2.2.2.2.1.1 k hk).2.2.1 hS hc.2.2.2.1 (hc.2.2.2.2.1 _ fl_J0_9) (fun _ h => h) hd (kk b hb H locs ls hP hD hS hl)
theorem w_scod {k : Nat} (hk : k < 3) (hc : Cx G cc RJ0 rt fr lo) (hd : decode cc pc = .ok (.getfield 15, 3)) (e : q = pc + 3) (kk : WW G q lv (.int 0 :: st) I L X) : WW G pc lv (.ref (1000000 + k) :: st) I L X := by
  subst e
  intro b hb H locs ls hP hD hS hl
  exact vk_getf hc.1 hc.2.1 (hc.2.2.2.2.2.2.2.2.2.2.2.2.1.1 k hk).2.1 hS hc.2.2.2.1 (hc.2.2.2.2.1 _ fl_J0_15) (fun _ h => h) hd (kk b hb H locs ls hP hD hS hl)
theorem w_slen {k : Nat} (hk : k < 3) (hc : Cx G cc own rt fr lo) (hd : decode cc pc = .ok (.arraylength, 1)) (e : q = pc + 1) (kk : WW G q lv (.int (slen k) :: st) I L X) : WW G pc lv (.ref (2000000 + k) :: st) I L X := by
  subst e
  intro b hb H locs ls hP hD hS hl
  exact va_tlen hc.1 hc.2.1 (hc.2.2.2.2.2.2.2.2.2.2.2.2.1.1 k hk).2.2.2 hS rfl hd (kk b hb H locs ls hP hD hS hl)
theorem w_sbyt {k : Nat} {i : Int32} (hk : k < 3) (hc : Cx G cc own rt fr lo) (hd : decode cc pc = .ok (.baload, 1)) (e : q = pc + 1) (kk : WW G q lv (.int (sbt k (ix i)) :: st) I L X) : WW G pc lv (.int i :: .ref (2000000 + k) :: st) I L (chk (inb i (sLen.getD k 0)) X) := by
  subst e
  intro b hb H locs ls hP hD hS hl
  obtain ⟨h1, h2⟩ := chk_t hb
  exact va_tb hc.1 hc.2.1 (hc.2.2.2.2.2.2.2.2.2.2.2.2.1.1 k hk).2.2.2 hS (inb_in h1) rfl hd (kk b h2 H locs ls hP hD hS hl)
theorem w_gCS (hc : Cx G cc RJ0 rt fr lo) (hd : decode cc pc = .ok (.getstatic 38, 3)) (e : q = pc + 3) (kk : WW G q lv (.int 1 :: st) I L X) : WW G pc lv st I L X := by
  subst e
  intro b hb H locs ls hP hD hS hl
  exact va_gets hc.1 hc.2.1 hc.2.2.2.2.2.2.2.2.2.2.2.2.2.1 hS hc.2.2.2.1 (hc.2.2.2.2.1 _ fl_J0_38) (fun _ h => h) hd (kk b hb H locs ls hP hD hS hl)
theorem w_gSF (hc : Cx G cc RJ0 rt fr lo) (hd : decode cc pc = .ok (.getstatic 1053, 3)) (e : q = pc + 3) (k0 : WW G q lv (.null :: st) I L X) (k1 : WW G q lv (.ref 3000000 :: st) I L X) : WW G pc lv st I L X := by
  subst e
  intro b hb H locs ls hP hD hS hl
  rcases hc.2.2.2.2.2.2.2.2.2.2.2.2.2.2.1 with h | h
  · exact va_gets hc.1 hc.2.1 h hS hc.2.2.2.1 (hc.2.2.2.2.1 _ fl_J0_1053) (fun _ h => h) hd (k0 b hb H locs ls hP hD hS hl)
  · exact va_gets hc.1 hc.2.1 h hS hc.2.2.2.1 (hc.2.2.2.2.1 _ fl_J0_1053) (fun _ h => h) hd (k1 b hb H locs ls hP hD hS hl)
theorem w_i2c {x : Int32} (hc : Cx G cc own rt fr lo) (hd : decode cc pc = .ok (.i2c, 1)) (e : q = pc + 1) (kk : WW G q lv (.int (i2c x) :: st) I L X) : WW G pc lv (.int x :: st) I L X := by
  subst e
  intro b hb H locs ls hP hD hS hl
  exact lv_i2c hc.1 hc.2.1 hd rfl (kk b hb H locs ls hP hD hS hl)
theorem w_callVS {γ : Type} {an : γ → Option Value} {me : γ → Mm} {F : Option γ} {X' : γ → Option β} {y : MethodName} {cy : ByteArray} {maxL fr' lo' idx n k : Nat} {rt' : Option FieldType} {args stk : List Value} (hkk : k < 3) (hc : Cx G cc own rt fr lo) (hM : MFg (gl G) y cy maxL rt' fr' lo' (.ref (1000000 + k) :: args) (gK G) (gR G) I L an me F)
    (hd : decode cc pc = .ok (.invokevirtual idx, 3)) (hw : Cond.methodLink own idx y ∈ wsA) (hf : CalF y cy maxL rt' n) (hs : Cond.instanceMethod y ∈ wsA ∧ Cond.selects y.cls y y ∈ wsA) (hC : "java/lang/String" = y.cls) (hn : args.length = n) (hstk : stk = args.reverse ++ .ref (1000000 + k) :: st) (h8 : (st.map fun v => v.category).sum ≤ 8) (hroom : fr' + 1 ≤ fr ∧ 8 + (maxL + 11) + lo' ≤ lo) (e : q = pc + 3)
    (kk : ∀ x, WW G q lv ((an x).toList ++ st) (me x).1 (me x).2 (X' x)) : WW G pc lv stk I L (F.bind X') := by
  subst e
  intro b hb H locs ls hP hD hS hl
  obtain ⟨x, hx, hX⟩ := Option.bind_eq_some_iff.mp hb
  obtain ⟨c1, c2, c3, c4, c5⟩ := hf
  have hrc := vk_recv hc.2.2.2.2.2.2.2.2.2.2.2.2.1 hkk hS
  refine w_back (a := (trs (gad G) (.ref (1000000 + k) :: args)).toArray) (F := F) hc (va_runV (C := y.cls) (b := gad G (1000000 + k)) (As := trs (gad G) args) (n := n) ⟨hc.1, hc.2.1, hc.2.2.1, hc.2.2.2.1, hc.2.2.2.2.1⟩ (hM x hx (gD G) (gtc G) (gad G) H.size) ⟨callB_of n hc.2.2.2.2.1 (ws := Cond.code y cy maxL rt' :: wsA) (fun w hw => by
      rcases List.mem_cons.mp hw with rfl | h2
      · exact ⟨c1, good_of_word (wsA_good _ c1)⟩
      · exact ⟨h2, good_of_word (wsA_good _ h2)⟩) rfl rfl rfl (hc.2.2.2.2.1 _ c2) (hc.2.2.2.2.1 _ hw) ⟨c3, c4, c5⟩ ⟨by rw [hc.2.2.2.2.2.2.2.2.2.1.1]; exact hroom.1, by rw [hc.2.2.2.2.2.2.2.2.2.1.2.1]; exact hroom.2⟩, hc.2.2.2.2.1 _ hs.1, hc.2.2.2.2.1 _ hs.2⟩ ⟨PreU.blind, by rw [← hC]; exact hrc, w_pre (D := gD G) (tc := gtc G) hc hP hD hS (.ref (1000000 + k) :: args)⟩ rfl (by simp [hn]) hl.1 (by rw [hstk]; simp [tr]) (by rw [cat_tr]; show 2 * 0 + _ ≤ 8; omega) hd ⟨hc.2.2.2.2.2.2.2.2.2.1.2.2.1, hc.2.2.2.2.2.2.2.2.2.1.2.2.2⟩) hD hS hl hX (kk x)
theorem w_callVS_Ri {F : Option Int32} {X' : Int32 → Option β} {y : MethodName} {cy : ByteArray} {maxL fr' lo' idx n k : Nat} {rt' : Option FieldType} {args stk : List Value} (hkk : k < 3) (hc : Cx G cc own rt fr lo) (hM : MFg (gl G) y cy maxL rt' fr' lo' (.ref (1000000 + k) :: args) (gK G) (gR G) I L anI (meR I L) F)
    (hd : decode cc pc = .ok (.invokevirtual idx, 3)) (hw : Cond.methodLink own idx y ∈ wsA) (hf : CalF y cy maxL rt' n) (hs : Cond.instanceMethod y ∈ wsA ∧ Cond.selects y.cls y y ∈ wsA) (hC : "java/lang/String" = y.cls) (hn : args.length = n) (hstk : stk = args.reverse ++ .ref (1000000 + k) :: st) (h8 : (st.map fun v => v.category).sum ≤ 8) (hroom : fr' + 1 ≤ fr ∧ 8 + (maxL + 11) + lo' ≤ lo) (e : q = pc + 3)
    (kk : ∀ x, WW G q lv (.int x :: st) I L (X' x)) : WW G pc lv stk I L (F.bind X') := w_callVS hkk hc hM hd hw hf hs hC hn hstk h8 hroom e kk
theorem w_callVS_Rz {F : Option Bool} {X' : Bool → Option β} {y : MethodName} {cy : ByteArray} {maxL fr' lo' idx n k : Nat} {rt' : Option FieldType} {args stk : List Value} (hkk : k < 3) (hc : Cx G cc own rt fr lo) (hM : MFg (gl G) y cy maxL rt' fr' lo' (.ref (1000000 + k) :: args) (gK G) (gR G) I L anZ (meR I L) F)
    (hd : decode cc pc = .ok (.invokevirtual idx, 3)) (hw : Cond.methodLink own idx y ∈ wsA) (hf : CalF y cy maxL rt' n) (hs : Cond.instanceMethod y ∈ wsA ∧ Cond.selects y.cls y y ∈ wsA) (hC : "java/lang/String" = y.cls) (hn : args.length = n) (hstk : stk = args.reverse ++ .ref (1000000 + k) :: st) (h8 : (st.map fun v => v.category).sum ≤ 8) (hroom : fr' + 1 ≤ fr ∧ 8 + (maxL + 11) + lo' ≤ lo) (e : q = pc + 3)
    (kk : ∀ x, WW G q lv (.int (b2i x) :: st) I L (X' x)) : WW G pc lv stk I L (F.bind X') := w_callVS hkk hc hM hd hw hf hs hC hn hstk h8 hroom e kk
end SR
def f_J0_length_8abf5 (k : Nat) : Option Int32 := some (slen k)
def f_J0_charAt_5068e (k : Nat) (a1 : Int32) : Option Int32 := chk (inb a1 (sLen.getD k 0)) (some (sch k a1))
section SM
variable {l : Launch} {K : KT} {R : MR} {k : Nat} {I : MI} {L : ML}
set_option maxRecDepth 100000 in
theorem m_coder (hk : k < 3) : MFg l yJ0_coder_7d493 cJ0_coder_7d493 1 (some .byte) 0 0 [.ref (1000000 + k)] K R I L anI (meR I L) (some 0) := by
  refine mf_of (by decide +kernel) (Nat.le_of_ble_eq_true rfl) ?_
  intro G hc _ hK1 hR1 hn hq
  show WW G 0 [(0, .ref (1000000 + k))] [] I L _
  refine w_gCS (q := 3) hc dJ0_coder_7d493_0 rfl ?_
  refine w_ifeqF (q := 6) (tgt := 13) hc dJ0_coder_7d493_3 (by decide) rfl rfl ?_
  refine w_aload_n (q := 7) (i := 0) (j := 0) hc dJ0_coder_7d493_6 rfl rfl rfl ?_
  refine w_scod hk (q := 10) hc dJ0_coder_7d493_7 rfl ?_
  refine w_goto (tgt := 14) hc dJ0_coder_7d493_10 rfl ?_
  exact w_ireturn hc hq dJ0_coder_7d493_14 (by decide +kernel) rfl rfl
set_option maxRecDepth 100000 in
theorem m_isLatin1 (hk : k < 3) : MFg l yJ0_isLatin1_aae02 cJ0_isLatin1_aae02 1 (some .boolean) 0 0 [.ref (1000000 + k)] K R I L anZ (meR I L) (some true) := by
  refine mf_of (by decide +kernel) (Nat.le_of_ble_eq_true rfl) ?_
  intro G hc _ hK1 hR1 hn hq
  show WW G 0 [(0, .ref (1000000 + k))] [] I L _
  refine w_gCS (q := 3) hc dJ0_isLatin1_aae02_0 rfl ?_
  refine w_ifeqF (q := 6) (tgt := 17) hc dJ0_isLatin1_aae02_3 (by decide) rfl rfl ?_
  refine w_aload_n (q := 7) (i := 0) (j := 0) hc dJ0_isLatin1_aae02_6 rfl rfl rfl ?_
  refine w_scod hk (q := 10) hc dJ0_isLatin1_aae02_7 rfl ?_
  refine w_ifneF (q := 13) (tgt := 17) hc dJ0_isLatin1_aae02_10 rfl rfl rfl ?_
  refine w_iconst (q := 14) hc dJ0_isLatin1_aae02_13 ci_1 rfl ?_
  refine w_goto (tgt := 18) hc dJ0_isLatin1_aae02_14 rfl ?_
  exact w_ireturn (v := b2i true) hc hq dJ0_isLatin1_aae02_18 (nar_b2i true) rfl rfl
theorem slen_shr : ∀ k, k < 3 → shr (slen k) 0 = slen k := by decide +kernel
set_option maxRecDepth 100000 in
theorem m_J0_length_8abf5 (hk : k < 3) : MFg l yJ0_length_8abf5 cJ0_length_8abf5 1 (some .int) 1 20 [.ref (1000000 + k)] K R I L anI (meR I L) (f_J0_length_8abf5 k) := by
  refine mf_of (by decide +kernel) (Nat.le_of_ble_eq_true rfl) ?_
  intro G hc _ hK1 hR1 hn hq
  show WW G 0 [(0, .ref (1000000 + k))] [] I L ((some (0 : Int32)).bind (fun _ => some (slen k)))
  refine w_aload_n (q := 1) (i := 0) (j := 0) hc dJ0_length_8abf5_0 rfl rfl rfl ?_
  refine w_sval hk (q := 4) hc dJ0_length_8abf5_1 rfl ?_
  refine w_slen hk (q := 5) hc dJ0_length_8abf5_4 rfl ?_
  refine w_aload_n (q := 6) (i := 0) (j := 0) hc dJ0_length_8abf5_5 rfl rfl rfl ?_
  intro b hb
  refine w_callVS_Ri (F := some 0) (X' := fun x => if x = 0 then some (slen k) else none) hk (q := 9) (st := [.int (slen k)]) (args := []) hc (m_coder hk) dJ0_length_8abf5_6 ml_J0_335 cf_J0_coder_7d493 iv_J0_coder_7d493 rfl rfl rfl (Nat.le_of_ble_eq_true rfl) ⟨Nat.le_of_ble_eq_true rfl, Nat.le_of_ble_eq_true rfl⟩ rfl (fun x => ?_) b (by simpa using hb)
  by_cases hx : x = 0
  · subst hx
    refine w_ishr (q := 10) hc dJ0_length_8abf5_9 rfl ?_
    rw [slen_shr k hk, if_pos rfl]
    exact w_ireturn hc hq dJ0_length_8abf5_10 rfl rfl rfl
  · rw [if_neg hx]; exact w_none _ _ _
set_option maxRecDepth 100000 in
theorem m_checkIndex3 {i n : Int32} {v : Value} (hv : v.category = 1) : MFg l yJ3_checkIndex_8e157 cJ3_checkIndex_8e157 3 (some .int) 0 0 [.int i, .int n, v] K R I L anI (meR I L) (if i < 0 then none else if i < n then some i else none) := by
  refine mf_of (by decide +kernel) (by cases v <;> first | exact Nat.le_of_ble_eq_true rfl | cases hv) ?_
  intro G hc _ hK1 hR1 hn hq
  show WW G 0 [(0, .int i), (1, .int n), (2, v)] [] I L _
  refine w_iload_n (q := 1) (i := 0) (j := 0) hc dJ3_checkIndex_8e157_0 rfl rfl rfl ?_
  refine w_iflt (q := 4) (tgt := 9) hc dJ3_checkIndex_8e157_1 rfl rfl (w_none _ _ _) ?_
  refine w_iload_n (q := 5) (i := 0) (j := 0) hc dJ3_checkIndex_8e157_4 rfl rfl rfl ?_
  refine w_iload_n (q := 6) (i := 1) (j := 1) hc dJ3_checkIndex_8e157_5 rfl rfl rfl ?_
  refine w_icmplt (q := 9) (tgt := 16) hc dJ3_checkIndex_8e157_6 rfl rfl ?_ (w_none _ _ _)
  refine w_iload_n (q := 17) (i := 0) (j := 0) hc dJ3_checkIndex_8e157_16 rfl rfl rfl ?_
  exact w_ireturn hc hq dJ3_checkIndex_8e157_17 rfl rfl rfl
set_option maxRecDepth 100000 in
theorem m_checkIndex0 {i n : Int32} : MFg l yJ0_checkIndex_df160 cJ0_checkIndex_df160 2 none 1 22 [.int i, .int n] K R I L (fun (_ : Unit) => none) (meR I L) ((if i < 0 then none else if i < n then some i else none).bind (fun _ => some ())) := by
  refine mf_of (by decide +kernel) (Nat.le_of_ble_eq_true rfl) ?_
  intro G hc _ hK1 hR1 hn hq
  show WW G 0 [(0, .int i), (1, .int n)] [] I L _
  refine w_iload_n (q := 1) (i := 0) (j := 0) hc dJ0_checkIndex_df160_0 rfl rfl rfl ?_
  refine w_iload_n (q := 2) (i := 1) (j := 1) hc dJ0_checkIndex_df160_1 rfl rfl rfl ?_
  refine w_gSF (q := 5) hc dJ0_checkIndex_df160_2 rfl ?_ ?_
  · refine w_callS_Ri (q := 8) (st := []) (args := [.int i, .int n, .null]) hc (m_checkIndex3 rfl) dJ0_checkIndex_df160_5 ml_J0_1059 cf_J3_checkIndex_8e157 st_J3_checkIndex_8e157 rfl rfl (Nat.le_of_ble_eq_true rfl) ⟨Nat.le_of_ble_eq_true rfl, Nat.le_of_ble_eq_true rfl⟩ rfl (fun x => ?_)
    refine w_pop_int (q := 9) hc dJ0_checkIndex_df160_8 rfl ?_
    exact w_return hc hq dJ0_checkIndex_df160_9 rfl rfl
  · refine w_callS_Ri (q := 8) (st := []) (args := [.int i, .int n, .ref 3000000]) hc (m_checkIndex3 rfl) dJ0_checkIndex_df160_5 ml_J0_1059 cf_J3_checkIndex_8e157 st_J3_checkIndex_8e157 rfl rfl (Nat.le_of_ble_eq_true rfl) ⟨Nat.le_of_ble_eq_true rfl, Nat.le_of_ble_eq_true rfl⟩ rfl (fun x => ?_)
    refine w_pop_int (q := 9) hc dJ0_checkIndex_df160_8 rfl ?_
    exact w_return hc hq dJ0_checkIndex_df160_9 rfl rfl
theorem cs_255 : (Int16.ofInt 255).toInt32 = 255 := by decide +kernel
set_option maxRecDepth 100000 in
theorem m_J1_charAt {i : Int32} (hk : k < 3) : MFg l yJ1_charAt_3b067 cJ1_charAt_3b067 2 (some .char) 2 43 [.ref (2000000 + k), .int i] K R I L anI (meR I L) (((if i < 0 then none else if i < slen k then some i else none).bind (fun _ => some ())).bind fun _ => chk (inb i (sLen.getD k 0)) (some (sch k i))) := by
  refine mf_of (by decide +kernel) (Nat.le_of_ble_eq_true rfl) ?_
  intro G hc _ hK1 hR1 hn hq
  show WW G 0 [(0, .ref (2000000 + k)), (1, .int i)] [] I L _
  refine w_iload_n (q := 1) (i := 1) (j := 1) hc dJ1_charAt_3b067_0 rfl rfl rfl ?_
  refine w_aload_n (q := 2) (i := 0) (j := 0) hc dJ1_charAt_3b067_1 rfl rfl rfl ?_
  refine w_slen hk (q := 3) hc dJ1_charAt_3b067_2 rfl ?_
  refine w_callS (q := 6) (st := []) (args := [.int i, .int (slen k)]) hc m_checkIndex0 dJ1_charAt_3b067_3 ml_J1_9 cf_J0_checkIndex_df160 st_J0_checkIndex_df160 rfl rfl (Nat.le_of_ble_eq_true rfl) ⟨Nat.le_of_ble_eq_true rfl, Nat.le_of_ble_eq_true rfl⟩ rfl (fun x => ?_)
  show WW G 6 _ [] I L _
  refine w_aload_n (q := 7) (i := 0) (j := 0) hc dJ1_charAt_3b067_6 rfl rfl rfl ?_
  refine w_iload_n (q := 8) (i := 1) (j := 1) hc dJ1_charAt_3b067_7 rfl rfl rfl ?_
  refine w_sbyt hk (q := 9) hc dJ1_charAt_3b067_8 rfl ?_
  refine w_sipush (q := 12) hc dJ1_charAt_3b067_9 cs_255 rfl ?_
  refine w_iand (q := 13) hc dJ1_charAt_3b067_12 rfl ?_
  refine w_i2c (q := 14) hc dJ1_charAt_3b067_13 rfl ?_
  exact w_ireturn hc hq dJ1_charAt_3b067_14 (pk_nc _) rfl rfl
theorem inb_slen {i : Int32} : ∀ k, k < 3 → inb i (sLen.getD k 0) = true → ¬ i < 0 ∧ i < slen k := by
  intro k hk h
  simp only [inb, Bool.and_eq_true, decide_eq_true_eq] at h
  rw [Int32.lt_iff_toInt_lt, Int32.lt_iff_toInt_lt]
  have : (slen k).toInt = sLen.getD k 0 := by
    have := (by decide +kernel : ∀ k, k < 3 → (slen k).toInt = sLen.getD k 0)
    exact this k hk
  rw [this]
  refine ⟨?_, h.2⟩
  show ¬ _ < (0 : Int)
  omega
set_option maxRecDepth 100000 in
theorem m_J0_charAt_5068e {i : Int32} (hk : k < 3) : MFg l yJ0_charAt_5068e cJ0_charAt_5068e 2 (some .char) 3 64 [.ref (1000000 + k), .int i] K R I L anI (meR I L) (f_J0_charAt_5068e k i) := by
  refine mf_of (by decide +kernel) (Nat.le_of_ble_eq_true rfl) ?_
  intro G hc _ hK1 hR1 hn hq
  show WW G 0 [(0, .ref (1000000 + k)), (1, .int i)] [] I L (f_J0_charAt_5068e k i)
  refine w_aload_n (q := 1) (i := 0) (j := 0) hc dJ0_charAt_5068e_0 rfl rfl rfl ?_
  intro b hb
  refine w_callVS_Rz (F := some true) (X' := fun x => if x = true then f_J0_charAt_5068e k i else none) hk (q := 4) (st := []) (args := []) hc (m_isLatin1 hk) dJ0_charAt_5068e_1 ml_J0_492 cf_J0_isLatin1_aae02 iv_J0_isLatin1_aae02 rfl rfl rfl (Nat.le_of_ble_eq_true rfl) ⟨Nat.le_of_ble_eq_true rfl, Nat.le_of_ble_eq_true rfl⟩ rfl (fun x => ?_) b (by simpa using hb)
  by_cases hx : x = true
  · subst hx
    rw [if_pos rfl]
    refine w_ifeqF (q := 7) (tgt := 16) hc dJ0_charAt_5068e_4 (by decide) rfl rfl ?_
    refine w_aload_n (q := 8) (i := 0) (j := 0) hc dJ0_charAt_5068e_7 rfl rfl rfl ?_
    refine w_sval hk (q := 11) hc dJ0_charAt_5068e_8 rfl ?_
    refine w_iload_n (q := 12) (i := 1) (j := 1) hc dJ0_charAt_5068e_11 rfl rfl rfl ?_
    intro b2 hb2
    obtain ⟨h1, h2⟩ := chk_t hb2
    obtain ⟨h3, h4⟩ := inb_slen k hk h1
    refine w_callS_Ri (X' := fun x => if x = sch k i then some x else none) (q := 15) (st := []) (args := [.ref (2000000 + k), .int i]) hc (m_J1_charAt hk) dJ0_charAt_5068e_12 ml_J0_495 cf_J1_charAt_3b067 st_J1_charAt_3b067 rfl rfl (Nat.le_of_ble_eq_true rfl) ⟨Nat.le_of_ble_eq_true rfl, Nat.le_of_ble_eq_true rfl⟩ rfl (fun x => ?_) b2 (by rw [if_neg h3, if_pos h4]; simp only [Option.bind_some]; rw [chk, if_pos h1]; simpa using h2)
    by_cases hx : x = sch k i
    · subst hx
      rw [if_pos rfl]
      exact w_ireturn hc hq dJ0_charAt_5068e_15 (pk_nc _) rfl rfl
    · rw [if_neg hx]; exact w_none _ _ _
  · rw [if_neg hx]; exact w_none _ _ _
end SM
