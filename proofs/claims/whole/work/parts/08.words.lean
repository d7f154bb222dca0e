theorem tb1 {w : Cond} (h : w ∈ tables_1_1) (g : goodWord w = true) : w ∈ wsA := wsA_in (List.mem_append_right _ (show w ∈ tables_1_1 ++ (tables_1_2 ++ (tables_1_3 ++ (tables_1_4 ++ (tables_1_5 ++ (tables_1_6 ++ (tables_1_7 ++ (tables_1_8 ++ tables_1_9))))))) from List.mem_append_left _ h)) g
theorem tb2 {w : Cond} (h : w ∈ tables_1_2) (g : goodWord w = true) : w ∈ wsA := wsA_in (List.mem_append_right _ (show w ∈ tables_1_1 ++ (tables_1_2 ++ (tables_1_3 ++ (tables_1_4 ++ (tables_1_5 ++ (tables_1_6 ++ (tables_1_7 ++ (tables_1_8 ++ tables_1_9))))))) from List.mem_append_right _ (List.mem_append_left _ h))) g
theorem tb3 {w : Cond} (h : w ∈ tables_1_3) (g : goodWord w = true) : w ∈ wsA := wsA_in (List.mem_append_right _ (show w ∈ tables_1_1 ++ (tables_1_2 ++ (tables_1_3 ++ (tables_1_4 ++ (tables_1_5 ++ (tables_1_6 ++ (tables_1_7 ++ (tables_1_8 ++ tables_1_9))))))) from List.mem_append_right _ (List.mem_append_right _ (List.mem_append_left _ h)))) g
theorem tb4 {w : Cond} (h : w ∈ tables_1_4) (g : goodWord w = true) : w ∈ wsA := wsA_in (List.mem_append_right _ (show w ∈ tables_1_1 ++ (tables_1_2 ++ (tables_1_3 ++ (tables_1_4 ++ (tables_1_5 ++ (tables_1_6 ++ (tables_1_7 ++ (tables_1_8 ++ tables_1_9))))))) from List.mem_append_right _ (List.mem_append_right _ (List.mem_append_right _ (List.mem_append_left _ h))))) g
theorem tb5 {w : Cond} (h : w ∈ tables_1_5) (g : goodWord w = true) : w ∈ wsA := wsA_in (List.mem_append_right _ (show w ∈ tables_1_1 ++ (tables_1_2 ++ (tables_1_3 ++ (tables_1_4 ++ (tables_1_5 ++ (tables_1_6 ++ (tables_1_7 ++ (tables_1_8 ++ tables_1_9))))))) from List.mem_append_right _ (List.mem_append_right _ (List.mem_append_right _ (List.mem_append_right _ (List.mem_append_left _ h)))))) g
theorem tb6 {w : Cond} (h : w ∈ tables_1_6) (g : goodWord w = true) : w ∈ wsA := wsA_in (List.mem_append_right _ (show w ∈ tables_1_1 ++ (tables_1_2 ++ (tables_1_3 ++ (tables_1_4 ++ (tables_1_5 ++ (tables_1_6 ++ (tables_1_7 ++ (tables_1_8 ++ tables_1_9))))))) from List.mem_append_right _ (List.mem_append_right _ (List.mem_append_right _ (List.mem_append_right _ (List.mem_append_right _ (List.mem_append_left _ h))))))) g
theorem tb7 {w : Cond} (h : w ∈ tables_1_7) (g : goodWord w = true) : w ∈ wsA := wsA_in (List.mem_append_right _ (show w ∈ tables_1_1 ++ (tables_1_2 ++ (tables_1_3 ++ (tables_1_4 ++ (tables_1_5 ++ (tables_1_6 ++ (tables_1_7 ++ (tables_1_8 ++ tables_1_9))))))) from List.mem_append_right _ (List.mem_append_right _ (List.mem_append_right _ (List.mem_append_right _ (List.mem_append_right _ (List.mem_append_right _ (List.mem_append_left _ h)))))))) g
theorem tb8 {w : Cond} (h : w ∈ tables_1_8) (g : goodWord w = true) : w ∈ wsA := wsA_in (List.mem_append_right _ (show w ∈ tables_1_1 ++ (tables_1_2 ++ (tables_1_3 ++ (tables_1_4 ++ (tables_1_5 ++ (tables_1_6 ++ (tables_1_7 ++ (tables_1_8 ++ tables_1_9))))))) from List.mem_append_right _ (List.mem_append_right _ (List.mem_append_right _ (List.mem_append_right _ (List.mem_append_right _ (List.mem_append_right _ (List.mem_append_right _ (List.mem_append_left _ h))))))))) g
theorem tb9 {w : Cond} (h : w ∈ tables_1_9) (g : goodWord w = true) : w ∈ wsA := wsA_in (List.mem_append_right _ (show w ∈ tables_1_1 ++ (tables_1_2 ++ (tables_1_3 ++ (tables_1_4 ++ (tables_1_5 ++ (tables_1_6 ++ (tables_1_7 ++ (tables_1_8 ++ tables_1_9))))))) from List.mem_append_right _ (List.mem_append_right _ (List.mem_append_right _ (List.mem_append_right _ (List.mem_append_right _ (List.mem_append_right _ (List.mem_append_right _ (List.mem_append_right _ (h)))))))))) g
theorem pv1 {y : MethodName} {n : Nat} (h : (y, n) ∈ lw_privs_1) (g : goodWord (Cond.selects y.cls y y) = true) : Cond.selects y.cls y y ∈ wsA := wsA_in (List.mem_append_left _ (List.mem_map.mpr ⟨(y, n), (show (y, n) ∈ lw_privs_1 ++ (lw_privs_2 ++ (lw_privs_3 ++ (lw_privs_4 ++ (lw_privs_5 ++ (lw_privs_6 ++ (lw_privs_7 ++ (lw_privs_8 ++ (lw_privs_9)))))))) from List.mem_append_left _ h), rfl⟩)) g
theorem pv2 {y : MethodName} {n : Nat} (h : (y, n) ∈ lw_privs_2) (g : goodWord (Cond.selects y.cls y y) = true) : Cond.selects y.cls y y ∈ wsA := wsA_in (List.mem_append_left _ (List.mem_map.mpr ⟨(y, n), (show (y, n) ∈ lw_privs_1 ++ (lw_privs_2 ++ (lw_privs_3 ++ (lw_privs_4 ++ (lw_privs_5 ++ (lw_privs_6 ++ (lw_privs_7 ++ (lw_privs_8 ++ (lw_privs_9)))))))) from List.mem_append_right _ (List.mem_append_left _ h)), rfl⟩)) g
theorem pv3 {y : MethodName} {n : Nat} (h : (y, n) ∈ lw_privs_3) (g : goodWord (Cond.selects y.cls y y) = true) : Cond.selects y.cls y y ∈ wsA := wsA_in (List.mem_append_left _ (List.mem_map.mpr ⟨(y, n), (show (y, n) ∈ lw_privs_1 ++ (lw_privs_2 ++ (lw_privs_3 ++ (lw_privs_4 ++ (lw_privs_5 ++ (lw_privs_6 ++ (lw_privs_7 ++ (lw_privs_8 ++ (lw_privs_9)))))))) from List.mem_append_right _ (List.mem_append_right _ (List.mem_append_left _ h))), rfl⟩)) g
theorem pv4 {y : MethodName} {n : Nat} (h : (y, n) ∈ lw_privs_4) (g : goodWord (Cond.selects y.cls y y) = true) : Cond.selects y.cls y y ∈ wsA := wsA_in (List.mem_append_left _ (List.mem_map.mpr ⟨(y, n), (show (y, n) ∈ lw_privs_1 ++ (lw_privs_2 ++ (lw_privs_3 ++ (lw_privs_4 ++ (lw_privs_5 ++ (lw_privs_6 ++ (lw_privs_7 ++ (lw_privs_8 ++ (lw_privs_9)))))))) from List.mem_append_right _ (List.mem_append_right _ (List.mem_append_right _ (List.mem_append_left _ h)))), rfl⟩)) g
theorem pv5 {y : MethodName} {n : Nat} (h : (y, n) ∈ lw_privs_5) (g : goodWord (Cond.selects y.cls y y) = true) : Cond.selects y.cls y y ∈ wsA := wsA_in (List.mem_append_left _ (List.mem_map.mpr ⟨(y, n), (show (y, n) ∈ lw_privs_1 ++ (lw_privs_2 ++ (lw_privs_3 ++ (lw_privs_4 ++ (lw_privs_5 ++ (lw_privs_6 ++ (lw_privs_7 ++ (lw_privs_8 ++ (lw_privs_9)))))))) from List.mem_append_right _ (List.mem_append_right _ (List.mem_append_right _ (List.mem_append_right _ (List.mem_append_left _ h))))), rfl⟩)) g
theorem pv6 {y : MethodName} {n : Nat} (h : (y, n) ∈ lw_privs_6) (g : goodWord (Cond.selects y.cls y y) = true) : Cond.selects y.cls y y ∈ wsA := wsA_in (List.mem_append_left _ (List.mem_map.mpr ⟨(y, n), (show (y, n) ∈ lw_privs_1 ++ (lw_privs_2 ++ (lw_privs_3 ++ (lw_privs_4 ++ (lw_privs_5 ++ (lw_privs_6 ++ (lw_privs_7 ++ (lw_privs_8 ++ (lw_privs_9)))))))) from List.mem_append_right _ (List.mem_append_right _ (List.mem_append_right _ (List.mem_append_right _ (List.mem_append_right _ (List.mem_append_left _ h)))))), rfl⟩)) g
theorem pv7 {y : MethodName} {n : Nat} (h : (y, n) ∈ lw_privs_7) (g : goodWord (Cond.selects y.cls y y) = true) : Cond.selects y.cls y y ∈ wsA := wsA_in (List.mem_append_left _ (List.mem_map.mpr ⟨(y, n), (show (y, n) ∈ lw_privs_1 ++ (lw_privs_2 ++ (lw_privs_3 ++ (lw_privs_4 ++ (lw_privs_5 ++ (lw_privs_6 ++ (lw_privs_7 ++ (lw_privs_8 ++ (lw_privs_9)))))))) from List.mem_append_right _ (List.mem_append_right _ (List.mem_append_right _ (List.mem_append_right _ (List.mem_append_right _ (List.mem_append_right _ (List.mem_append_left _ h))))))), rfl⟩)) g
theorem pv8 {y : MethodName} {n : Nat} (h : (y, n) ∈ lw_privs_8) (g : goodWord (Cond.selects y.cls y y) = true) : Cond.selects y.cls y y ∈ wsA := wsA_in (List.mem_append_left _ (List.mem_map.mpr ⟨(y, n), (show (y, n) ∈ lw_privs_1 ++ (lw_privs_2 ++ (lw_privs_3 ++ (lw_privs_4 ++ (lw_privs_5 ++ (lw_privs_6 ++ (lw_privs_7 ++ (lw_privs_8 ++ (lw_privs_9)))))))) from List.mem_append_right _ (List.mem_append_right _ (List.mem_append_right _ (List.mem_append_right _ (List.mem_append_right _ (List.mem_append_right _ (List.mem_append_right _ (List.mem_append_left _ h)))))))), rfl⟩)) g
theorem pv9 {y : MethodName} {n : Nat} (h : (y, n) ∈ lw_privs_9) (g : goodWord (Cond.selects y.cls y y) = true) : Cond.selects y.cls y y ∈ wsA := wsA_in (List.mem_append_left _ (List.mem_map.mpr ⟨(y, n), (show (y, n) ∈ lw_privs_1 ++ (lw_privs_2 ++ (lw_privs_3 ++ (lw_privs_4 ++ (lw_privs_5 ++ (lw_privs_6 ++ (lw_privs_7 ++ (lw_privs_8 ++ (lw_privs_9)))))))) from List.mem_append_right _ (List.mem_append_right _ (List.mem_append_right _ (List.mem_append_right _ (List.mem_append_right _ (List.mem_append_right _ (List.mem_append_right _ (List.mem_append_right _ (h))))))))), rfl⟩)) g
theorem fl_X7_10 : Cond.fieldLink RX7 10 "MoveGroups" "text" "LMoveGroups$Text;" ∈ wsA := tb1 (List.mem_of_getElem? (i := 225) rfl) rfl
theorem fl_X7_19 : Cond.fieldLink RX7 19 "MoveGroups" "group" "LMoveGroups$Group;" ∈ wsA := tb1 (List.mem_of_getElem? (i := 226) rfl) rfl
theorem fl_X7_26 : Cond.fieldLink RX7 26 "MoveGroups" "past" "LMoveGroups$Past;" ∈ wsA := tb1 (List.mem_of_getElem? (i := 227) rfl) rfl
theorem fl_X7_30 : Cond.fieldLink RX7 30 "MoveGroups" "printed" "[B" ∈ wsA := tb1 (List.mem_of_getElem? (i := 228) rfl) rfl
theorem fl_X7_34 : Cond.fieldLink RX7 34 "MoveGroups" "printedLength" "I" ∈ wsA := tb1 (List.mem_of_getElem? (i := 229) rfl) rfl
theorem fl_X7_38 : Cond.fieldLink RX7 38 "MoveGroups" "standing" "J" ∈ wsA := tb1 (List.mem_of_getElem? (i := 230) rfl) rfl
theorem fl_X7_42 : Cond.fieldLink RX7 42 "MoveGroups" "latest" "I" ∈ wsA := tb1 (List.mem_of_getElem? (i := 231) rfl) rfl
theorem fl_X7_53 : Cond.fieldLink RX7 53 "MoveGroups$Text" "length" "I" ∈ wsA := tb1 (List.mem_of_getElem? (i := 33) rfl) rfl
theorem fl_X7_63 : Cond.fieldLink RX7 63 "MoveGroups$Text" "points" "I" ∈ wsA := tb1 (List.mem_of_getElem? (i := 40) rfl) rfl
theorem fl_X7_66 : Cond.fieldLink RX7 66 "MoveGroups$Text" "moves" "[J" ∈ wsA := tb1 (List.mem_of_getElem? (i := 44) rfl) rfl
theorem fl_X7_70 : Cond.fieldLink RX7 70 "MoveGroups$Text" "moveCount" "I" ∈ wsA := tb1 (List.mem_of_getElem? (i := 42) rfl) rfl
theorem fl_X7_89 : Cond.fieldLink RX7 89 "MoveGroups$Text" "faultKind" "I" ∈ wsA := tb1 (List.mem_of_getElem? (i := 50) rfl) rfl
theorem fl_X7_92 : Cond.fieldLink RX7 92 "MoveGroups$Text" "faultPlace" "I" ∈ wsA := tb1 (List.mem_of_getElem? (i := 52) rfl) rfl
theorem fl_X7_95 : Cond.fieldLink RX7 95 "MoveGroups$Group" "points" "I" ∈ wsA := tb1 (List.mem_of_getElem? (i := 150) rfl) rfl
theorem fl_X7_96 : Cond.fieldLink RX7 96 "MoveGroups$Group" "moveCount" "I" ∈ wsA := tb1 (List.mem_of_getElem? (i := 152) rfl) rfl
theorem fl_X7_97 : Cond.fieldLink RX7 97 "MoveGroups$Past" "kept" "I" ∈ wsA := tb1 (List.mem_of_getElem? (i := 200) rfl) rfl
theorem fl_X7_163 : Cond.fieldLink RX7 163 "MoveGroups$Group" "whole" "LMoveGroups$Chain;" ∈ wsA := tb1 (List.mem_of_getElem? (i := 156) rfl) rfl
theorem fl_X7_208 : Cond.fieldLink RX7 208 "MoveGroups$Roster" "deepest" "I" ∈ wsA := tb4 (List.mem_of_getElem? (i := 7) rfl) rfl
theorem fl_X7_217 : Cond.fieldLink RX7 217 "MoveGroups$Roster" "count" "I" ∈ wsA := tb4 (List.mem_of_getElem? (i := 4) rfl) rfl
theorem fl_X7_239 : Cond.fieldLink RX7 239 "MoveGroups$Roster" "kinds" "I" ∈ wsA := tb4 (List.mem_of_getElem? (i := 9) rfl) rfl
theorem fl_X7_273 : Cond.fieldLink RX7 273 "MoveGroups$Roster" "kin" "[I" ∈ wsA := tb4 (List.mem_of_getElem? (i := 13) rfl) rfl
theorem fl_X7_353 : Cond.fieldLink RX7 353 "MoveGroups$Past" "standing" "J" ∈ wsA := tb1 (List.mem_of_getElem? (i := 202) rfl) rfl
theorem fl_X7_354 : Cond.fieldLink RX7 354 "MoveGroups$Past" "moves" "[J" ∈ wsA := tb1 (List.mem_of_getElem? (i := 206) rfl) rfl
theorem fl_X7_355 : Cond.fieldLink RX7 355 "MoveGroups$Past" "moveCount" "I" ∈ wsA := tb1 (List.mem_of_getElem? (i := 204) rfl) rfl
theorem fl_X7_369 : Cond.fieldLink RX7 369 "MoveGroups$Roster" "depths" "[I" ∈ wsA := tb4 (List.mem_of_getElem? (i := 11) rfl) rfl
theorem fl_X7_380 : Cond.fieldLink RX7 380 "MoveGroups$Group" "moves" "[J" ∈ wsA := tb1 (List.mem_of_getElem? (i := 154) rfl) rfl
theorem fl_X0_11 : Cond.fieldLink RX0 11 "MoveGroups$Chain" "points" "I" ∈ wsA := tb1 (List.mem_of_getElem? (i := 101) rfl) rfl
theorem fl_X0_15 : Cond.fieldLink RX0 15 "MoveGroups$Chain" "identity" "J" ∈ wsA := tb1 (List.mem_of_getElem? (i := 103) rfl) rfl
theorem fl_X0_19 : Cond.fieldLink RX0 19 "MoveGroups$Chain" "reached" "[I" ∈ wsA := tb1 (List.mem_of_getElem? (i := 104) rfl) rfl
theorem fl_X0_23 : Cond.fieldLink RX0 23 "MoveGroups$Chain" "there" "[J" ∈ wsA := tb1 (List.mem_of_getElem? (i := 105) rfl) rfl
theorem fl_X0_27 : Cond.fieldLink RX0 27 "MoveGroups$Chain" "back" "[J" ∈ wsA := tb1 (List.mem_of_getElem? (i := 106) rfl) rfl
theorem fl_X0_30 : Cond.fieldLink RX0 30 "MoveGroups$Chain" "makers" "[J" ∈ wsA := tb1 (List.mem_of_getElem? (i := 107) rfl) rfl
theorem fl_X0_33 : Cond.fieldLink RX0 33 "MoveGroups$Chain" "makerCount" "[I" ∈ wsA := tb1 (List.mem_of_getElem? (i := 108) rfl) rfl
theorem fl_X0_36 : Cond.fieldLink RX0 36 "MoveGroups$Chain" "tried" "[I" ∈ wsA := tb1 (List.mem_of_getElem? (i := 109) rfl) rfl
theorem fl_X1_7 : Cond.fieldLink RX1 7 "MoveGroups$Descent" "sizes" "[I" ∈ wsA := tb1 (List.mem_of_getElem? (i := 133) rfl) rfl
theorem fl_X1_15 : Cond.fieldLink RX1 15 "MoveGroups$Descent" "makers" "[J" ∈ wsA := tb1 (List.mem_of_getElem? (i := 134) rfl) rfl
theorem fl_X1_19 : Cond.fieldLink RX1 19 "MoveGroups$Descent" "makerCount" "I" ∈ wsA := tb1 (List.mem_of_getElem? (i := 135) rfl) rfl
theorem fl_X1_23 : Cond.fieldLink RX1 23 "MoveGroups$Descent" "count" "I" ∈ wsA := tb1 (List.mem_of_getElem? (i := 136) rfl) rfl
theorem fl_X1_26 : Cond.fieldLink RX1 26 "MoveGroups$Descent" "isKnown" "Z" ∈ wsA := tb1 (List.mem_of_getElem? (i := 137) rfl) rfl
theorem fl_X2_9 : Cond.fieldLink RX2 9 "MoveGroups$Group" "points" "I" ∈ wsA := tb1 (List.mem_of_getElem? (i := 149) rfl) rfl
theorem fl_X2_15 : Cond.fieldLink RX2 15 "MoveGroups$Group" "moveCount" "I" ∈ wsA := tb1 (List.mem_of_getElem? (i := 151) rfl) rfl
theorem fl_X2_18 : Cond.fieldLink RX2 18 "MoveGroups$Group" "moves" "[J" ∈ wsA := tb1 (List.mem_of_getElem? (i := 153) rfl) rfl
theorem fl_X2_25 : Cond.fieldLink RX2 25 "MoveGroups$Group" "whole" "LMoveGroups$Chain;" ∈ wsA := tb1 (List.mem_of_getElem? (i := 155) rfl) rfl
theorem fl_X2_29 : Cond.fieldLink RX2 29 "MoveGroups$Group" "needed" "I" ∈ wsA := tb1 (List.mem_of_getElem? (i := 157) rfl) rfl
theorem fl_X2_32 : Cond.fieldLink RX2 32 "MoveGroups$Group" "part" "LMoveGroups$Chain;" ∈ wsA := tb1 (List.mem_of_getElem? (i := 158) rfl) rfl
theorem fl_X2_35 : Cond.fieldLink RX2 35 "MoveGroups$Group" "otherPart" "LMoveGroups$Chain;" ∈ wsA := tb1 (List.mem_of_getElem? (i := 159) rfl) rfl
theorem fl_X2_38 : Cond.fieldLink RX2 38 "MoveGroups$Group" "partSizes" "[I" ∈ wsA := tb1 (List.mem_of_getElem? (i := 160) rfl) rfl
theorem fl_X2_45 : Cond.fieldLink RX2 45 "MoveGroups$Group" "derivedRow" "LMoveGroups$Descent;" ∈ wsA := tb1 (List.mem_of_getElem? (i := 161) rfl) rfl
theorem fl_X2_49 : Cond.fieldLink RX2 49 "MoveGroups$Group" "centralRow" "LMoveGroups$Descent;" ∈ wsA := tb1 (List.mem_of_getElem? (i := 162) rfl) rfl
theorem fl_X2_52 : Cond.fieldLink RX2 52 "MoveGroups$Group" "roster" "LMoveGroups$Roster;" ∈ wsA := tb1 (List.mem_of_getElem? (i := 163) rfl) rfl
theorem fl_X2_56 : Cond.fieldLink RX2 56 "MoveGroups$Group" "isListed" "Z" ∈ wsA := tb1 (List.mem_of_getElem? (i := 164) rfl) rfl
theorem fl_X2_60 : Cond.fieldLink RX2 60 "MoveGroups$Group" "marks" "[I" ∈ wsA := tb1 (List.mem_of_getElem? (i := 165) rfl) rfl
theorem fl_X2_112 : Cond.fieldLink RX2 112 "MoveGroups$Roster" "room" "I" ∈ wsA := tb4 (List.mem_of_getElem? (i := 2) rfl) rfl
theorem fl_X2_160 : Cond.fieldLink RX2 160 "MoveGroups$Roster" "count" "I" ∈ wsA := tb4 (List.mem_of_getElem? (i := 5) rfl) rfl
theorem fl_X3_9 : Cond.fieldLink RX3 9 "MoveGroups$Past" "kept" "I" ∈ wsA := tb1 (List.mem_of_getElem? (i := 199) rfl) rfl
theorem fl_X3_15 : Cond.fieldLink RX3 15 "MoveGroups$Past" "standing" "J" ∈ wsA := tb1 (List.mem_of_getElem? (i := 201) rfl) rfl
theorem fl_X3_19 : Cond.fieldLink RX3 19 "MoveGroups$Past" "moveCount" "I" ∈ wsA := tb1 (List.mem_of_getElem? (i := 203) rfl) rfl
theorem fl_X3_22 : Cond.fieldLink RX3 22 "MoveGroups$Past" "moves" "[J" ∈ wsA := tb1 (List.mem_of_getElem? (i := 205) rfl) rfl
theorem fl_X3_26 : Cond.fieldLink RX3 26 "MoveGroups$Past" "stands" "[J" ∈ wsA := tb1 (List.mem_of_getElem? (i := 207) rfl) rfl
theorem fl_X3_29 : Cond.fieldLink RX3 29 "MoveGroups$Past" "moveCounts" "[I" ∈ wsA := tb1 (List.mem_of_getElem? (i := 208) rfl) rfl
theorem fl_X3_33 : Cond.fieldLink RX3 33 "MoveGroups$Past" "moveRows" "[J" ∈ wsA := tb1 (List.mem_of_getElem? (i := 209) rfl) rfl
theorem fl_X4_9 : Cond.fieldLink RX4 9 "MoveGroups$Roster" "count" "I" ∈ wsA := tb4 (List.mem_of_getElem? (i := 3) rfl) rfl
theorem fl_X4_15 : Cond.fieldLink RX4 15 "MoveGroups$Roster" "deepest" "I" ∈ wsA := tb4 (List.mem_of_getElem? (i := 6) rfl) rfl
theorem fl_X4_18 : Cond.fieldLink RX4 18 "MoveGroups$Roster" "kinds" "I" ∈ wsA := tb4 (List.mem_of_getElem? (i := 8) rfl) rfl
theorem fl_X4_21 : Cond.fieldLink RX4 21 "MoveGroups$Roster" "points" "I" ∈ wsA := tb4 (List.mem_of_getElem? (i := 19) rfl) rfl
theorem fl_X4_24 : Cond.fieldLink RX4 24 "MoveGroups$Roster" "stepCount" "I" ∈ wsA := tb4 (List.mem_of_getElem? (i := 20) rfl) rfl
theorem fl_X4_27 : Cond.fieldLink RX4 27 "MoveGroups$Roster" "isMeasured" "Z" ∈ wsA := tb4 (List.mem_of_getElem? (i := 21) rfl) rfl
theorem fl_X4_31 : Cond.fieldLink RX4 31 "MoveGroups$Roster" "isSorted" "Z" ∈ wsA := tb4 (List.mem_of_getElem? (i := 22) rfl) rfl
theorem fl_X4_34 : Cond.fieldLink RX4 34 "MoveGroups$Roster" "isShaped" "Z" ∈ wsA := tb4 (List.mem_of_getElem? (i := 23) rfl) rfl
theorem fl_X4_43 : Cond.fieldLink RX4 43 "MoveGroups$Roster" "room" "I" ∈ wsA := tb4 (List.mem_of_getElem? (i := 1) rfl) rfl
theorem fl_X4_46 : Cond.fieldLink RX4 46 "MoveGroups$Roster" "depths" "[I" ∈ wsA := tb4 (List.mem_of_getElem? (i := 10) rfl) rfl
theorem fl_X4_50 : Cond.fieldLink RX4 50 "MoveGroups$Roster" "kin" "[I" ∈ wsA := tb4 (List.mem_of_getElem? (i := 12) rfl) rfl
theorem fl_X4_53 : Cond.fieldLink RX4 53 "MoveGroups$Roster" "turns" "[J" ∈ wsA := tb4 (List.mem_of_getElem? (i := 14) rfl) rfl
theorem fl_X4_57 : Cond.fieldLink RX4 57 "MoveGroups$Roster" "shapes" "[J" ∈ wsA := tb4 (List.mem_of_getElem? (i := 15) rfl) rfl
theorem fl_X4_60 : Cond.fieldLink RX4 60 "MoveGroups$Roster" "lastSteps" "[I" ∈ wsA := tb4 (List.mem_of_getElem? (i := 16) rfl) rfl
theorem fl_X4_63 : Cond.fieldLink RX4 63 "MoveGroups$Roster" "queue" "[I" ∈ wsA := tb4 (List.mem_of_getElem? (i := 17) rfl) rfl
theorem fl_X4_68 : Cond.fieldLink RX4 68 "MoveGroups$Roster" "next" "[[I" ∈ wsA := tb4 (List.mem_of_getElem? (i := 18) rfl) rfl
theorem fl_X5_11 : Cond.fieldLink RX5 11 "MoveGroups$Text" "bytes" "[B" ∈ wsA := tb1 (List.mem_of_getElem? (i := 31) rfl) rfl
theorem fl_X5_15 : Cond.fieldLink RX5 15 "MoveGroups$Text" "length" "I" ∈ wsA := tb1 (List.mem_of_getElem? (i := 32) rfl) rfl
theorem fl_X5_19 : Cond.fieldLink RX5 19 "MoveGroups$Text" "end" "I" ∈ wsA := tb1 (List.mem_of_getElem? (i := 34) rfl) rfl
theorem fl_X5_22 : Cond.fieldLink RX5 22 "MoveGroups$Text" "at" "I" ∈ wsA := tb1 (List.mem_of_getElem? (i := 35) rfl) rfl
theorem fl_X5_25 : Cond.fieldLink RX5 25 "MoveGroups$Text" "kind" "I" ∈ wsA := tb1 (List.mem_of_getElem? (i := 36) rfl) rfl
theorem fl_X5_28 : Cond.fieldLink RX5 28 "MoveGroups$Text" "from" "I" ∈ wsA := tb1 (List.mem_of_getElem? (i := 37) rfl) rfl
theorem fl_X5_31 : Cond.fieldLink RX5 31 "MoveGroups$Text" "value" "I" ∈ wsA := tb1 (List.mem_of_getElem? (i := 38) rfl) rfl
theorem fl_X5_34 : Cond.fieldLink RX5 34 "MoveGroups$Text" "points" "I" ∈ wsA := tb1 (List.mem_of_getElem? (i := 39) rfl) rfl
theorem fl_X5_37 : Cond.fieldLink RX5 37 "MoveGroups$Text" "moveCount" "I" ∈ wsA := tb1 (List.mem_of_getElem? (i := 41) rfl) rfl
theorem fl_X5_40 : Cond.fieldLink RX5 40 "MoveGroups$Text" "moves" "[J" ∈ wsA := tb1 (List.mem_of_getElem? (i := 43) rfl) rfl
theorem fl_X5_44 : Cond.fieldLink RX5 44 "MoveGroups$Text" "nameFrom" "[I" ∈ wsA := tb1 (List.mem_of_getElem? (i := 45) rfl) rfl
theorem fl_X5_48 : Cond.fieldLink RX5 48 "MoveGroups$Text" "nameLength" "[I" ∈ wsA := tb1 (List.mem_of_getElem? (i := 46) rfl) rfl
theorem fl_X5_51 : Cond.fieldLink RX5 51 "MoveGroups$Text" "made" "J" ∈ wsA := tb1 (List.mem_of_getElem? (i := 47) rfl) rfl
theorem fl_X5_55 : Cond.fieldLink RX5 55 "MoveGroups$Text" "told" "I" ∈ wsA := tb1 (List.mem_of_getElem? (i := 48) rfl) rfl
theorem fl_X5_58 : Cond.fieldLink RX5 58 "MoveGroups$Text" "faultKind" "I" ∈ wsA := tb1 (List.mem_of_getElem? (i := 49) rfl) rfl
theorem fl_X5_61 : Cond.fieldLink RX5 61 "MoveGroups$Text" "faultPlace" "I" ∈ wsA := tb1 (List.mem_of_getElem? (i := 51) rfl) rfl
theorem fl_X8_7 : Cond.fieldLink RX8 7 "MoveGroupsModel" "now" "[I" ∈ wsA := tb6 (List.mem_of_getElem? (i := 59) rfl) rfl
theorem fl_X8_13 : Cond.fieldLink RX8 13 "MoveGroupsModel" "past" "[I" ∈ wsA := tb6 (List.mem_of_getElem? (i := 60) rfl) rfl
theorem fl_X8_16 : Cond.fieldLink RX8 16 "MoveGroupsModel" "one" "[I" ∈ wsA := tb6 (List.mem_of_getElem? (i := 61) rfl) rfl
theorem fl_X8_19 : Cond.fieldLink RX8 19 "MoveGroupsModel" "other" "[I" ∈ wsA := tb6 (List.mem_of_getElem? (i := 62) rfl) rfl
theorem fl_X8_22 : Cond.fieldLink RX8 22 "MoveGroupsModel" "made" "[I" ∈ wsA := tb6 (List.mem_of_getElem? (i := 63) rfl) rfl
theorem fl_X8_25 : Cond.fieldLink RX8 25 "MoveGroupsModel" "spare1" "[I" ∈ wsA := tb6 (List.mem_of_getElem? (i := 64) rfl) rfl
theorem fl_X8_28 : Cond.fieldLink RX8 28 "MoveGroupsModel" "spare2" "[I" ∈ wsA := tb6 (List.mem_of_getElem? (i := 65) rfl) rfl
theorem fl_X8_31 : Cond.fieldLink RX8 31 "MoveGroupsModel" "seen" "[I" ∈ wsA := tb6 (List.mem_of_getElem? (i := 66) rfl) rfl
theorem fl_X8_34 : Cond.fieldLink RX8 34 "MoveGroupsModel" "isThere" "[Z" ∈ wsA := tb6 (List.mem_of_getElem? (i := 67) rfl) rfl
theorem fl_X8_38 : Cond.fieldLink RX8 38 "MoveGroupsModel" "table" "[I" ∈ wsA := tb6 (List.mem_of_getElem? (i := 68) rfl) rfl
theorem fl_X8_41 : Cond.fieldLink RX8 41 "MoveGroupsModel" "sift1" "[I" ∈ wsA := tb6 (List.mem_of_getElem? (i := 69) rfl) rfl
theorem fl_X8_44 : Cond.fieldLink RX8 44 "MoveGroupsModel" "sift2" "[I" ∈ wsA := tb6 (List.mem_of_getElem? (i := 70) rfl) rfl
theorem fl_X8_47 : Cond.fieldLink RX8 47 "MoveGroupsModel" "rest" "[I" ∈ wsA := tb6 (List.mem_of_getElem? (i := 71) rfl) rfl
theorem fl_X8_50 : Cond.fieldLink RX8 50 "MoveGroupsModel" "left1" "[I" ∈ wsA := tb6 (List.mem_of_getElem? (i := 72) rfl) rfl
theorem fl_X8_53 : Cond.fieldLink RX8 53 "MoveGroupsModel" "right1" "[I" ∈ wsA := tb6 (List.mem_of_getElem? (i := 73) rfl) rfl
theorem fl_X8_56 : Cond.fieldLink RX8 56 "MoveGroupsModel" "both1" "[I" ∈ wsA := tb6 (List.mem_of_getElem? (i := 74) rfl) rfl
theorem fl_X8_60 : Cond.fieldLink RX8 60 "MoveGroupsModel" "all" "[I" ∈ wsA := tb6 (List.mem_of_getElem? (i := 76) rfl) rfl
theorem fl_X8_63 : Cond.fieldLink RX8 63 "MoveGroupsModel" "depth" "[I" ∈ wsA := tb6 (List.mem_of_getElem? (i := 77) rfl) rfl
theorem fl_X8_66 : Cond.fieldLink RX8 66 "MoveGroupsModel" "queue" "[I" ∈ wsA := tb6 (List.mem_of_getElem? (i := 78) rfl) rfl
theorem fl_X8_69 : Cond.fieldLink RX8 69 "MoveGroupsModel" "leader" "[I" ∈ wsA := tb6 (List.mem_of_getElem? (i := 80) rfl) rfl
theorem fl_X8_72 : Cond.fieldLink RX8 72 "MoveGroupsModel" "alikes" "[I" ∈ wsA := tb6 (List.mem_of_getElem? (i := 81) rfl) rfl
theorem fl_X8_75 : Cond.fieldLink RX8 75 "MoveGroupsModel" "out" "[B" ∈ wsA := tb6 (List.mem_of_getElem? (i := 82) rfl) rfl
theorem fl_X8_79 : Cond.fieldLink RX8 79 "MoveGroupsModel" "tape" "[B" ∈ wsA := tb6 (List.mem_of_getElem? (i := 84) rfl) rfl
theorem fl_X8_82 : Cond.fieldLink RX8 82 "MoveGroupsModel" "faultKind" "I" ∈ wsA := tb6 (List.mem_of_getElem? (i := 86) rfl) rfl
theorem fl_X8_86 : Cond.fieldLink RX8 86 "MoveGroupsModel" "faultAt" "I" ∈ wsA := tb6 (List.mem_of_getElem? (i := 87) rfl) rfl
theorem fl_X8_89 : Cond.fieldLink RX8 89 "MoveGroupsModel" "name" "[J" ∈ wsA := tb6 (List.mem_of_getElem? (i := 98) rfl) rfl
theorem fl_X8_93 : Cond.fieldLink RX8 93 "MoveGroupsModel" "read" "[I" ∈ wsA := tb6 (List.mem_of_getElem? (i := 99) rfl) rfl
theorem fl_X8_104 : Cond.fieldLink RX8 104 "MoveGroupsModel" "thrown" "I" ∈ wsA := tb6 (List.mem_of_getElem? (i := 56) rfl) rfl
theorem fl_X8_107 : Cond.fieldLink RX8 107 "MoveGroupsModel" "status" "I" ∈ wsA := tb6 (List.mem_of_getElem? (i := 55) rfl) rfl
theorem fl_X8_118 : Cond.fieldLink RX8 118 "MoveGroupsModel" "points" "I" ∈ wsA := tb6 (List.mem_of_getElem? (i := 57) rfl) rfl
theorem fl_X8_121 : Cond.fieldLink RX8 121 "MoveGroupsModel" "pastMany" "I" ∈ wsA := tb6 (List.mem_of_getElem? (i := 58) rfl) rfl
theorem fl_X8_171 : Cond.fieldLink RX8 171 "MoveGroupsModel" "isBuilt" "Z" ∈ wsA := tb6 (List.mem_of_getElem? (i := 75) rfl) rfl
theorem fl_X8_290 : Cond.fieldLink RX8 290 "MoveGroupsModel" "many" "I" ∈ wsA := tb6 (List.mem_of_getElem? (i := 79) rfl) rfl
theorem fl_X8_393 : Cond.fieldLink RX8 393 "MoveGroupsModel" "outMany" "I" ∈ wsA := tb6 (List.mem_of_getElem? (i := 83) rfl) rfl
theorem fl_X8_399 : Cond.fieldLink RX8 399 "MoveGroupsModel" "taped" "I" ∈ wsA := tb6 (List.mem_of_getElem? (i := 85) rfl) rfl
theorem fl_X8_405 : Cond.fieldLink RX8 405 "MoveGroupsModel" "last" "I" ∈ wsA := tb6 (List.mem_of_getElem? (i := 94) rfl) rfl
theorem fl_X8_411 : Cond.fieldLink RX8 411 "MoveGroupsModel" "at" "I" ∈ wsA := tb6 (List.mem_of_getElem? (i := 90) rfl) rfl
theorem fl_X8_414 : Cond.fieldLink RX8 414 "MoveGroupsModel" "then" "I" ∈ wsA := tb6 (List.mem_of_getElem? (i := 91) rfl) rfl
theorem fl_X8_421 : Cond.fieldLink RX8 421 "MoveGroupsModel" "sort" "I" ∈ wsA := tb6 (List.mem_of_getElem? (i := 92) rfl) rfl
theorem fl_X8_424 : Cond.fieldLink RX8 424 "MoveGroupsModel" "word" "J" ∈ wsA := tb6 (List.mem_of_getElem? (i := 97) rfl) rfl
theorem fl_X8_432 : Cond.fieldLink RX8 432 "MoveGroupsModel" "number" "I" ∈ wsA := tb6 (List.mem_of_getElem? (i := 93) rfl) rfl
theorem fl_X8_435 : Cond.fieldLink RX8 435 "MoveGroupsModel" "wrong" "I" ∈ wsA := tb6 (List.mem_of_getElem? (i := 88) rfl) rfl
theorem fl_X8_438 : Cond.fieldLink RX8 438 "MoveGroupsModel" "wrongAt" "I" ∈ wsA := tb6 (List.mem_of_getElem? (i := 89) rfl) rfl
theorem fl_X8_450 : Cond.fieldLink RX8 450 "MoveGroupsModel" "names" "I" ∈ wsA := tb6 (List.mem_of_getElem? (i := 96) rfl) rfl
theorem fl_X8_466 : Cond.fieldLink RX8 466 "MoveGroupsModel" "readPoints" "I" ∈ wsA := tb6 (List.mem_of_getElem? (i := 95) rfl) rfl
theorem fl_J0_9 : Cond.fieldLink RJ0 9 "java/lang/String" "value" "[B" ∈ wsA := tb9 (List.mem_of_getElem? (i := 95) rfl) rfl
theorem fl_J0_15 : Cond.fieldLink RJ0 15 "java/lang/String" "coder" "B" ∈ wsA := tb9 (List.mem_of_getElem? (i := 96) rfl) rfl
theorem fl_J0_38 : Cond.fieldLink RJ0 38 "java/lang/String" "COMPACT_STRINGS" "Z" ∈ wsA := tb2 (List.mem_of_getElem? (i := 80) rfl) rfl
theorem fl_J0_1053 : Cond.fieldLink RJ0 1053 "jdk/internal/util/Preconditions" "SIOOBE_FORMATTER" "Ljava/util/function/BiFunction;" ∈ wsA := tb2 (List.mem_of_getElem? (i := 96) rfl) rfl
theorem fl_J2_44 : Cond.fieldLink RJ2 44 "java/lang/StringUTF16" "$assertionsDisabled" "Z" ∈ wsA := tb2 (List.mem_of_getElem? (i := 114) rfl) rfl
theorem fl_J2_59 : Cond.fieldLink RJ2 59 "java/lang/StringUTF16" "HI_BYTE_SHIFT" "I" ∈ wsA := tb2 (List.mem_of_getElem? (i := 116) rfl) rfl
theorem fl_J2_63 : Cond.fieldLink RJ2 63 "java/lang/StringUTF16" "LO_BYTE_SHIFT" "I" ∈ wsA := tb2 (List.mem_of_getElem? (i := 118) rfl) rfl
theorem ml_X7_1 : Cond.methodLink RX7 1 ⟨"java/lang/Object", "<init>", "()V"⟩ ∈ wsA := tb1 (List.mem_of_getElem? (i := 22) rfl) rfl
theorem ml_X7_45 : Cond.methodLink RX7 45 yX5_hasRoom ∈ wsA := tb2 (List.mem_of_getElem? (i := 15) rfl) rfl
theorem ml_X7_49 : Cond.methodLink RX7 49 yX5_append ∈ wsA := tb2 (List.mem_of_getElem? (i := 19) rfl) rfl
theorem ml_X7_56 : Cond.methodLink RX7 56 yX7_refuse ∈ wsA := tb2 (List.mem_of_getElem? (i := 27) rfl) rfl
theorem ml_X7_60 : Cond.methodLink RX7 60 yX5_parse ∈ wsA := tb2 (List.mem_of_getElem? (i := 31) rfl) rfl
theorem ml_X7_73 : Cond.methodLink RX7 73 yX2_become ∈ wsA := tb2 (List.mem_of_getElem? (i := 176) rfl) rfl
theorem ml_X7_77 : Cond.methodLink RX7 77 yX6_identity ∈ wsA := tb2 (List.mem_of_getElem? (i := 233) rfl) rfl
theorem ml_X7_83 : Cond.methodLink RX7 83 yX3_forget ∈ wsA := tb2 (List.mem_of_getElem? (i := 234) rfl) rfl
theorem ml_X7_86 : Cond.methodLink RX7 86 yX7_tell ∈ wsA := tb2 (List.mem_of_getElem? (i := 238) rfl) rfl
theorem ml_X7_100 : Cond.methodLink RX7 100 yX7_isHome ∈ wsA := tb3 (List.mem_of_getElem? (i := 10) rfl) rfl
theorem ml_X7_104 : Cond.methodLink RX7 104 yX2_hasStep ∈ wsA := tb3 (List.mem_of_getElem? (i := 18) rfl) rfl
theorem ml_X7_107 : Cond.methodLink RX7 107 yX2_turnOf ∈ wsA := tb3 (List.mem_of_getElem? (i := 22) rfl) rfl
theorem ml_X7_110 : Cond.methodLink RX7 110 yX7_tellTurn ∈ wsA := tb3 (List.mem_of_getElem? (i := 27) rfl) rfl
theorem ml_X7_114 : Cond.methodLink RX7 114 yX7_read ∈ wsA := tb3 (List.mem_of_getElem? (i := 44) rfl) rfl
theorem ml_X7_117 : Cond.methodLink RX7 117 yX2_hasPoint ∈ wsA := tb3 (List.mem_of_getElem? (i := 51) rfl) rfl
theorem ml_X7_120 : Cond.methodLink RX7 120 yX6_image ∈ wsA := tb3 (List.mem_of_getElem? (i := 55) rfl) rfl
theorem ml_X7_124 : Cond.methodLink RX7 124 yX6_compose ∈ wsA := tb3 (List.mem_of_getElem? (i := 60) rfl) rfl
theorem ml_X7_128 : Cond.methodLink RX7 128 yX6_invert ∈ wsA := tb3 (List.mem_of_getElem? (i := 65) rfl) rfl
theorem ml_X7_132 : Cond.methodLink RX7 132 yX6_raise ∈ wsA := tb3 (List.mem_of_getElem? (i := 70) rfl) rfl
theorem ml_X7_136 : Cond.methodLink RX7 136 yX6_shape ∈ wsA := tb3 (List.mem_of_getElem? (i := 83) rfl) rfl
theorem ml_X7_139 : Cond.methodLink RX7 139 yX6_period ∈ wsA := tb3 (List.mem_of_getElem? (i := 86) rfl) rfl
theorem ml_X7_143 : Cond.methodLink RX7 143 yX6_cycles ∈ wsA := tb3 (List.mem_of_getElem? (i := 92) rfl) rfl
theorem ml_X7_146 : Cond.methodLink RX7 146 yX6_staying ∈ wsA := tb3 (List.mem_of_getElem? (i := 95) rfl) rfl
theorem ml_X7_149 : Cond.methodLink RX7 149 yX6_isEven ∈ wsA := tb3 (List.mem_of_getElem? (i := 98) rfl) rfl
theorem ml_X7_153 : Cond.methodLink RX7 153 yX6_moved ∈ wsA := tb3 (List.mem_of_getElem? (i := 103) rfl) rfl
theorem ml_X7_156 : Cond.methodLink RX7 156 yX2_reachedFrom ∈ wsA := tb3 (List.mem_of_getElem? (i := 110) rfl) rfl
theorem ml_X7_159 : Cond.methodLink RX7 159 yX2_countOrbits ∈ wsA := tb3 (List.mem_of_getElem? (i := 123) rfl) rfl
theorem ml_X7_167 : Cond.methodLink RX7 167 yX0_countHeld ∈ wsA := tb3 (List.mem_of_getElem? (i := 132) rfl) rfl
theorem ml_X7_172 : Cond.methodLink RX7 172 yX0_heldPoint ∈ wsA := tb3 (List.mem_of_getElem? (i := 142) rfl) rfl
theorem ml_X7_175 : Cond.methodLink RX7 175 yX0_reachedAt ∈ wsA := tb3 (List.mem_of_getElem? (i := 150) rfl) rfl
theorem ml_X7_178 : Cond.methodLink RX7 178 yX2_size ∈ wsA := tb3 (List.mem_of_getElem? (i := 158) rfl) rfl
theorem ml_X7_181 : Cond.methodLink RX7 181 yX0_contains ∈ wsA := tb3 (List.mem_of_getElem? (i := 174) rfl) rfl
theorem ml_X7_184 : Cond.methodLink RX7 184 yX0_follow ∈ wsA := tb3 (List.mem_of_getElem? (i := 182) rfl) rfl
theorem ml_X7_187 : Cond.methodLink RX7 187 yX0_pick ∈ wsA := tb3 (List.mem_of_getElem? (i := 190) rfl) rfl
theorem ml_X7_190 : Cond.methodLink RX7 190 yX0_placeOf ∈ wsA := tb3 (List.mem_of_getElem? (i := 202) rfl) rfl
theorem ml_X7_193 : Cond.methodLink RX7 193 yX7_tellWay ∈ wsA := tb3 (List.mem_of_getElem? (i := 214) rfl) rfl
theorem ml_X7_196 : Cond.methodLink RX7 196 yX7_hurdle ∈ wsA := tb3 (List.mem_of_getElem? (i := 218) rfl) rfl
theorem ml_X7_199 : Cond.methodLink RX7 199 yX2_measured ∈ wsA := tb3 (List.mem_of_getElem? (i := 222) rfl) rfl
theorem ml_X7_203 : Cond.methodLink RX7 203 yX4_countDeep ∈ wsA := tb4 (List.mem_of_getElem? (i := 101) rfl) rfl
theorem ml_X7_211 : Cond.methodLink RX7 211 yX4_firstDeep ∈ wsA := tb4 (List.mem_of_getElem? (i := 109) rfl) rfl
theorem ml_X7_214 : Cond.methodLink RX7 214 yX4_sumOfDepths ∈ wsA := tb4 (List.mem_of_getElem? (i := 117) rfl) rfl
theorem ml_X7_220 : Cond.methodLink RX7 220 yX6_commonDivisor ∈ wsA := tb4 (List.mem_of_getElem? (i := 121) rfl) rfl
theorem ml_X7_224 : Cond.methodLink RX7 224 yX4_find ∈ wsA := tb4 (List.mem_of_getElem? (i := 92) rfl) rfl
theorem ml_X7_227 : Cond.methodLink RX7 227 yX4_stepsCloser ∈ wsA := tb4 (List.mem_of_getElem? (i := 126) rfl) rfl
theorem ml_X7_230 : Cond.methodLink RX7 230 yX2_countCentral ∈ wsA := tb4 (List.mem_of_getElem? (i := 138) rfl) rfl
theorem ml_X7_233 : Cond.methodLink RX7 233 yX2_centralPlace ∈ wsA := tb4 (List.mem_of_getElem? (i := 149) rfl) rfl
theorem ml_X7_236 : Cond.methodLink RX7 236 yX2_sorted ∈ wsA := tb4 (List.mem_of_getElem? (i := 157) rfl) rfl
theorem ml_X7_242 : Cond.methodLink RX7 242 yX4_countKin ∈ wsA := tb4 (List.mem_of_getElem? (i := 176) rfl) rfl
theorem ml_X7_245 : Cond.methodLink RX7 245 yX2_descentBy ∈ wsA := tb4 (List.mem_of_getElem? (i := 184) rfl) rfl
theorem ml_X7_249 : Cond.methodLink RX7 249 yX1_sizeAt ∈ wsA := tb4 (List.mem_of_getElem? (i := 218) rfl) rfl
theorem ml_X7_254 : Cond.methodLink RX7 254 yX2_movesCommute ∈ wsA := tb4 (List.mem_of_getElem? (i := 226) rfl) rfl
theorem ml_X7_258 : Cond.methodLink RX7 258 yX1_endsAtHome ∈ wsA := tb4 (List.mem_of_getElem? (i := 231) rfl) rfl
theorem ml_X7_261 : Cond.methodLink RX7 261 yX2_movesAreEven ∈ wsA := tb4 (List.mem_of_getElem? (i := 236) rfl) rfl
theorem ml_X7_264 : Cond.methodLink RX7 264 yX2_isPrimitive ∈ wsA := tb5 (List.mem_of_getElem? (i := 1) rfl) rfl
theorem ml_X7_267 : Cond.methodLink RX7 267 yX6_commutatorOf ∈ wsA := tb5 (List.mem_of_getElem? (i := 21) rfl) rfl
theorem ml_X7_270 : Cond.methodLink RX7 270 yX6_conjugate ∈ wsA := tb5 (List.mem_of_getElem? (i := 26) rfl) rfl
theorem ml_X7_277 : Cond.methodLink RX7 277 yX2_hasMoves ∈ wsA := tb5 (List.mem_of_getElem? (i := 39) rfl) rfl
theorem ml_X7_280 : Cond.methodLink RX7 280 yX2_sizeBy ∈ wsA := tb5 (List.mem_of_getElem? (i := 43) rfl) rfl
theorem ml_X7_283 : Cond.methodLink RX7 283 yX2_countInBoth ∈ wsA := tb5 (List.mem_of_getElem? (i := 51) rfl) rfl
theorem ml_X7_286 : Cond.methodLink RX7 286 yX2_staysTurned ∈ wsA := tb5 (List.mem_of_getElem? (i := 65) rfl) rfl
theorem ml_X7_289 : Cond.methodLink RX7 289 yX2_spareMoves ∈ wsA := tb5 (List.mem_of_getElem? (i := 76) rfl) rfl
theorem ml_X7_292 : Cond.methodLink RX7 292 yX2_fewestMoves ∈ wsA := tb5 (List.mem_of_getElem? (i := 86) rfl) rfl
theorem ml_X7_295 : Cond.methodLink RX7 295 yX2_hasSet ∈ wsA := tb5 (List.mem_of_getElem? (i := 95) rfl) rfl
theorem ml_X7_298 : Cond.methodLink RX7 298 yX2_countHolding ∈ wsA := tb5 (List.mem_of_getElem? (i := 99) rfl) rfl
theorem ml_X7_301 : Cond.methodLink RX7 301 yX2_all ∈ wsA := tb5 (List.mem_of_getElem? (i := 111) rfl) rfl
theorem ml_X7_304 : Cond.methodLink RX7 304 yX4_countKeeping ∈ wsA := tb5 (List.mem_of_getElem? (i := 112) rfl) rfl
theorem ml_X7_307 : Cond.methodLink RX7 307 yX4_firstBringing ∈ wsA := tb5 (List.mem_of_getElem? (i := 124) rfl) rfl
theorem ml_X7_310 : Cond.methodLink RX7 310 yX2_blockOf ∈ wsA := tb5 (List.mem_of_getElem? (i := 132) rfl) rfl
theorem ml_X7_313 : Cond.methodLink RX7 313 yX0_countFree ∈ wsA := tb5 (List.mem_of_getElem? (i := 137) rfl) rfl
theorem ml_X7_316 : Cond.methodLink RX7 316 yX2_shaped ∈ wsA := tb5 (List.mem_of_getElem? (i := 145) rfl) rfl
theorem ml_X7_319 : Cond.methodLink RX7 319 yX4_countStaying ∈ wsA := tb5 (List.mem_of_getElem? (i := 154) rfl) rfl
theorem ml_X7_322 : Cond.methodLink RX7 322 yX4_countColourings ∈ wsA := tb5 (List.mem_of_getElem? (i := 163) rfl) rfl
theorem ml_X7_325 : Cond.methodLink RX7 325 yX4_countShaped ∈ wsA := tb5 (List.mem_of_getElem? (i := 172) rfl) rfl
theorem ml_X7_328 : Cond.methodLink RX7 328 yX4_firstRoot ∈ wsA := tb5 (List.mem_of_getElem? (i := 180) rfl) rfl
theorem ml_X7_331 : Cond.methodLink RX7 331 yX4_fewestMoved ∈ wsA := tb5 (List.mem_of_getElem? (i := 189) rfl) rfl
theorem ml_X7_334 : Cond.methodLink RX7 334 yX4_countPeriod ∈ wsA := tb5 (List.mem_of_getElem? (i := 197) rfl) rfl
theorem ml_X7_337 : Cond.methodLink RX7 337 yX7_keepPast ∈ wsA := tb5 (List.mem_of_getElem? (i := 206) rfl) rfl
theorem ml_X7_340 : Cond.methodLink RX7 340 yX7_countAway ∈ wsA := tb5 (List.mem_of_getElem? (i := 221) rfl) rfl
theorem ml_X7_343 : Cond.methodLink RX7 343 yX2_take ∈ wsA := tb5 (List.mem_of_getElem? (i := 238) rfl) rfl
theorem ml_X7_347 : Cond.methodLink RX7 347 yX2_lose ∈ wsA := tb6 (List.mem_of_getElem? (i := 6) rfl) rfl
theorem ml_X7_350 : Cond.methodLink RX7 350 yX3_goBack ∈ wsA := tb6 (List.mem_of_getElem? (i := 14) rfl) rfl
theorem ml_X7_356 : Cond.methodLink RX7 356 yX2_hasJust ∈ wsA := tb6 (List.mem_of_getElem? (i := 18) rfl) rfl
theorem ml_X7_360 : Cond.methodLink RX7 360 yX7_printCycles ∈ wsA := tb6 (List.mem_of_getElem? (i := 26) rfl) rfl
theorem ml_X7_363 : Cond.methodLink RX7 363 yX6_toNumber ∈ wsA := tb3 (List.mem_of_getElem? (i := 31) rfl) rfl
theorem ml_X7_366 : Cond.methodLink RX7 366 yX6_fromNumber ∈ wsA := tb3 (List.mem_of_getElem? (i := 48) rfl) rfl
theorem ml_X7_372 : Cond.methodLink RX7 372 yX4_stepOfWay ∈ wsA := tb4 (List.mem_of_getElem? (i := 93) rfl) rfl
theorem ml_X7_375 : Cond.methodLink RX7 375 yJ6_bitCount_0f7a4 ∈ wsA := tb5 (List.mem_of_getElem? (i := 225) rfl) rfl
theorem ml_X7_381 : Cond.methodLink RX7 381 yX3_keep ∈ wsA := tb5 (List.mem_of_getElem? (i := 210) rfl) rfl
theorem ml_X7_385 : Cond.methodLink RX7 385 yX7_printCycle ∈ wsA := tb6 (List.mem_of_getElem? (i := 30) rfl) rfl
theorem ml_X7_388 : Cond.methodLink RX7 388 yX7_printByte ∈ wsA := tb6 (List.mem_of_getElem? (i := 34) rfl) rfl
theorem ml_X0_5 : Cond.methodLink RX0 5 ⟨"java/lang/Object", "<init>", "()V"⟩ ∈ wsA := tb1 (List.mem_of_getElem? (i := 100) rfl) rfl
theorem ml_X0_39 : Cond.methodLink RX0 39 yX6_identity ∈ wsA := tb2 (List.mem_of_getElem? (i := 197) rfl) rfl
theorem ml_X0_44 : Cond.methodLink RX0 44 yX0_start ∈ wsA := tb2 (List.mem_of_getElem? (i := 193) rfl) rfl
theorem ml_X0_48 : Cond.methodLink RX0 48 yX0_grow ∈ wsA := tb2 (List.mem_of_getElem? (i := 198) rfl) rfl
theorem ml_X0_52 : Cond.methodLink RX0 52 yX0_sift ∈ wsA := tb2 (List.mem_of_getElem? (i := 202) rfl) rfl
theorem ml_X0_56 : Cond.methodLink RX0 56 yX0_insert ∈ wsA := tb2 (List.mem_of_getElem? (i := 210) rfl) rfl
theorem ml_X0_61 : Cond.methodLink RX0 61 yX0_untried ∈ wsA := tb2 (List.mem_of_getElem? (i := 220) rfl) rfl
theorem ml_X0_65 : Cond.methodLink RX0 65 yX0_tryMaker ∈ wsA := tb2 (List.mem_of_getElem? (i := 224) rfl) rfl
theorem ml_X0_69 : Cond.methodLink RX0 69 yX6_image ∈ wsA := tb2 (List.mem_of_getElem? (i := 206) rfl) rfl
theorem ml_X0_72 : Cond.methodLink RX0 72 yX6_compose ∈ wsA := tb2 (List.mem_of_getElem? (i := 209) rfl) rfl
theorem ml_X0_76 : Cond.methodLink RX0 76 yX0_firstMoved ∈ wsA := tb2 (List.mem_of_getElem? (i := 214) rfl) rfl
theorem ml_X0_80 : Cond.methodLink RX0 80 yJ9_min_7cf53 ∈ wsA := tb2 (List.mem_of_getElem? (i := 218) rfl) rfl
theorem ml_X0_86 : Cond.methodLink RX0 86 yX6_invert ∈ wsA := tb2 (List.mem_of_getElem? (i := 228) rfl) rfl
theorem ml_X0_89 : Cond.methodLink RX0 89 yX0_sizeFrom ∈ wsA := tb3 (List.mem_of_getElem? (i := 166) rfl) rfl
theorem ml_X0_92 : Cond.methodLink RX0 92 yJ6_bitCount_0f7a4 ∈ wsA := tb3 (List.mem_of_getElem? (i := 136) rfl) rfl
theorem ml_X0_97 : Cond.methodLink RX0 97 yX0_sourceOf ∈ wsA := tb3 (List.mem_of_getElem? (i := 194) rfl) rfl
theorem ml_X0_101 : Cond.methodLink RX0 101 yX0_countSources ∈ wsA := tb3 (List.mem_of_getElem? (i := 206) rfl) rfl
theorem ml_X1_1 : Cond.methodLink RX1 1 ⟨"java/lang/Object", "<init>", "()V"⟩ ∈ wsA := tb1 (List.mem_of_getElem? (i := 132) rfl) rfl
theorem ml_X1_30 : Cond.methodLink RX1 30 yX1_takeMakers ∈ wsA := tb4 (List.mem_of_getElem? (i := 192) rfl) rfl
theorem ml_X1_34 : Cond.methodLink RX1 34 yX0_size ∈ wsA := tb4 (List.mem_of_getElem? (i := 205) rfl) rfl
theorem ml_X1_38 : Cond.methodLink RX1 38 yX1_descend ∈ wsA := tb4 (List.mem_of_getElem? (i := 206) rfl) rfl
theorem ml_X1_42 : Cond.methodLink RX1 42 yX0_countMakers ∈ wsA := tb4 (List.mem_of_getElem? (i := 196) rfl) rfl
theorem ml_X1_45 : Cond.methodLink RX1 45 yJ9_min_7cf53 ∈ wsA := tb4 (List.mem_of_getElem? (i := 200) rfl) rfl
theorem ml_X1_51 : Cond.methodLink RX1 51 yX0_maker ∈ wsA := tb4 (List.mem_of_getElem? (i := 201) rfl) rfl
theorem ml_X1_58 : Cond.methodLink RX1 58 yX0_start ∈ wsA := tb4 (List.mem_of_getElem? (i := 210) rfl) rfl
theorem ml_X1_62 : Cond.methodLink RX1 62 yX6_commutatorOf ∈ wsA := tb4 (List.mem_of_getElem? (i := 211) rfl) rfl
theorem ml_X1_68 : Cond.methodLink RX1 68 yX0_grow ∈ wsA := tb4 (List.mem_of_getElem? (i := 216) rfl) rfl
theorem ml_X1_72 : Cond.methodLink RX1 72 yX6_conjugate ∈ wsA := tb4 (List.mem_of_getElem? (i := 217) rfl) rfl
theorem ml_X1_75 : Cond.methodLink RX1 75 yX1_sizeAt ∈ wsA := tb4 (List.mem_of_getElem? (i := 235) rfl) rfl
theorem ml_X2_3 : Cond.methodLink RX2 3 ⟨"java/lang/Object", "<init>", "()V"⟩ ∈ wsA := tb1 (List.mem_of_getElem? (i := 94) rfl) rfl
theorem ml_X2_63 : Cond.methodLink RX2 63 yJ9_min_7cf53 ∈ wsA := tb2 (List.mem_of_getElem? (i := 180) rfl) rfl
theorem ml_X2_69 : Cond.methodLink RX2 69 yX2_findOut ∈ wsA := tb2 (List.mem_of_getElem? (i := 181) rfl) rfl
theorem ml_X2_72 : Cond.methodLink RX2 72 yJ9_max_7cf53 ∈ wsA := tb4 (List.mem_of_getElem? (i := 57) rfl) rfl
theorem ml_X2_75 : Cond.methodLink RX2 75 yX2_everyMove ∈ wsA := tb2 (List.mem_of_getElem? (i := 185) rfl) rfl
theorem ml_X2_79 : Cond.methodLink RX2 79 yX0_gather ∈ wsA := tb2 (List.mem_of_getElem? (i := 189) rfl) rfl
theorem ml_X2_83 : Cond.methodLink RX2 83 yX1_forget ∈ wsA := tb2 (List.mem_of_getElem? (i := 229) rfl) rfl
theorem ml_X2_86 : Cond.methodLink RX2 86 yX6_invert ∈ wsA := tb3 (List.mem_of_getElem? (i := 26) rfl) rfl
theorem ml_X2_92 : Cond.methodLink RX2 92 yX0_size ∈ wsA := tb3 (List.mem_of_getElem? (i := 162) rfl) rfl
theorem ml_X2_95 : Cond.methodLink RX2 95 yX2_imagesOf ∈ wsA := tb3 (List.mem_of_getElem? (i := 114) rfl) rfl
theorem ml_X2_99 : Cond.methodLink RX2 99 yX6_image ∈ wsA := tb3 (List.mem_of_getElem? (i := 118) rfl) rfl
theorem ml_X2_103 : Cond.methodLink RX2 103 yX2_reachedFrom ∈ wsA := tb3 (List.mem_of_getElem? (i := 127) rfl) rfl
theorem ml_X2_109 : Cond.methodLink RX2 109 yX4_init ∈ wsA := tb3 (List.mem_of_getElem? (i := 232) rfl) rfl
theorem ml_X2_115 : Cond.methodLink RX2 115 yX4_fill ∈ wsA := tb4 (List.mem_of_getElem? (i := 58) rfl) rfl
theorem ml_X2_119 : Cond.methodLink RX2 119 yX2_all ∈ wsA := tb3 (List.mem_of_getElem? (i := 226) rfl) rfl
theorem ml_X2_123 : Cond.methodLink RX2 123 yX4_measure ∈ wsA := tb4 (List.mem_of_getElem? (i := 76) rfl) rfl
theorem ml_X2_127 : Cond.methodLink RX2 127 yX4_sort ∈ wsA := tb4 (List.mem_of_getElem? (i := 161) rfl) rfl
theorem ml_X2_130 : Cond.methodLink RX2 130 yX4_shapeAll ∈ wsA := tb5 (List.mem_of_getElem? (i := 149) rfl) rfl
theorem ml_X2_133 : Cond.methodLink RX2 133 yX4_nextCentral ∈ wsA := tb4 (List.mem_of_getElem? (i := 142) rfl) rfl
theorem ml_X2_137 : Cond.methodLink RX2 137 yX1_know ∈ wsA := tb4 (List.mem_of_getElem? (i := 188) rfl) rfl
theorem ml_X2_141 : Cond.methodLink RX2 141 yX6_commute ∈ wsA := tb4 (List.mem_of_getElem? (i := 230) rfl) rfl
theorem ml_X2_145 : Cond.methodLink RX2 145 yX6_isEven ∈ wsA := tb5 (List.mem_of_getElem? (i := 0) rfl) rfl
theorem ml_X2_149 : Cond.methodLink RX2 149 yX2_blockOf ∈ wsA := tb5 (List.mem_of_getElem? (i := 5) rfl) rfl
theorem ml_X2_152 : Cond.methodLink RX2 152 yX2_spreadMarks ∈ wsA := tb5 (List.mem_of_getElem? (i := 9) rfl) rfl
theorem ml_X2_156 : Cond.methodLink RX2 156 yX2_replaceMark ∈ wsA := tb5 (List.mem_of_getElem? (i := 13) rfl) rfl
theorem ml_X2_163 : Cond.methodLink RX2 163 yX4_turnAt ∈ wsA := tb5 (List.mem_of_getElem? (i := 55) rfl) rfl
theorem ml_X2_167 : Cond.methodLink RX2 167 yX0_contains ∈ wsA := tb5 (List.mem_of_getElem? (i := 60) rfl) rfl
theorem ml_X2_170 : Cond.methodLink RX2 170 yX0_countMakers ∈ wsA := tb5 (List.mem_of_getElem? (i := 69) rfl) rfl
theorem ml_X2_173 : Cond.methodLink RX2 173 yX0_maker ∈ wsA := tb5 (List.mem_of_getElem? (i := 70) rfl) rfl
theorem ml_X2_176 : Cond.methodLink RX2 176 yX6_conjugate ∈ wsA := tb5 (List.mem_of_getElem? (i := 71) rfl) rfl
theorem ml_X2_180 : Cond.methodLink RX2 180 yX2_sizeBy ∈ wsA := tb5 (List.mem_of_getElem? (i := 80) rfl) rfl
theorem ml_X2_183 : Cond.methodLink RX2 183 yX2_size ∈ wsA := tb5 (List.mem_of_getElem? (i := 81) rfl) rfl
theorem ml_X2_184 : Cond.methodLink RX2 184 yJ6_bitCount_0f7a4 ∈ wsA := tb5 (List.mem_of_getElem? (i := 90) rfl) rfl
theorem ml_X2_189 : Cond.methodLink RX2 189 yX6_with ∈ wsA := tb5 (List.mem_of_getElem? (i := 103) rfl) rfl
theorem ml_X2_193 : Cond.methodLink RX2 193 yX0_start ∈ wsA := tb5 (List.mem_of_getElem? (i := 104) rfl) rfl
theorem ml_X2_196 : Cond.methodLink RX2 196 yX0_grow ∈ wsA := tb5 (List.mem_of_getElem? (i := 105) rfl) rfl
theorem ml_X2_199 : Cond.methodLink RX2 199 yX0_sizeFrom ∈ wsA := tb5 (List.mem_of_getElem? (i := 106) rfl) rfl
theorem ml_X3_3 : Cond.methodLink RX3 3 ⟨"java/lang/Object", "<init>", "()V"⟩ ∈ wsA := tb1 (List.mem_of_getElem? (i := 198) rfl) rfl
theorem ml_X3_36 : Cond.methodLink RX3 36 yX3_loseOldest ∈ wsA := tb5 (List.mem_of_getElem? (i := 214) rfl) rfl
theorem ml_X3_39 : Cond.methodLink RX3 39 ⟨"java/lang/System", "arraycopy", "(Ljava/lang/Object;ILjava/lang/Object;II)V"⟩ ∈ wsA := tb5 (List.mem_of_getElem? (i := 218) rfl) rfl
theorem ml_X4_3 : Cond.methodLink RX4 3 ⟨"java/lang/Object", "<init>", "()V"⟩ ∈ wsA := tb3 (List.mem_of_getElem? (i := 235) rfl) rfl
theorem ml_X4_37 : Cond.methodLink RX4 37 yJ9_max_7cf53 ∈ wsA := tb3 (List.mem_of_getElem? (i := 236) rfl) rfl
theorem ml_X4_71 : Cond.methodLink RX4 71 yX6_identity ∈ wsA := tb4 (List.mem_of_getElem? (i := 62) rfl) rfl
theorem ml_X4_77 : Cond.methodLink RX4 77 yX0_reachedAt ∈ wsA := tb4 (List.mem_of_getElem? (i := 63) rfl) rfl
theorem ml_X4_83 : Cond.methodLink RX4 83 yJ6_bitCount_0f7a4 ∈ wsA := tb4 (List.mem_of_getElem? (i := 64) rfl) rfl
theorem ml_X4_88 : Cond.methodLink RX4 88 yX4_widen ∈ wsA := tb4 (List.mem_of_getElem? (i := 65) rfl) rfl
theorem ml_X4_92 : Cond.methodLink RX4 92 yX6_invert ∈ wsA := tb4 (List.mem_of_getElem? (i := 69) rfl) rfl
theorem ml_X4_96 : Cond.methodLink RX4 96 yX6_image ∈ wsA := tb4 (List.mem_of_getElem? (i := 70) rfl) rfl
theorem ml_X4_100 : Cond.methodLink RX4 100 yX0_carrier ∈ wsA := tb4 (List.mem_of_getElem? (i := 71) rfl) rfl
theorem ml_X4_104 : Cond.methodLink RX4 104 yX6_compose ∈ wsA := tb4 (List.mem_of_getElem? (i := 75) rfl) rfl
theorem ml_X4_110 : Cond.methodLink RX4 110 yX4_followMove ∈ wsA := tb4 (List.mem_of_getElem? (i := 80) rfl) rfl
theorem ml_X4_114 : Cond.methodLink RX4 114 yX4_reachFrom ∈ wsA := tb4 (List.mem_of_getElem? (i := 88) rfl) rfl
theorem ml_X4_117 : Cond.methodLink RX4 117 yX4_find ∈ wsA := tb4 (List.mem_of_getElem? (i := 84) rfl) rfl
theorem ml_X4_121 : Cond.methodLink RX4 121 yX4_gatherKin ∈ wsA := tb4 (List.mem_of_getElem? (i := 165) rfl) rfl
theorem ml_X4_125 : Cond.methodLink RX4 125 yX6_conjugate ∈ wsA := tb4 (List.mem_of_getElem? (i := 169) rfl) rfl
theorem ml_X4_128 : Cond.methodLink RX4 128 yX6_commute ∈ wsA := tb4 (List.mem_of_getElem? (i := 146) rfl) rfl
theorem ml_X4_132 : Cond.methodLink RX4 132 yX4_takesInto ∈ wsA := tb5 (List.mem_of_getElem? (i := 116) rfl) rfl
theorem ml_X4_136 : Cond.methodLink RX4 136 yX6_imageOfPower ∈ wsA := tb5 (List.mem_of_getElem? (i := 184) rfl) rfl
theorem ml_X4_140 : Cond.methodLink RX4 140 yX6_shape ∈ wsA := tb5 (List.mem_of_getElem? (i := 153) rfl) rfl
theorem ml_X4_143 : Cond.methodLink RX4 143 yX6_staying ∈ wsA := tb5 (List.mem_of_getElem? (i := 158) rfl) rfl
theorem ml_X4_146 : Cond.methodLink RX4 146 yX6_period ∈ wsA := tb5 (List.mem_of_getElem? (i := 201) rfl) rfl
theorem ml_X4_149 : Cond.methodLink RX4 149 yX6_cycles ∈ wsA := tb5 (List.mem_of_getElem? (i := 167) rfl) rfl
theorem ml_X5_3 : Cond.methodLink RX5 3 ⟨"java/lang/Object", "<init>", "()V"⟩ ∈ wsA := tb1 (List.mem_of_getElem? (i := 30) rfl) rfl
theorem ml_X5_64 : Cond.methodLink RX5 64 yJ9_min_7cf53 ∈ wsA := tb2 (List.mem_of_getElem? (i := 35) rfl) rfl
theorem ml_X5_70 : Cond.methodLink RX5 70 yX5_scan ∈ wsA := tb2 (List.mem_of_getElem? (i := 38) rfl) rfl
theorem ml_X5_73 : Cond.methodLink RX5 73 yX5_readPoints ∈ wsA := tb2 (List.mem_of_getElem? (i := 55) rfl) rfl
theorem ml_X5_77 : Cond.methodLink RX5 77 yX5_readMove ∈ wsA := tb2 (List.mem_of_getElem? (i := 120) rfl) rfl
theorem ml_X5_80 : Cond.methodLink RX5 80 yX5_readSign ∈ wsA := tb2 (List.mem_of_getElem? (i := 158) rfl) rfl
theorem ml_X5_84 : Cond.methodLink RX5 84 yX5_isLetter ∈ wsA := tb2 (List.mem_of_getElem? (i := 42) rfl) rfl
theorem ml_X5_87 : Cond.methodLink RX5 87 yX5_isDigit ∈ wsA := tb2 (List.mem_of_getElem? (i := 45) rfl) rfl
theorem ml_X5_90 : Cond.methodLink RX5 90 yX5_scanNumber ∈ wsA := tb2 (List.mem_of_getElem? (i := 48) rfl) rfl
theorem ml_X5_93 : Cond.methodLink RX5 93 yX5_isSign ∈ wsA := tb2 (List.mem_of_getElem? (i := 52) rfl) rfl
theorem ml_X5_96 : Cond.methodLink RX5 96 yX5_fail ∈ wsA := tb2 (List.mem_of_getElem? (i := 63) rfl) rfl
theorem ml_X5_99 : Cond.methodLink RX5 99 yJ0_length_8abf5 ∈ wsA := tb2 (List.mem_of_getElem? (i := 72) rfl) rfl
theorem ml_X5_104 : Cond.methodLink RX5 104 yJ0_charAt_5068e ∈ wsA := tb2 (List.mem_of_getElem? (i := 82) rfl) rfl
theorem ml_X5_108 : Cond.methodLink RX5 108 yX5_need ∈ wsA := tb2 (List.mem_of_getElem? (i := 59) rfl) rfl
theorem ml_X5_112 : Cond.methodLink RX5 112 yX5_says ∈ wsA := tb2 (List.mem_of_getElem? (i := 68) rfl) rfl
theorem ml_X5_120 : Cond.methodLink RX5 120 yX5_readNewName ∈ wsA := tb2 (List.mem_of_getElem? (i := 126) rfl) rfl
theorem ml_X5_123 : Cond.methodLink RX5 123 yX6_identity ∈ wsA := tb2 (List.mem_of_getElem? (i := 142) rfl) rfl
theorem ml_X5_129 : Cond.methodLink RX5 129 yX5_readCycles ∈ wsA := tb2 (List.mem_of_getElem? (i := 145) rfl) rfl
theorem ml_X5_132 : Cond.methodLink RX5 132 yX5_readItems ∈ wsA := tb2 (List.mem_of_getElem? (i := 162) rfl) rfl
theorem ml_X5_135 : Cond.methodLink RX5 135 yX5_needName ∈ wsA := tb2 (List.mem_of_getElem? (i := 130) rfl) rfl
theorem ml_X5_138 : Cond.methodLink RX5 138 yX5_named ∈ wsA := tb2 (List.mem_of_getElem? (i := 134) rfl) rfl
theorem ml_X5_141 : Cond.methodLink RX5 141 yX5_isSameAt ∈ wsA := tb2 (List.mem_of_getElem? (i := 138) rfl) rfl
theorem ml_X5_144 : Cond.methodLink RX5 144 yX5_readCycle ∈ wsA := tb2 (List.mem_of_getElem? (i := 149) rfl) rfl
theorem ml_X5_147 : Cond.methodLink RX5 147 yX6_with ∈ wsA := tb2 (List.mem_of_getElem? (i := 153) rfl) rfl
theorem ml_X5_151 : Cond.methodLink RX5 151 yX5_readItem ∈ wsA := tb2 (List.mem_of_getElem? (i := 166) rfl) rfl
theorem ml_X5_154 : Cond.methodLink RX5 154 yX6_invert ∈ wsA := tb2 (List.mem_of_getElem? (i := 170) rfl) rfl
theorem ml_X5_158 : Cond.methodLink RX5 158 yX6_compose ∈ wsA := tb2 (List.mem_of_getElem? (i := 173) rfl) rfl
theorem ml_X6_15 : Cond.methodLink RX6 15 yX6_image ∈ wsA := tb3 (List.mem_of_getElem? (i := 35) rfl) rfl
theorem ml_X6_19 : Cond.methodLink RX6 19 yX6_compose ∈ wsA := tb4 (List.mem_of_getElem? (i := 214) rfl) rfl
theorem ml_X6_23 : Cond.methodLink RX6 23 yX6_invert ∈ wsA := tb4 (List.mem_of_getElem? (i := 215) rfl) rfl
theorem ml_X6_27 : Cond.methodLink RX6 27 yJ9_floorMod_7cf53 ∈ wsA := tb3 (List.mem_of_getElem? (i := 76) rfl) rfl
theorem ml_X6_33 : Cond.methodLink RX6 33 yX6_imageOfPower ∈ wsA := tb3 (List.mem_of_getElem? (i := 73) rfl) rfl
theorem ml_X6_37 : Cond.methodLink RX6 37 yX6_commonDivisor ∈ wsA := tb3 (List.mem_of_getElem? (i := 89) rfl) rfl
theorem ml_X6_40 : Cond.methodLink RX6 40 yX6_shape ∈ wsA := tb3 (List.mem_of_getElem? (i := 101) rfl) rfl
theorem ml_X6_43 : Cond.methodLink RX6 43 yX6_cycles ∈ wsA := tb3 (List.mem_of_getElem? (i := 102) rfl) rfl
theorem ml_L_9 : Cond.methodLink RL 9 yX7_init ∈ wsA := tb1 (List.mem_of_getElem? (i := 19) rfl) rfl
theorem ml_L_12 : Cond.methodLink RL 12 yX8_init ∈ wsA := tb6 (List.mem_of_getElem? (i := 44) rfl) rfl
theorem ml_L_13 : Cond.methodLink RL 13 yX7_status ∈ wsA := tb2 (List.mem_of_getElem? (i := 7) rfl) rfl
theorem ml_L_17 : Cond.methodLink RL 17 yX8_status ∈ wsA := tb6 (List.mem_of_getElem? (i := 192) rfl) rfl
theorem ml_L_18 : Cond.methodLink RL 18 yX7_feed ∈ wsA := tb2 (List.mem_of_getElem? (i := 11) rfl) rfl
theorem ml_L_22 : Cond.methodLink RL 22 yX8_feed ∈ wsA := tb9 (List.mem_of_getElem? (i := 8) rfl) rfl
theorem ml_L_23 : Cond.methodLink RL 23 yX7_load ∈ wsA := tb2 (List.mem_of_getElem? (i := 23) rfl) rfl
theorem ml_L_27 : Cond.methodLink RL 27 yX8_load ∈ wsA := tb9 (List.mem_of_getElem? (i := 16) rfl) rfl
theorem ml_L_28 : Cond.methodLink RL 28 yX7_fault ∈ wsA := tb3 (List.mem_of_getElem? (i := 2) rfl) rfl
theorem ml_L_31 : Cond.methodLink RL 31 yX8_fault ∈ wsA := tb9 (List.mem_of_getElem? (i := 90) rfl) rfl
theorem ml_L_32 : Cond.methodLink RL 32 yX7_many ∈ wsA := tb3 (List.mem_of_getElem? (i := 6) rfl) rfl
theorem ml_L_35 : Cond.methodLink RL 35 yX8_many ∈ wsA := tb6 (List.mem_of_getElem? (i := 196) rfl) rfl
theorem ml_L_36 : Cond.methodLink RL 36 yX7_step ∈ wsA := tb3 (List.mem_of_getElem? (i := 14) rfl) rfl
theorem ml_L_40 : Cond.methodLink RL 40 yX8_step ∈ wsA := tb6 (List.mem_of_getElem? (i := 219) rfl) rfl
theorem ml_L_41 : Cond.methodLink RL 41 yX7_stand ∈ wsA := tb3 (List.mem_of_getElem? (i := 36) rfl) rfl
theorem ml_L_45 : Cond.methodLink RL 45 yX8_stand ∈ wsA := tb7 (List.mem_of_getElem? (i := 4) rfl) rfl
theorem ml_L_48 : Cond.methodLink RL 48 yX7_takes ∈ wsA := tb3 (List.mem_of_getElem? (i := 40) rfl) rfl
theorem ml_L_52 : Cond.methodLink RL 52 yX8_takes ∈ wsA := tb7 (List.mem_of_getElem? (i := 8) rfl) rfl
theorem ml_L_53 : Cond.methodLink RL 53 yX7_product ∈ wsA := tb3 (List.mem_of_getElem? (i := 56) rfl) rfl
theorem ml_L_57 : Cond.methodLink RL 57 yX8_product ∈ wsA := tb7 (List.mem_of_getElem? (i := 23) rfl) rfl
theorem ml_L_58 : Cond.methodLink RL 58 yX7_inverse ∈ wsA := tb3 (List.mem_of_getElem? (i := 61) rfl) rfl
theorem ml_L_62 : Cond.methodLink RL 62 yX8_inverse ∈ wsA := tb7 (List.mem_of_getElem? (i := 30) rfl) rfl
theorem ml_L_63 : Cond.methodLink RL 63 yX7_power ∈ wsA := tb3 (List.mem_of_getElem? (i := 66) rfl) rfl
theorem ml_L_67 : Cond.methodLink RL 67 yX8_power ∈ wsA := tb7 (List.mem_of_getElem? (i := 34) rfl) rfl
theorem ml_L_68 : Cond.methodLink RL 68 yX7_about ∈ wsA := tb3 (List.mem_of_getElem? (i := 79) rfl) rfl
theorem ml_L_71 : Cond.methodLink RL 71 yX8_about ∈ wsA := tb7 (List.mem_of_getElem? (i := 44) rfl) rfl
theorem ml_L_72 : Cond.methodLink RL 72 yX7_orbit ∈ wsA := tb3 (List.mem_of_getElem? (i := 106) rfl) rfl
theorem ml_L_75 : Cond.methodLink RL 75 yX8_orbit ∈ wsA := tb7 (List.mem_of_getElem? (i := 71) rfl) rfl
theorem ml_L_76 : Cond.methodLink RL 76 yX7_orbits ∈ wsA := tb3 (List.mem_of_getElem? (i := 119) rfl) rfl
theorem ml_L_79 : Cond.methodLink RL 79 yX8_orbits ∈ wsA := tb7 (List.mem_of_getElem? (i := 82) rfl) rfl
theorem ml_L_80 : Cond.methodLink RL 80 yX7_base ∈ wsA := tb3 (List.mem_of_getElem? (i := 128) rfl) rfl
theorem ml_L_83 : Cond.methodLink RL 83 yX8_base ∈ wsA := tb7 (List.mem_of_getElem? (i := 90) rfl) rfl
theorem ml_L_84 : Cond.methodLink RL 84 yX7_level ∈ wsA := tb3 (List.mem_of_getElem? (i := 146) rfl) rfl
theorem ml_L_87 : Cond.methodLink RL 87 yX8_level ∈ wsA := tb7 (List.mem_of_getElem? (i := 146) rfl) rfl
theorem ml_L_88 : Cond.methodLink RL 88 yX7_order ∈ wsA := tb3 (List.mem_of_getElem? (i := 154) rfl) rfl
theorem ml_L_91 : Cond.methodLink RL 91 yX8_order ∈ wsA := tb7 (List.mem_of_getElem? (i := 150) rfl) rfl
theorem ml_L_92 : Cond.methodLink RL 92 yX7_member ∈ wsA := tb3 (List.mem_of_getElem? (i := 170) rfl) rfl
theorem ml_L_96 : Cond.methodLink RL 96 yX8_member ∈ wsA := tb7 (List.mem_of_getElem? (i := 166) rfl) rfl
theorem ml_L_97 : Cond.methodLink RL 97 yX7_followed ∈ wsA := tb3 (List.mem_of_getElem? (i := 178) rfl) rfl
theorem ml_L_100 : Cond.methodLink RL 100 yX8_followed ∈ wsA := tb7 (List.mem_of_getElem? (i := 174) rfl) rfl
theorem ml_L_101 : Cond.methodLink RL 101 yX7_nth ∈ wsA := tb3 (List.mem_of_getElem? (i := 186) rfl) rfl
theorem ml_L_104 : Cond.methodLink RL 104 yX8_nth ∈ wsA := tb7 (List.mem_of_getElem? (i := 182) rfl) rfl
theorem ml_L_105 : Cond.methodLink RL 105 yX7_rank ∈ wsA := tb3 (List.mem_of_getElem? (i := 198) rfl) rfl
theorem ml_L_108 : Cond.methodLink RL 108 yX8_rank ∈ wsA := tb7 (List.mem_of_getElem? (i := 190) rfl) rfl
theorem ml_L_109 : Cond.methodLink RL 109 yX7_way ∈ wsA := tb3 (List.mem_of_getElem? (i := 210) rfl) rfl
theorem ml_L_112 : Cond.methodLink RL 112 yX8_way ∈ wsA := tb7 (List.mem_of_getElem? (i := 202) rfl) rfl
theorem ml_L_113 : Cond.methodLink RL 113 yX7_deep ∈ wsA := tb4 (List.mem_of_getElem? (i := 97) rfl) rfl
theorem ml_L_116 : Cond.methodLink RL 116 yX8_deep ∈ wsA := tb7 (List.mem_of_getElem? (i := 230) rfl) rfl
theorem ml_L_117 : Cond.methodLink RL 117 yX7_deepest ∈ wsA := tb4 (List.mem_of_getElem? (i := 105) rfl) rfl
theorem ml_L_120 : Cond.methodLink RL 120 yX8_deepest ∈ wsA := tb7 (List.mem_of_getElem? (i := 234) rfl) rfl
theorem ml_L_121 : Cond.methodLink RL 121 yX7_mean ∈ wsA := tb4 (List.mem_of_getElem? (i := 113) rfl) rfl
theorem ml_L_124 : Cond.methodLink RL 124 yX8_mean ∈ wsA := tb8 (List.mem_of_getElem? (i := 2) rfl) rfl
theorem ml_L_125 : Cond.methodLink RL 125 yX7_nearer ∈ wsA := tb4 (List.mem_of_getElem? (i := 122) rfl) rfl
theorem ml_L_128 : Cond.methodLink RL 128 yX8_nearer ∈ wsA := tb8 (List.mem_of_getElem? (i := 6) rfl) rfl
theorem ml_L_129 : Cond.methodLink RL 129 yX7_solve ∈ wsA := tb4 (List.mem_of_getElem? (i := 130) rfl) rfl
theorem ml_L_132 : Cond.methodLink RL 132 yX8_solve ∈ wsA := tb8 (List.mem_of_getElem? (i := 10) rfl) rfl
theorem ml_L_133 : Cond.methodLink RL 133 yX7_centre ∈ wsA := tb4 (List.mem_of_getElem? (i := 134) rfl) rfl
theorem ml_L_136 : Cond.methodLink RL 136 yX8_centre ∈ wsA := tb8 (List.mem_of_getElem? (i := 14) rfl) rfl
theorem ml_L_137 : Cond.methodLink RL 137 yX7_classes ∈ wsA := tb4 (List.mem_of_getElem? (i := 153) rfl) rfl
theorem ml_L_140 : Cond.methodLink RL 140 yX8_classes ∈ wsA := tb8 (List.mem_of_getElem? (i := 25) rfl) rfl
theorem ml_L_141 : Cond.methodLink RL 141 yX7_alike ∈ wsA := tb4 (List.mem_of_getElem? (i := 172) rfl) rfl
theorem ml_L_144 : Cond.methodLink RL 144 yX8_alike ∈ wsA := tb8 (List.mem_of_getElem? (i := 41) rfl) rfl
theorem ml_L_145 : Cond.methodLink RL 145 yX7_derived ∈ wsA := tb4 (List.mem_of_getElem? (i := 180) rfl) rfl
theorem ml_L_148 : Cond.methodLink RL 148 yX8_derived ∈ wsA := tb8 (List.mem_of_getElem? (i := 65) rfl) rfl
theorem ml_L_149 : Cond.methodLink RL 149 yX7_has ∈ wsA := tb4 (List.mem_of_getElem? (i := 222) rfl) rfl
theorem ml_L_152 : Cond.methodLink RL 152 yX8_has ∈ wsA := tb8 (List.mem_of_getElem? (i := 88) rfl) rfl
theorem ml_L_153 : Cond.methodLink RL 153 yX7_commutator ∈ wsA := tb5 (List.mem_of_getElem? (i := 17) rfl) rfl
theorem ml_L_156 : Cond.methodLink RL 156 yX8_commutator ∈ wsA := tb8 (List.mem_of_getElem? (i := 53) rfl) rfl
theorem ml_L_157 : Cond.methodLink RL 157 yX7_turned ∈ wsA := tb5 (List.mem_of_getElem? (i := 22) rfl) rfl
theorem ml_L_160 : Cond.methodLink RL 160 yX8_turned ∈ wsA := tb8 (List.mem_of_getElem? (i := 61) rfl) rfl
theorem ml_L_161 : Cond.methodLink RL 161 yX7_same ∈ wsA := tb5 (List.mem_of_getElem? (i := 27) rfl) rfl
theorem ml_L_165 : Cond.methodLink RL 165 yX8_same ∈ wsA := tb8 (List.mem_of_getElem? (i := 49) rfl) rfl
theorem ml_L_166 : Cond.methodLink RL 166 yX7_central ∈ wsA := tb5 (List.mem_of_getElem? (i := 31) rfl) rfl
theorem ml_L_169 : Cond.methodLink RL 169 yX8_central ∈ wsA := tb8 (List.mem_of_getElem? (i := 84) rfl) rfl
theorem ml_L_170 : Cond.methodLink RL 170 yX7_by ∈ wsA := tb5 (List.mem_of_getElem? (i := 35) rfl) rfl
theorem ml_L_173 : Cond.methodLink RL 173 yX8_by ∈ wsA := tb8 (List.mem_of_getElem? (i := 116) rfl) rfl
theorem ml_L_174 : Cond.methodLink RL 174 yX7_meet ∈ wsA := tb5 (List.mem_of_getElem? (i := 47) rfl) rfl
theorem ml_L_178 : Cond.methodLink RL 178 yX8_meet ∈ wsA := tb8 (List.mem_of_getElem? (i := 124) rfl) rfl
theorem ml_L_179 : Cond.methodLink RL 179 yX7_normal ∈ wsA := tb5 (List.mem_of_getElem? (i := 61) rfl) rfl
theorem ml_L_182 : Cond.methodLink RL 182 yX8_normal ∈ wsA := tb8 (List.mem_of_getElem? (i := 128) rfl) rfl
theorem ml_L_183 : Cond.methodLink RL 183 yX7_spare ∈ wsA := tb5 (List.mem_of_getElem? (i := 72) rfl) rfl
theorem ml_L_186 : Cond.methodLink RL 186 yX8_spare ∈ wsA := tb8 (List.mem_of_getElem? (i := 132) rfl) rfl
theorem ml_L_187 : Cond.methodLink RL 187 yX7_fewest ∈ wsA := tb5 (List.mem_of_getElem? (i := 82) rfl) rfl
theorem ml_L_190 : Cond.methodLink RL 190 yX8_fewest ∈ wsA := tb8 (List.mem_of_getElem? (i := 140) rfl) rfl
theorem ml_L_191 : Cond.methodLink RL 191 yX7_holds ∈ wsA := tb5 (List.mem_of_getElem? (i := 91) rfl) rfl
theorem ml_L_194 : Cond.methodLink RL 194 yX8_holds ∈ wsA := tb8 (List.mem_of_getElem? (i := 147) rfl) rfl
theorem ml_L_195 : Cond.methodLink RL 195 yX7_keeps ∈ wsA := tb5 (List.mem_of_getElem? (i := 107) rfl) rfl
theorem ml_L_198 : Cond.methodLink RL 198 yX8_keeps ∈ wsA := tb8 (List.mem_of_getElem? (i := 155) rfl) rfl
theorem ml_L_199 : Cond.methodLink RL 199 yX7_brings ∈ wsA := tb5 (List.mem_of_getElem? (i := 120) rfl) rfl
theorem ml_L_202 : Cond.methodLink RL 202 yX8_brings ∈ wsA := tb8 (List.mem_of_getElem? (i := 162) rfl) rfl
theorem ml_L_203 : Cond.methodLink RL 203 yX7_block ∈ wsA := tb5 (List.mem_of_getElem? (i := 128) rfl) rfl
theorem ml_L_206 : Cond.methodLink RL 206 yX8_block ∈ wsA := tb8 (List.mem_of_getElem? (i := 166) rfl) rfl
theorem ml_L_207 : Cond.methodLink RL 207 yX7_anywhere ∈ wsA := tb5 (List.mem_of_getElem? (i := 133) rfl) rfl
theorem ml_L_210 : Cond.methodLink RL 210 yX8_anywhere ∈ wsA := tb8 (List.mem_of_getElem? (i := 170) rfl) rfl
theorem ml_L_211 : Cond.methodLink RL 211 yX7_fixing ∈ wsA := tb5 (List.mem_of_getElem? (i := 141) rfl) rfl
theorem ml_L_214 : Cond.methodLink RL 214 yX8_fixing ∈ wsA := tb8 (List.mem_of_getElem? (i := 174) rfl) rfl
theorem ml_L_215 : Cond.methodLink RL 215 yX7_colours ∈ wsA := tb5 (List.mem_of_getElem? (i := 159) rfl) rfl
theorem ml_L_218 : Cond.methodLink RL 218 yX8_colours ∈ wsA := tb8 (List.mem_of_getElem? (i := 178) rfl) rfl
theorem ml_L_219 : Cond.methodLink RL 219 yX7_typed ∈ wsA := tb5 (List.mem_of_getElem? (i := 168) rfl) rfl
theorem ml_L_222 : Cond.methodLink RL 222 yX8_typed ∈ wsA := tb8 (List.mem_of_getElem? (i := 183) rfl) rfl
theorem ml_L_223 : Cond.methodLink RL 223 yX7_root ∈ wsA := tb5 (List.mem_of_getElem? (i := 176) rfl) rfl
theorem ml_L_226 : Cond.methodLink RL 226 yX8_root ∈ wsA := tb8 (List.mem_of_getElem? (i := 192) rfl) rfl
theorem ml_L_227 : Cond.methodLink RL 227 yX7_slightest ∈ wsA := tb5 (List.mem_of_getElem? (i := 185) rfl) rfl
theorem ml_L_230 : Cond.methodLink RL 230 yX8_slightest ∈ wsA := tb8 (List.mem_of_getElem? (i := 196) rfl) rfl
theorem ml_L_231 : Cond.methodLink RL 231 yX7_ofOrder ∈ wsA := tb5 (List.mem_of_getElem? (i := 193) rfl) rfl
theorem ml_L_234 : Cond.methodLink RL 234 yX8_ofOrder ∈ wsA := tb8 (List.mem_of_getElem? (i := 200) rfl) rfl
theorem ml_L_235 : Cond.methodLink RL 235 yX7_turn ∈ wsA := tb5 (List.mem_of_getElem? (i := 202) rfl) rfl
theorem ml_L_238 : Cond.methodLink RL 238 yX8_turn ∈ wsA := tb8 (List.mem_of_getElem? (i := 204) rfl) rfl
theorem ml_L_239 : Cond.methodLink RL 239 yX7_place ∈ wsA := tb5 (List.mem_of_getElem? (i := 226) rfl) rfl
theorem ml_L_242 : Cond.methodLink RL 242 yX8_place ∈ wsA := tb8 (List.mem_of_getElem? (i := 212) rfl) rfl
theorem ml_L_243 : Cond.methodLink RL 243 yX7_home ∈ wsA := tb5 (List.mem_of_getElem? (i := 230) rfl) rfl
theorem ml_L_246 : Cond.methodLink RL 246 yX8_home ∈ wsA := tb8 (List.mem_of_getElem? (i := 216) rfl) rfl
theorem ml_L_247 : Cond.methodLink RL 247 yX7_add ∈ wsA := tb5 (List.mem_of_getElem? (i := 234) rfl) rfl
theorem ml_L_250 : Cond.methodLink RL 250 yX8_add ∈ wsA := tb8 (List.mem_of_getElem? (i := 220) rfl) rfl
theorem ml_L_251 : Cond.methodLink RL 251 yX7_drop ∈ wsA := tb6 (List.mem_of_getElem? (i := 2) rfl) rfl
theorem ml_L_254 : Cond.methodLink RL 254 yX8_drop ∈ wsA := tb8 (List.mem_of_getElem? (i := 224) rfl) rfl
theorem ml_L_255 : Cond.methodLink RL 255 yX7_undo ∈ wsA := tb6 (List.mem_of_getElem? (i := 10) rfl) rfl
theorem ml_L_258 : Cond.methodLink RL 258 yX8_undo ∈ wsA := tb8 (List.mem_of_getElem? (i := 232) rfl) rfl
theorem ml_L_259 : Cond.methodLink RL 259 yX7_print ∈ wsA := tb6 (List.mem_of_getElem? (i := 22) rfl) rfl
theorem ml_L_262 : Cond.methodLink RL 262 yX8_print ∈ wsA := tb8 (List.mem_of_getElem? (i := 236) rfl) rfl
theorem ml_L_263 : Cond.methodLink RL 263 yX7_out ∈ wsA := tb6 (List.mem_of_getElem? (i := 38) rfl) rfl
theorem ml_L_266 : Cond.methodLink RL 266 yX8_out ∈ wsA := tb9 (List.mem_of_getElem? (i := 4) rfl) rfl
theorem ml_X8_1 : Cond.methodLink RX8 1 ⟨"java/lang/Object", "<init>", "()V"⟩ ∈ wsA := tb6 (List.mem_of_getElem? (i := 47) rfl) rfl
theorem ml_X8_96 : Cond.methodLink RX8 96 yX8_isHome ∈ wsA := tb6 (List.mem_of_getElem? (i := 49) rfl) rfl
theorem ml_X8_100 : Cond.methodLink RX8 100 yX8_copies ∈ wsA := tb6 (List.mem_of_getElem? (i := 52) rfl) rfl
theorem ml_X8_110 : Cond.methodLink RX8 110 yX8_moves ∈ wsA := tb6 (List.mem_of_getElem? (i := 212) rfl) rfl
theorem ml_X8_114 : Cond.methodLink RX8 114 yX8_isIn ∈ wsA := tb6 (List.mem_of_getElem? (i := 201) rfl) rfl
theorem ml_X8_126 : Cond.methodLink RX8 126 yX8_laysMove ∈ wsA := tb6 (List.mem_of_getElem? (i := 232) rfl) rfl
theorem ml_X8_130 : Cond.methodLink RX8 130 yX8_inverts ∈ wsA := tb6 (List.mem_of_getElem? (i := 236) rfl) rfl
theorem ml_X8_134 : Cond.methodLink RX8 134 yX8_laysCell ∈ wsA := tb7 (List.mem_of_getElem? (i := 126) rfl) rfl
theorem ml_X8_138 : Cond.methodLink RX8 138 yX8_makes ∈ wsA := tb7 (List.mem_of_getElem? (i := 27) rfl) rfl
theorem ml_X8_142 : Cond.methodLink RX8 142 yX8_sifts ∈ wsA := tb7 (List.mem_of_getElem? (i := 122) rfl) rfl
theorem ml_X8_146 : Cond.methodLink RX8 146 yX8_comesTo ∈ wsA := tb7 (List.mem_of_getElem? (i := 118) rfl) rfl
theorem ml_X8_150 : Cond.methodLink RX8 150 yX8_closes ∈ wsA := tb7 (List.mem_of_getElem? (i := 130) rfl) rfl
theorem ml_X8_154 : Cond.methodLink RX8 154 yX8_clears ∈ wsA := tb7 (List.mem_of_getElem? (i := 110) rfl) rfl
theorem ml_X8_157 : Cond.methodLink RX8 157 yX8_bit ∈ wsA := tb7 (List.mem_of_getElem? (i := 79) rfl) rfl
theorem ml_X8_161 : Cond.methodLink RX8 161 yX8_adds ∈ wsA := tb7 (List.mem_of_getElem? (i := 114) rfl) rfl
theorem ml_X8_164 : Cond.methodLink RX8 164 yX8_widthAt ∈ wsA := tb7 (List.mem_of_getElem? (i := 134) rfl) rfl
theorem ml_X8_168 : Cond.methodLink RX8 168 yX8_orderFrom ∈ wsA := tb7 (List.mem_of_getElem? (i := 162) rfl) rfl
theorem ml_X8_175 : Cond.methodLink RX8 175 yX8_builds ∈ wsA := tb7 (List.mem_of_getElem? (i := 106) rfl) rfl
theorem ml_X8_179 : Cond.methodLink RX8 179 yX8_builds_ ∈ wsA := tb7 (List.mem_of_getElem? (i := 102) rfl) rfl
theorem ml_X8_181 : Cond.methodLink RX8 181 yX8_orderOf ∈ wsA := tb7 (List.mem_of_getElem? (i := 158) rfl) rfl
theorem ml_X8_185 : Cond.methodLink RX8 185 yX8_orderNow ∈ wsA := tb7 (List.mem_of_getElem? (i := 154) rfl) rfl
theorem ml_X8_188 : Cond.methodLink RX8 188 yX8_isSmall ∈ wsA := tb7 (List.mem_of_getElem? (i := 210) rfl) rfl
theorem ml_X8_194 : Cond.methodLink RX8 194 yX8_is ∈ wsA := tb6 (List.mem_of_getElem? (i := 204) rfl) rfl
theorem ml_X8_198 : Cond.methodLink RX8 198 yX8_laysStand ∈ wsA := tb6 (List.mem_of_getElem? (i := 208) rfl) rfl
theorem ml_X8_201 : Cond.methodLink RX8 201 yX8_stays ∈ wsA := tb6 (List.mem_of_getElem? (i := 216) rfl) rfl
theorem ml_X8_205 : Cond.methodLink RX8 205 yX8_isStep ∈ wsA := tb6 (List.mem_of_getElem? (i := 223) rfl) rfl
theorem ml_X8_210 : Cond.methodLink RX8 210 yX8_laysStep ∈ wsA := tb6 (List.mem_of_getElem? (i := 228) rfl) rfl
theorem ml_X8_213 : Cond.methodLink RX8 213 yX8_told ∈ wsA := tb6 (List.mem_of_getElem? (i := 239) rfl) rfl
theorem ml_X8_217 : Cond.methodLink RX8 217 yX8_lies ∈ wsA := tb7 (List.mem_of_getElem? (i := 12) rfl) rfl
theorem ml_X8_221 : Cond.methodLink RX8 221 yX8_isPoint ∈ wsA := tb7 (List.mem_of_getElem? (i := 16) rfl) rfl
theorem ml_X8_224 : Cond.methodLink RX8 224 yX8_why ∈ wsA := tb7 (List.mem_of_getElem? (i := 20) rfl) rfl
theorem ml_X8_232 : Cond.methodLink RX8 232 yX8_powers ∈ wsA := tb7 (List.mem_of_getElem? (i := 40) rfl) rfl
theorem ml_X8_236 : Cond.methodLink RX8 236 yX8_cycleFrom ∈ wsA := tb7 (List.mem_of_getElem? (i := 53) rfl) rfl
theorem ml_X8_240 : Cond.methodLink RX8 240 yX8_common ∈ wsA := tb7 (List.mem_of_getElem? (i := 56) rfl) rfl
theorem ml_X8_243 : Cond.methodLink RX8 243 yX8_cycles ∈ wsA := tb7 (List.mem_of_getElem? (i := 59) rfl) rfl
theorem ml_X8_249 : Cond.methodLink RX8 249 yX8_orderOf_ ∈ wsA := tb7 (List.mem_of_getElem? (i := 49) rfl) rfl
theorem ml_X8_251 : Cond.methodLink RX8 251 yX8_staying ∈ wsA := tb7 (List.mem_of_getElem? (i := 63) rfl) rfl
theorem ml_X8_254 : Cond.methodLink RX8 254 yX8_isEven ∈ wsA := tb7 (List.mem_of_getElem? (i := 67) rfl) rfl
theorem ml_X8_257 : Cond.methodLink RX8 257 yX8_orbitOf ∈ wsA := tb7 (List.mem_of_getElem? (i := 75) rfl) rfl
theorem ml_X8_260 : Cond.methodLink RX8 260 yX8_whyHere ∈ wsA := tb7 (List.mem_of_getElem? (i := 86) rfl) rfl
theorem ml_X8_263 : Cond.methodLink RX8 263 yX8_baseAt ∈ wsA := tb7 (List.mem_of_getElem? (i := 98) rfl) rfl
theorem ml_X8_266 : Cond.methodLink RX8 266 yX8_refuse ∈ wsA := tb7 (List.mem_of_getElem? (i := 142) rfl) rfl
theorem ml_X8_269 : Cond.methodLink RX8 269 yX8_baseMany ∈ wsA := tb7 (List.mem_of_getElem? (i := 94) rfl) rfl
theorem ml_X8_272 : Cond.methodLink RX8 272 yX8_there ∈ wsA := tb7 (List.mem_of_getElem? (i := 138) rfl) rfl
theorem ml_X8_275 : Cond.methodLink RX8 275 yX8_isMember ∈ wsA := tb7 (List.mem_of_getElem? (i := 170) rfl) rfl
theorem ml_X8_278 : Cond.methodLink RX8 278 yX8_followedOf ∈ wsA := tb7 (List.mem_of_getElem? (i := 178) rfl) rfl
theorem ml_X8_281 : Cond.methodLink RX8 281 yX8_laysNth ∈ wsA := tb7 (List.mem_of_getElem? (i := 186) rfl) rfl
theorem ml_X8_284 : Cond.methodLink RX8 284 yX8_placeOf ∈ wsA := tb7 (List.mem_of_getElem? (i := 198) rfl) rfl
theorem ml_X8_287 : Cond.methodLink RX8 287 yX8_placed ∈ wsA := tb7 (List.mem_of_getElem? (i := 194) rfl) rfl
theorem ml_X8_293 : Cond.methodLink RX8 293 yX8_laysAll ∈ wsA := tb7 (List.mem_of_getElem? (i := 218) rfl) rfl
theorem ml_X8_296 : Cond.methodLink RX8 296 yX8_laysOne ∈ wsA := tb7 (List.mem_of_getElem? (i := 222) rfl) rfl
theorem ml_X8_299 : Cond.methodLink RX8 299 yX8_whySmall ∈ wsA := tb7 (List.mem_of_getElem? (i := 206) rfl) rfl
theorem ml_X8_302 : Cond.methodLink RX8 302 yX8_laysDepths ∈ wsA := tb7 (List.mem_of_getElem? (i := 214) rfl) rfl
theorem ml_X8_305 : Cond.methodLink RX8 305 yX8_wayTo ∈ wsA := tb7 (List.mem_of_getElem? (i := 226) rfl) rfl
theorem ml_X8_308 : Cond.methodLink RX8 308 yX8_deepMost ∈ wsA := tb7 (List.mem_of_getElem? (i := 238) rfl) rfl
theorem ml_X8_311 : Cond.methodLink RX8 311 yX8_areSame ∈ wsA := tb8 (List.mem_of_getElem? (i := 22) rfl) rfl
theorem ml_X8_315 : Cond.methodLink RX8 315 yX8_goesWithMoves ∈ wsA := tb8 (List.mem_of_getElem? (i := 18) rfl) rfl
theorem ml_X8_318 : Cond.methodLink RX8 318 yX8_turns ∈ wsA := tb8 (List.mem_of_getElem? (i := 37) rfl) rfl
theorem ml_X8_321 : Cond.methodLink RX8 321 yX8_laysClass ∈ wsA := tb8 (List.mem_of_getElem? (i := 33) rfl) rfl
theorem ml_X8_324 : Cond.methodLink RX8 324 yX8_laysClasses ∈ wsA := tb8 (List.mem_of_getElem? (i := 29) rfl) rfl
theorem ml_X8_327 : Cond.methodLink RX8 327 yX8_inClass ∈ wsA := tb8 (List.mem_of_getElem? (i := 45) rfl) rfl
theorem ml_X8_330 : Cond.methodLink RX8 330 yX8_commutes ∈ wsA := tb8 (List.mem_of_getElem? (i := 57) rfl) rfl
theorem ml_X8_333 : Cond.methodLink RX8 333 yX8_isOwn ∈ wsA := tb8 (List.mem_of_getElem? (i := 81) rfl) rfl
theorem ml_X8_336 : Cond.methodLink RX8 336 yX8_copiesSlot ∈ wsA := tb8 (List.mem_of_getElem? (i := 73) rfl) rfl
theorem ml_X8_339 : Cond.methodLink RX8 339 yX8_laysCommutators ∈ wsA := tb8 (List.mem_of_getElem? (i := 77) rfl) rfl
theorem ml_X8_343 : Cond.methodLink RX8 343 yX8_chainAt ∈ wsA := tb8 (List.mem_of_getElem? (i := 69) rfl) rfl
theorem ml_X8_347 : Cond.methodLink RX8 347 yX8_blockOf ∈ wsA := tb8 (List.mem_of_getElem? (i := 108) rfl) rfl
theorem ml_X8_350 : Cond.methodLink RX8 350 yX8_allGo ∈ wsA := tb8 (List.mem_of_getElem? (i := 92) rfl) rfl
theorem ml_X8_353 : Cond.methodLink RX8 353 yX8_endsHome ∈ wsA := tb8 (List.mem_of_getElem? (i := 96) rfl) rfl
theorem ml_X8_356 : Cond.methodLink RX8 356 yX8_allEven ∈ wsA := tb8 (List.mem_of_getElem? (i := 100) rfl) rfl
theorem ml_X8_359 : Cond.methodLink RX8 359 yX8_isPrimitive ∈ wsA := tb8 (List.mem_of_getElem? (i := 104) rfl) rfl
theorem ml_X8_362 : Cond.methodLink RX8 362 yX8_areMoves ∈ wsA := tb8 (List.mem_of_getElem? (i := 120) rfl) rfl
theorem ml_X8_365 : Cond.methodLink RX8 365 yX8_isWhole ∈ wsA := tb8 (List.mem_of_getElem? (i := 136) rfl) rfl
theorem ml_X8_368 : Cond.methodLink RX8 368 yX8_bits ∈ wsA := tb8 (List.mem_of_getElem? (i := 144) rfl) rfl
theorem ml_X8_371 : Cond.methodLink RX8 371 yX8_isSet ∈ wsA := tb8 (List.mem_of_getElem? (i := 151) rfl) rfl
theorem ml_X8_374 : Cond.methodLink RX8 374 yX8_imageOf ∈ wsA := tb8 (List.mem_of_getElem? (i := 159) rfl) rfl
theorem ml_X8_377 : Cond.methodLink RX8 377 yX8_joins ∈ wsA := tb8 (List.mem_of_getElem? (i := 112) rfl) rfl
theorem ml_X8_384 : Cond.methodLink RX8 384 yX8_typeOf ∈ wsA := tb8 (List.mem_of_getElem? (i := 187) rfl) rfl
theorem ml_X8_387 : Cond.methodLink RX8 387 yX8_remembers ∈ wsA := tb8 (List.mem_of_getElem? (i := 208) rfl) rfl
theorem ml_X8_390 : Cond.methodLink RX8 390 yX8_isMove ∈ wsA := tb8 (List.mem_of_getElem? (i := 228) rfl) rfl
theorem ml_X8_396 : Cond.methodLink RX8 396 yX8_writes ∈ wsA := tb9 (List.mem_of_getElem? (i := 0) rfl) rfl
theorem ml_X8_402 : Cond.methodLink RX8 402 yX8_feeds ∈ wsA := tb9 (List.mem_of_getElem? (i := 12) rfl) rfl
theorem ml_X8_408 : Cond.methodLink RX8 408 yX8_good ∈ wsA := tb9 (List.mem_of_getElem? (i := 30) rfl) rfl
theorem ml_X8_417 : Cond.methodLink RX8 417 yX8_isOf ∈ wsA := tb9 (List.mem_of_getElem? (i := 24) rfl) rfl
theorem ml_X8_441 : Cond.methodLink RX8 441 yX8_reads ∈ wsA := tb9 (List.mem_of_getElem? (i := 20) rfl) rfl
theorem ml_X8_453 : Cond.methodLink RX8 453 yX8_must ∈ wsA := tb9 (List.mem_of_getElem? (i := 47) rfl) rfl
theorem ml_X8_457 : Cond.methodLink RX8 457 yX8_goesOn ∈ wsA := tb9 (List.mem_of_getElem? (i := 51) rfl) rfl
theorem ml_X8_460 : Cond.methodLink RX8 460 yX8_isName ∈ wsA := tb9 (List.mem_of_getElem? (i := 66) rfl) rfl
theorem ml_X8_463 : Cond.methodLink RX8 463 yX8_nameNow ∈ wsA := tb9 (List.mem_of_getElem? (i := 70) rfl) rfl
theorem ml_X8_471 : Cond.methodLink RX8 471 yX8_isSign ∈ wsA := tb9 (List.mem_of_getElem? (i := 78) rfl) rfl
theorem ml_X8_474 : Cond.methodLink RX8 474 yX8_takesNew ∈ wsA := tb9 (List.mem_of_getElem? (i := 62) rfl) rfl
theorem ml_X8_477 : Cond.methodLink RX8 477 yX8_readsCycle ∈ wsA := tb9 (List.mem_of_getElem? (i := 74) rfl) rfl
theorem ml_X8_480 : Cond.methodLink RX8 480 yX8_readsItem ∈ wsA := tb9 (List.mem_of_getElem? (i := 86) rfl) rfl
theorem ml_X8_483 : Cond.methodLink RX8 483 yX8_isWord ∈ wsA := tb9 (List.mem_of_getElem? (i := 39) rfl) rfl
theorem ml_X8_487 : Cond.methodLink RX8 487 yX8_readsPoints ∈ wsA := tb9 (List.mem_of_getElem? (i := 43) rfl) rfl
theorem ml_X8_490 : Cond.methodLink RX8 490 yX8_readsMove ∈ wsA := tb9 (List.mem_of_getElem? (i := 58) rfl) rfl
theorem ml_X8_493 : Cond.methodLink RX8 493 yX8_readsWord ∈ wsA := tb9 (List.mem_of_getElem? (i := 82) rfl) rfl
theorem ml_X8_496 : Cond.methodLink RX8 496 yX8_line ∈ wsA := tb9 (List.mem_of_getElem? (i := 34) rfl) rfl
theorem ml_J0_335 : Cond.methodLink RJ0 335 yJ0_coder_7d493 ∈ wsA := tb2 (List.mem_of_getElem? (i := 76) rfl) rfl
theorem ml_J0_492 : Cond.methodLink RJ0 492 yJ0_isLatin1_aae02 ∈ wsA := tb2 (List.mem_of_getElem? (i := 86) rfl) rfl
theorem ml_J0_495 : Cond.methodLink RJ0 495 yJ1_charAt_3b067 ∈ wsA := tb2 (List.mem_of_getElem? (i := 90) rfl) rfl
theorem ml_J0_498 : Cond.methodLink RJ0 498 yJ2_charAt_3b067 ∈ wsA := tb2 (List.mem_of_getElem? (i := 101) rfl) rfl
theorem ml_J0_1059 : Cond.methodLink RJ0 1059 yJ3_checkIndex_8e157 ∈ wsA := tb2 (List.mem_of_getElem? (i := 98) rfl) rfl
theorem ml_J1_9 : Cond.methodLink RJ1 9 yJ0_checkIndex_df160 ∈ wsA := tb2 (List.mem_of_getElem? (i := 93) rfl) rfl
theorem ml_J2_48 : Cond.methodLink RJ2 48 yJ2_length_9d52b ∈ wsA := tb2 (List.mem_of_getElem? (i := 107) rfl) rfl
theorem ml_J2_67 : Cond.methodLink RJ2 67 yJ2_checkIndex_2214a ∈ wsA := tb2 (List.mem_of_getElem? (i := 104) rfl) rfl
theorem ml_J2_71 : Cond.methodLink RJ2 71 yJ2_getChar_3b067 ∈ wsA := tb2 (List.mem_of_getElem? (i := 111) rfl) rfl
theorem ml_J2_414 : Cond.methodLink RJ2 414 yJ0_checkIndex_df160 ∈ wsA := tb2 (List.mem_of_getElem? (i := 110) rfl) rfl
theorem kl_X4_108 : Cond.constantLong RX4 108 (-1) ∈ wsA := tb5 (List.mem_of_getElem? (i := 59) rfl) rfl
theorem kl_X6_11 : Cond.constantLong RX6 11 (15) ∈ wsA := tb2 (List.mem_of_getElem? (i := 156) rfl) rfl
theorem kl_X6_13 : Cond.constantLong RX6 13 (-1) ∈ wsA := tb2 (List.mem_of_getElem? (i := 157) rfl) rfl
theorem kl_X6_47 : Cond.constantLong RX6 47 (10) ∈ wsA := tb3 (List.mem_of_getElem? (i := 34) rfl) rfl
theorem kl_L_46 : Cond.constantLong RL 46 (4294967295) ∈ wsA := tb9 (List.mem_of_getElem? (i := 94) rfl) rfl
theorem kl_X8_124 : Cond.constantLong RX8 124 (10) ∈ wsA := tb7 (List.mem_of_getElem? (i := 3) rfl) rfl
theorem kl_X8_192 : Cond.constantLong RX8 192 (3) ∈ wsA := tb6 (List.mem_of_getElem? (i := 200) rfl) rfl
theorem kl_X8_208 : Cond.constantLong RX8 208 (-1) ∈ wsA := tb6 (List.mem_of_getElem? (i := 227) rfl) rfl
theorem kl_X8_228 : Cond.constantLong RX8 228 (-1000) ∈ wsA := tb7 (List.mem_of_getElem? (i := 38) rfl) rfl
theorem kl_X8_230 : Cond.constantLong RX8 230 (1000) ∈ wsA := tb7 (List.mem_of_getElem? (i := 39) rfl) rfl
theorem kl_X8_247 : Cond.constantLong RX8 247 (4) ∈ wsA := tb7 (List.mem_of_getElem? (i := 48) rfl) rfl
theorem kl_X8_380 : Cond.constantLong RX8 380 (5) ∈ wsA := tb8 (List.mem_of_getElem? (i := 182) rfl) rfl
theorem kl_X8_382 : Cond.constantLong RX8 382 (16) ∈ wsA := tb8 (List.mem_of_getElem? (i := 191) rfl) rfl
theorem kl_X8_428 : Cond.constantLong RX8 428 (27) ∈ wsA := tb9 (List.mem_of_getElem? (i := 28) rfl) rfl
theorem kl_X8_430 : Cond.constantLong RX8 430 (96) ∈ wsA := tb9 (List.mem_of_getElem? (i := 29) rfl) rfl
theorem kl_X8_444 : Cond.constantLong RX8 444 (237742039) ∈ wsA := tb9 (List.mem_of_getElem? (i := 38) rfl) rfl
theorem kl_X8_446 : Cond.constantLong RX8 446 (267413) ∈ wsA := tb9 (List.mem_of_getElem? (i := 56) rfl) rfl
theorem kl_X8_448 : Cond.constantLong RX8 448 (464134) ∈ wsA := tb9 (List.mem_of_getElem? (i := 57) rfl) rfl
theorem kl_X8_469 : Cond.constantLong RX8 469 (2) ∈ wsA := tb9 (List.mem_of_getElem? (i := 55) rfl) rfl
theorem ki_X0_60 : Cond.constant RX0 60 (100000) ∈ wsA := tb2 (List.mem_of_getElem? (i := 219) rfl) rfl
theorem ki_X8_59 : Cond.constant RX8 59 (50400) ∈ wsA := tb6 (List.mem_of_getElem? (i := 48) rfl) rfl
theorem ki_J6_265 : Cond.constant RJ6 265 (1431655765) ∈ wsA := tb3 (List.mem_of_getElem? (i := 139) rfl) rfl
theorem ki_J6_266 : Cond.constant RJ6 266 (858993459) ∈ wsA := tb3 (List.mem_of_getElem? (i := 140) rfl) rfl
theorem ki_J6_267 : Cond.constant RJ6 267 (252645135) ∈ wsA := tb3 (List.mem_of_getElem? (i := 141) rfl) rfl
theorem cf_X7_init : CalF yX7_init cX7_init 1 none 0 := ⟨tb1 (List.mem_of_getElem? (i := 21) rfl) rfl, tb1 (List.mem_of_getElem? (i := 1) rfl) rfl, by decide +kernel, by decide +kernel, by decide +kernel⟩
theorem im_X7_init : Cond.instanceMethod yX7_init ∈ wsA := tb1 (List.mem_of_getElem? (i := 20) rfl) rfl
theorem cf_X7_about : CalF yX7_about cX7_about 8 (some .int) 2 := ⟨tb3 (List.mem_of_getElem? (i := 82) rfl) rfl, tb1 (List.mem_of_getElem? (i := 1) rfl) rfl, by decide +kernel, by decide +kernel, by decide +kernel⟩
theorem iv_X7_about : Cond.instanceMethod yX7_about ∈ wsA ∧ Cond.selects yX7_about.cls yX7_about yX7_about ∈ wsA := ⟨tb3 (List.mem_of_getElem? (i := 80) rfl) rfl, tb3 (List.mem_of_getElem? (i := 81) rfl) rfl⟩
theorem cf_X7_add : CalF yX7_add cX7_add 5 (some .int) 1 := ⟨tb5 (List.mem_of_getElem? (i := 237) rfl) rfl, tb1 (List.mem_of_getElem? (i := 1) rfl) rfl, by decide +kernel, by decide +kernel, by decide +kernel⟩
theorem iv_X7_add : Cond.instanceMethod yX7_add ∈ wsA ∧ Cond.selects yX7_add.cls yX7_add yX7_add ∈ wsA := ⟨tb5 (List.mem_of_getElem? (i := 235) rfl) rfl, tb5 (List.mem_of_getElem? (i := 236) rfl) rfl⟩
theorem cf_X7_alike : CalF yX7_alike cX7_alike 8 (some .int) 1 := ⟨tb4 (List.mem_of_getElem? (i := 175) rfl) rfl, tb1 (List.mem_of_getElem? (i := 1) rfl) rfl, by decide +kernel, by decide +kernel, by decide +kernel⟩
theorem iv_X7_alike : Cond.instanceMethod yX7_alike ∈ wsA ∧ Cond.selects yX7_alike.cls yX7_alike yX7_alike ∈ wsA := ⟨tb4 (List.mem_of_getElem? (i := 173) rfl) rfl, tb4 (List.mem_of_getElem? (i := 174) rfl) rfl⟩
theorem cf_X7_anywhere : CalF yX7_anywhere cX7_anywhere 1 (some .int) 0 := ⟨tb5 (List.mem_of_getElem? (i := 136) rfl) rfl, tb1 (List.mem_of_getElem? (i := 1) rfl) rfl, by decide +kernel, by decide +kernel, by decide +kernel⟩
theorem iv_X7_anywhere : Cond.instanceMethod yX7_anywhere ∈ wsA ∧ Cond.selects yX7_anywhere.cls yX7_anywhere yX7_anywhere ∈ wsA := ⟨tb5 (List.mem_of_getElem? (i := 134) rfl) rfl, tb5 (List.mem_of_getElem? (i := 135) rfl) rfl⟩
theorem cf_X7_base : CalF yX7_base cX7_base 3 (some .int) 1 := ⟨tb3 (List.mem_of_getElem? (i := 131) rfl) rfl, tb1 (List.mem_of_getElem? (i := 1) rfl) rfl, by decide +kernel, by decide +kernel, by decide +kernel⟩
theorem iv_X7_base : Cond.instanceMethod yX7_base ∈ wsA ∧ Cond.selects yX7_base.cls yX7_base yX7_base ∈ wsA := ⟨tb3 (List.mem_of_getElem? (i := 129) rfl) rfl, tb3 (List.mem_of_getElem? (i := 130) rfl) rfl⟩
theorem cf_X7_block : CalF yX7_block cX7_block 3 (some .int) 2 := ⟨tb5 (List.mem_of_getElem? (i := 131) rfl) rfl, tb1 (List.mem_of_getElem? (i := 1) rfl) rfl, by decide +kernel, by decide +kernel, by decide +kernel⟩
theorem iv_X7_block : Cond.instanceMethod yX7_block ∈ wsA ∧ Cond.selects yX7_block.cls yX7_block yX7_block ∈ wsA := ⟨tb5 (List.mem_of_getElem? (i := 129) rfl) rfl, tb5 (List.mem_of_getElem? (i := 130) rfl) rfl⟩
theorem cf_X7_brings : CalF yX7_brings cX7_brings 5 (some .int) 2 := ⟨tb5 (List.mem_of_getElem? (i := 123) rfl) rfl, tb1 (List.mem_of_getElem? (i := 1) rfl) rfl, by decide +kernel, by decide +kernel, by decide +kernel⟩
theorem iv_X7_brings : Cond.instanceMethod yX7_brings ∈ wsA ∧ Cond.selects yX7_brings.cls yX7_brings yX7_brings ∈ wsA := ⟨tb5 (List.mem_of_getElem? (i := 121) rfl) rfl, tb5 (List.mem_of_getElem? (i := 122) rfl) rfl⟩
theorem cf_X7_by : CalF yX7_by cX7_by 2 (some .int) 1 := ⟨tb5 (List.mem_of_getElem? (i := 38) rfl) rfl, tb1 (List.mem_of_getElem? (i := 1) rfl) rfl, by decide +kernel, by decide +kernel, by decide +kernel⟩
theorem iv_X7_by : Cond.instanceMethod yX7_by ∈ wsA ∧ Cond.selects yX7_by.cls yX7_by yX7_by ∈ wsA := ⟨tb5 (List.mem_of_getElem? (i := 36) rfl) rfl, tb5 (List.mem_of_getElem? (i := 37) rfl) rfl⟩
theorem cf_X7_central : CalF yX7_central cX7_central 3 (some .int) 1 := ⟨tb5 (List.mem_of_getElem? (i := 34) rfl) rfl, tb1 (List.mem_of_getElem? (i := 1) rfl) rfl, by decide +kernel, by decide +kernel, by decide +kernel⟩
theorem iv_X7_central : Cond.instanceMethod yX7_central ∈ wsA ∧ Cond.selects yX7_central.cls yX7_central yX7_central ∈ wsA := ⟨tb5 (List.mem_of_getElem? (i := 32) rfl) rfl, tb5 (List.mem_of_getElem? (i := 33) rfl) rfl⟩
theorem cf_X7_centre : CalF yX7_centre cX7_centre 4 (some .int) 1 := ⟨tb4 (List.mem_of_getElem? (i := 137) rfl) rfl, tb1 (List.mem_of_getElem? (i := 1) rfl) rfl, by decide +kernel, by decide +kernel, by decide +kernel⟩
theorem iv_X7_centre : Cond.instanceMethod yX7_centre ∈ wsA ∧ Cond.selects yX7_centre.cls yX7_centre yX7_centre ∈ wsA := ⟨tb4 (List.mem_of_getElem? (i := 135) rfl) rfl, tb4 (List.mem_of_getElem? (i := 136) rfl) rfl⟩
theorem cf_X7_classes : CalF yX7_classes cX7_classes 2 (some .int) 0 := ⟨tb4 (List.mem_of_getElem? (i := 156) rfl) rfl, tb1 (List.mem_of_getElem? (i := 1) rfl) rfl, by decide +kernel, by decide +kernel, by decide +kernel⟩
theorem iv_X7_classes : Cond.instanceMethod yX7_classes ∈ wsA ∧ Cond.selects yX7_classes.cls yX7_classes yX7_classes ∈ wsA := ⟨tb4 (List.mem_of_getElem? (i := 154) rfl) rfl, tb4 (List.mem_of_getElem? (i := 155) rfl) rfl⟩
theorem cf_X7_colours : CalF yX7_colours cX7_colours 3 (some .long) 1 := ⟨tb5 (List.mem_of_getElem? (i := 162) rfl) rfl, tb1 (List.mem_of_getElem? (i := 1) rfl) rfl, by decide +kernel, by decide +kernel, by decide +kernel⟩
theorem iv_X7_colours : Cond.instanceMethod yX7_colours ∈ wsA ∧ Cond.selects yX7_colours.cls yX7_colours yX7_colours ∈ wsA := ⟨tb5 (List.mem_of_getElem? (i := 160) rfl) rfl, tb5 (List.mem_of_getElem? (i := 161) rfl) rfl⟩
theorem cf_X7_commutator : CalF yX7_commutator cX7_commutator 9 (some .long) 2 := ⟨tb5 (List.mem_of_getElem? (i := 20) rfl) rfl, tb1 (List.mem_of_getElem? (i := 1) rfl) rfl, by decide +kernel, by decide +kernel, by decide +kernel⟩
theorem iv_X7_commutator : Cond.instanceMethod yX7_commutator ∈ wsA ∧ Cond.selects yX7_commutator.cls yX7_commutator yX7_commutator ∈ wsA := ⟨tb5 (List.mem_of_getElem? (i := 18) rfl) rfl, tb5 (List.mem_of_getElem? (i := 19) rfl) rfl⟩
theorem cf_X7_countAway : CalF yX7_countAway cX7_countAway 1 (some .int) 0 := ⟨tb5 (List.mem_of_getElem? (i := 224) rfl) rfl, tb1 (List.mem_of_getElem? (i := 1) rfl) rfl, by decide +kernel, by decide +kernel, by decide +kernel⟩
theorem iv_X7_countAway : Cond.instanceMethod yX7_countAway ∈ wsA ∧ Cond.selects yX7_countAway.cls yX7_countAway yX7_countAway ∈ wsA := ⟨tb5 (List.mem_of_getElem? (i := 223) rfl) rfl, pv3 (List.mem_of_getElem? (i := 12) rfl) rfl⟩
theorem cf_X7_deep : CalF yX7_deep cX7_deep 4 (some .int) 1 := ⟨tb4 (List.mem_of_getElem? (i := 100) rfl) rfl, tb1 (List.mem_of_getElem? (i := 1) rfl) rfl, by decide +kernel, by decide +kernel, by decide +kernel⟩
theorem iv_X7_deep : Cond.instanceMethod yX7_deep ∈ wsA ∧ Cond.selects yX7_deep.cls yX7_deep yX7_deep ∈ wsA := ⟨tb4 (List.mem_of_getElem? (i := 98) rfl) rfl, tb4 (List.mem_of_getElem? (i := 99) rfl) rfl⟩
theorem cf_X7_deepest : CalF yX7_deepest cX7_deepest 4 (some .int) 1 := ⟨tb4 (List.mem_of_getElem? (i := 108) rfl) rfl, tb1 (List.mem_of_getElem? (i := 1) rfl) rfl, by decide +kernel, by decide +kernel, by decide +kernel⟩
theorem iv_X7_deepest : Cond.instanceMethod yX7_deepest ∈ wsA ∧ Cond.selects yX7_deepest.cls yX7_deepest yX7_deepest ∈ wsA := ⟨tb4 (List.mem_of_getElem? (i := 106) rfl) rfl, tb4 (List.mem_of_getElem? (i := 107) rfl) rfl⟩
theorem cf_X7_derived : CalF yX7_derived cX7_derived 3 (some .int) 1 := ⟨tb4 (List.mem_of_getElem? (i := 183) rfl) rfl, tb1 (List.mem_of_getElem? (i := 1) rfl) rfl, by decide +kernel, by decide +kernel, by decide +kernel⟩
theorem iv_X7_derived : Cond.instanceMethod yX7_derived ∈ wsA ∧ Cond.selects yX7_derived.cls yX7_derived yX7_derived ∈ wsA := ⟨tb4 (List.mem_of_getElem? (i := 181) rfl) rfl, tb4 (List.mem_of_getElem? (i := 182) rfl) rfl⟩
theorem cf_X7_drop : CalF yX7_drop cX7_drop 2 (some .int) 1 := ⟨tb6 (List.mem_of_getElem? (i := 5) rfl) rfl, tb1 (List.mem_of_getElem? (i := 1) rfl) rfl, by decide +kernel, by decide +kernel, by decide +kernel⟩
theorem iv_X7_drop : Cond.instanceMethod yX7_drop ∈ wsA ∧ Cond.selects yX7_drop.cls yX7_drop yX7_drop ∈ wsA := ⟨tb6 (List.mem_of_getElem? (i := 3) rfl) rfl, tb6 (List.mem_of_getElem? (i := 4) rfl) rfl⟩
theorem cf_X7_fault : CalF yX7_fault cX7_fault 2 (some .int) 1 := ⟨tb3 (List.mem_of_getElem? (i := 5) rfl) rfl, tb1 (List.mem_of_getElem? (i := 1) rfl) rfl, by decide +kernel, by decide +kernel, by decide +kernel⟩
theorem iv_X7_fault : Cond.instanceMethod yX7_fault ∈ wsA ∧ Cond.selects yX7_fault.cls yX7_fault yX7_fault ∈ wsA := ⟨tb3 (List.mem_of_getElem? (i := 3) rfl) rfl, tb3 (List.mem_of_getElem? (i := 4) rfl) rfl⟩
theorem cf_X7_feed : CalF yX7_feed cX7_feed 6 (some .int) 5 := ⟨tb2 (List.mem_of_getElem? (i := 14) rfl) rfl, tb1 (List.mem_of_getElem? (i := 1) rfl) rfl, by decide +kernel, by decide +kernel, by decide +kernel⟩
theorem iv_X7_feed : Cond.instanceMethod yX7_feed ∈ wsA ∧ Cond.selects yX7_feed.cls yX7_feed yX7_feed ∈ wsA := ⟨tb2 (List.mem_of_getElem? (i := 12) rfl) rfl, tb2 (List.mem_of_getElem? (i := 13) rfl) rfl⟩
theorem cf_X7_fewest : CalF yX7_fewest cX7_fewest 1 (some .int) 0 := ⟨tb5 (List.mem_of_getElem? (i := 85) rfl) rfl, tb1 (List.mem_of_getElem? (i := 1) rfl) rfl, by decide +kernel, by decide +kernel, by decide +kernel⟩
theorem iv_X7_fewest : Cond.instanceMethod yX7_fewest ∈ wsA ∧ Cond.selects yX7_fewest.cls yX7_fewest yX7_fewest ∈ wsA := ⟨tb5 (List.mem_of_getElem? (i := 83) rfl) rfl, tb5 (List.mem_of_getElem? (i := 84) rfl) rfl⟩
theorem cf_X7_fixing : CalF yX7_fixing cX7_fixing 3 (some .int) 1 := ⟨tb5 (List.mem_of_getElem? (i := 144) rfl) rfl, tb1 (List.mem_of_getElem? (i := 1) rfl) rfl, by decide +kernel, by decide +kernel, by decide +kernel⟩
theorem iv_X7_fixing : Cond.instanceMethod yX7_fixing ∈ wsA ∧ Cond.selects yX7_fixing.cls yX7_fixing yX7_fixing ∈ wsA := ⟨tb5 (List.mem_of_getElem? (i := 142) rfl) rfl, tb5 (List.mem_of_getElem? (i := 143) rfl) rfl⟩
theorem cf_X7_followed : CalF yX7_followed cX7_followed 5 (some .int) 1 := ⟨tb3 (List.mem_of_getElem? (i := 181) rfl) rfl, tb1 (List.mem_of_getElem? (i := 1) rfl) rfl, by decide +kernel, by decide +kernel, by decide +kernel⟩
theorem iv_X7_followed : Cond.instanceMethod yX7_followed ∈ wsA ∧ Cond.selects yX7_followed.cls yX7_followed yX7_followed ∈ wsA := ⟨tb3 (List.mem_of_getElem? (i := 179) rfl) rfl, tb3 (List.mem_of_getElem? (i := 180) rfl) rfl⟩
theorem cf_X7_has : CalF yX7_has cX7_has 3 (some .int) 1 := ⟨tb4 (List.mem_of_getElem? (i := 225) rfl) rfl, tb1 (List.mem_of_getElem? (i := 1) rfl) rfl, by decide +kernel, by decide +kernel, by decide +kernel⟩
theorem iv_X7_has : Cond.instanceMethod yX7_has ∈ wsA ∧ Cond.selects yX7_has.cls yX7_has yX7_has ∈ wsA := ⟨tb4 (List.mem_of_getElem? (i := 223) rfl) rfl, tb4 (List.mem_of_getElem? (i := 224) rfl) rfl⟩
theorem cf_X7_holds : CalF yX7_holds cX7_holds 2 (some .int) 1 := ⟨tb5 (List.mem_of_getElem? (i := 94) rfl) rfl, tb1 (List.mem_of_getElem? (i := 1) rfl) rfl, by decide +kernel, by decide +kernel, by decide +kernel⟩
theorem iv_X7_holds : Cond.instanceMethod yX7_holds ∈ wsA ∧ Cond.selects yX7_holds.cls yX7_holds yX7_holds ∈ wsA := ⟨tb5 (List.mem_of_getElem? (i := 92) rfl) rfl, tb5 (List.mem_of_getElem? (i := 93) rfl) rfl⟩
theorem cf_X7_home : CalF yX7_home cX7_home 2 (some .int) 0 := ⟨tb5 (List.mem_of_getElem? (i := 233) rfl) rfl, tb1 (List.mem_of_getElem? (i := 1) rfl) rfl, by decide +kernel, by decide +kernel, by decide +kernel⟩
theorem iv_X7_home : Cond.instanceMethod yX7_home ∈ wsA ∧ Cond.selects yX7_home.cls yX7_home yX7_home ∈ wsA := ⟨tb5 (List.mem_of_getElem? (i := 231) rfl) rfl, tb5 (List.mem_of_getElem? (i := 232) rfl) rfl⟩
theorem cf_X7_hurdle : CalF yX7_hurdle cX7_hurdle 1 (some .int) 0 := ⟨tb3 (List.mem_of_getElem? (i := 221) rfl) rfl, tb1 (List.mem_of_getElem? (i := 1) rfl) rfl, by decide +kernel, by decide +kernel, by decide +kernel⟩
theorem iv_X7_hurdle : Cond.instanceMethod yX7_hurdle ∈ wsA ∧ Cond.selects yX7_hurdle.cls yX7_hurdle yX7_hurdle ∈ wsA := ⟨tb3 (List.mem_of_getElem? (i := 220) rfl) rfl, pv3 (List.mem_of_getElem? (i := 0) rfl) rfl⟩
theorem cf_X7_inverse : CalF yX7_inverse cX7_inverse 5 (some .long) 1 := ⟨tb3 (List.mem_of_getElem? (i := 64) rfl) rfl, tb1 (List.mem_of_getElem? (i := 1) rfl) rfl, by decide +kernel, by decide +kernel, by decide +kernel⟩
theorem iv_X7_inverse : Cond.instanceMethod yX7_inverse ∈ wsA ∧ Cond.selects yX7_inverse.cls yX7_inverse yX7_inverse ∈ wsA := ⟨tb3 (List.mem_of_getElem? (i := 62) rfl) rfl, tb3 (List.mem_of_getElem? (i := 63) rfl) rfl⟩
theorem cf_X7_isHome : CalF yX7_isHome cX7_isHome 3 (some .boolean) 1 := ⟨tb3 (List.mem_of_getElem? (i := 13) rfl) rfl, tb1 (List.mem_of_getElem? (i := 1) rfl) rfl, by decide +kernel, by decide +kernel, by decide +kernel⟩
theorem iv_X7_isHome : Cond.instanceMethod yX7_isHome ∈ wsA ∧ Cond.selects yX7_isHome.cls yX7_isHome yX7_isHome ∈ wsA := ⟨tb3 (List.mem_of_getElem? (i := 12) rfl) rfl, pv2 (List.mem_of_getElem? (i := 9) rfl) rfl⟩
theorem cf_X7_keepPast : CalF yX7_keepPast cX7_keepPast 1 none 0 := ⟨tb5 (List.mem_of_getElem? (i := 209) rfl) rfl, tb1 (List.mem_of_getElem? (i := 1) rfl) rfl, by decide +kernel, by decide +kernel, by decide +kernel⟩
theorem iv_X7_keepPast : Cond.instanceMethod yX7_keepPast ∈ wsA ∧ Cond.selects yX7_keepPast.cls yX7_keepPast yX7_keepPast ∈ wsA := ⟨tb5 (List.mem_of_getElem? (i := 208) rfl) rfl, pv3 (List.mem_of_getElem? (i := 10) rfl) rfl⟩
theorem cf_X7_keeps : CalF yX7_keeps cX7_keeps 3 (some .int) 1 := ⟨tb5 (List.mem_of_getElem? (i := 110) rfl) rfl, tb1 (List.mem_of_getElem? (i := 1) rfl) rfl, by decide +kernel, by decide +kernel, by decide +kernel⟩
theorem iv_X7_keeps : Cond.instanceMethod yX7_keeps ∈ wsA ∧ Cond.selects yX7_keeps.cls yX7_keeps yX7_keeps ∈ wsA := ⟨tb5 (List.mem_of_getElem? (i := 108) rfl) rfl, tb5 (List.mem_of_getElem? (i := 109) rfl) rfl⟩
theorem cf_X7_level : CalF yX7_level cX7_level 3 (some .int) 1 := ⟨tb3 (List.mem_of_getElem? (i := 149) rfl) rfl, tb1 (List.mem_of_getElem? (i := 1) rfl) rfl, by decide +kernel, by decide +kernel, by decide +kernel⟩
theorem iv_X7_level : Cond.instanceMethod yX7_level ∈ wsA ∧ Cond.selects yX7_level.cls yX7_level yX7_level ∈ wsA := ⟨tb3 (List.mem_of_getElem? (i := 147) rfl) rfl, tb3 (List.mem_of_getElem? (i := 148) rfl) rfl⟩
theorem cf_X7_load : CalF yX7_load cX7_load 2 (some .int) 1 := ⟨tb2 (List.mem_of_getElem? (i := 26) rfl) rfl, tb1 (List.mem_of_getElem? (i := 1) rfl) rfl, by decide +kernel, by decide +kernel, by decide +kernel⟩
theorem iv_X7_load : Cond.instanceMethod yX7_load ∈ wsA ∧ Cond.selects yX7_load.cls yX7_load yX7_load ∈ wsA := ⟨tb2 (List.mem_of_getElem? (i := 24) rfl) rfl, tb2 (List.mem_of_getElem? (i := 25) rfl) rfl⟩
theorem cf_X7_many : CalF yX7_many cX7_many 2 (some .int) 1 := ⟨tb3 (List.mem_of_getElem? (i := 9) rfl) rfl, tb1 (List.mem_of_getElem? (i := 1) rfl) rfl, by decide +kernel, by decide +kernel, by decide +kernel⟩
theorem iv_X7_many : Cond.instanceMethod yX7_many ∈ wsA ∧ Cond.selects yX7_many.cls yX7_many yX7_many ∈ wsA := ⟨tb3 (List.mem_of_getElem? (i := 7) rfl) rfl, tb3 (List.mem_of_getElem? (i := 8) rfl) rfl⟩
theorem cf_X7_mean : CalF yX7_mean cX7_mean 6 (some .int) 1 := ⟨tb4 (List.mem_of_getElem? (i := 116) rfl) rfl, tb1 (List.mem_of_getElem? (i := 1) rfl) rfl, by decide +kernel, by decide +kernel, by decide +kernel⟩
theorem iv_X7_mean : Cond.instanceMethod yX7_mean ∈ wsA ∧ Cond.selects yX7_mean.cls yX7_mean yX7_mean ∈ wsA := ⟨tb4 (List.mem_of_getElem? (i := 114) rfl) rfl, tb4 (List.mem_of_getElem? (i := 115) rfl) rfl⟩
theorem cf_X7_meet : CalF yX7_meet cX7_meet 4 (some .int) 2 := ⟨tb5 (List.mem_of_getElem? (i := 50) rfl) rfl, tb1 (List.mem_of_getElem? (i := 1) rfl) rfl, by decide +kernel, by decide +kernel, by decide +kernel⟩
theorem iv_X7_meet : Cond.instanceMethod yX7_meet ∈ wsA ∧ Cond.selects yX7_meet.cls yX7_meet yX7_meet ∈ wsA := ⟨tb5 (List.mem_of_getElem? (i := 48) rfl) rfl, tb5 (List.mem_of_getElem? (i := 49) rfl) rfl⟩
theorem cf_X7_member : CalF yX7_member cX7_member 5 (some .int) 1 := ⟨tb3 (List.mem_of_getElem? (i := 173) rfl) rfl, tb1 (List.mem_of_getElem? (i := 1) rfl) rfl, by decide +kernel, by decide +kernel, by decide +kernel⟩
theorem iv_X7_member : Cond.instanceMethod yX7_member ∈ wsA ∧ Cond.selects yX7_member.cls yX7_member yX7_member ∈ wsA := ⟨tb3 (List.mem_of_getElem? (i := 171) rfl) rfl, tb3 (List.mem_of_getElem? (i := 172) rfl) rfl⟩
theorem cf_X7_nearer : CalF yX7_nearer cX7_nearer 4 (some .int) 0 := ⟨tb4 (List.mem_of_getElem? (i := 125) rfl) rfl, tb1 (List.mem_of_getElem? (i := 1) rfl) rfl, by decide +kernel, by decide +kernel, by decide +kernel⟩
theorem iv_X7_nearer : Cond.instanceMethod yX7_nearer ∈ wsA ∧ Cond.selects yX7_nearer.cls yX7_nearer yX7_nearer ∈ wsA := ⟨tb4 (List.mem_of_getElem? (i := 123) rfl) rfl, tb4 (List.mem_of_getElem? (i := 124) rfl) rfl⟩
theorem cf_X7_normal : CalF yX7_normal cX7_normal 2 (some .int) 1 := ⟨tb5 (List.mem_of_getElem? (i := 64) rfl) rfl, tb1 (List.mem_of_getElem? (i := 1) rfl) rfl, by decide +kernel, by decide +kernel, by decide +kernel⟩
theorem iv_X7_normal : Cond.instanceMethod yX7_normal ∈ wsA ∧ Cond.selects yX7_normal.cls yX7_normal yX7_normal ∈ wsA := ⟨tb5 (List.mem_of_getElem? (i := 62) rfl) rfl, tb5 (List.mem_of_getElem? (i := 63) rfl) rfl⟩
theorem cf_X7_nth : CalF yX7_nth cX7_nth 2 (some .long) 1 := ⟨tb3 (List.mem_of_getElem? (i := 189) rfl) rfl, tb1 (List.mem_of_getElem? (i := 1) rfl) rfl, by decide +kernel, by decide +kernel, by decide +kernel⟩
theorem iv_X7_nth : Cond.instanceMethod yX7_nth ∈ wsA ∧ Cond.selects yX7_nth.cls yX7_nth yX7_nth ∈ wsA := ⟨tb3 (List.mem_of_getElem? (i := 187) rfl) rfl, tb3 (List.mem_of_getElem? (i := 188) rfl) rfl⟩
theorem cf_X7_ofOrder : CalF yX7_ofOrder cX7_ofOrder 4 (some .int) 1 := ⟨tb5 (List.mem_of_getElem? (i := 196) rfl) rfl, tb1 (List.mem_of_getElem? (i := 1) rfl) rfl, by decide +kernel, by decide +kernel, by decide +kernel⟩
theorem iv_X7_ofOrder : Cond.instanceMethod yX7_ofOrder ∈ wsA ∧ Cond.selects yX7_ofOrder.cls yX7_ofOrder yX7_ofOrder ∈ wsA := ⟨tb5 (List.mem_of_getElem? (i := 194) rfl) rfl, tb5 (List.mem_of_getElem? (i := 195) rfl) rfl⟩
theorem cf_X7_orbit : CalF yX7_orbit cX7_orbit 2 (some .int) 1 := ⟨tb3 (List.mem_of_getElem? (i := 109) rfl) rfl, tb1 (List.mem_of_getElem? (i := 1) rfl) rfl, by decide +kernel, by decide +kernel, by decide +kernel⟩
theorem iv_X7_orbit : Cond.instanceMethod yX7_orbit ∈ wsA ∧ Cond.selects yX7_orbit.cls yX7_orbit yX7_orbit ∈ wsA := ⟨tb3 (List.mem_of_getElem? (i := 107) rfl) rfl, tb3 (List.mem_of_getElem? (i := 108) rfl) rfl⟩
theorem cf_X7_orbits : CalF yX7_orbits cX7_orbits 1 (some .int) 0 := ⟨tb3 (List.mem_of_getElem? (i := 122) rfl) rfl, tb1 (List.mem_of_getElem? (i := 1) rfl) rfl, by decide +kernel, by decide +kernel, by decide +kernel⟩
theorem iv_X7_orbits : Cond.instanceMethod yX7_orbits ∈ wsA ∧ Cond.selects yX7_orbits.cls yX7_orbits yX7_orbits ∈ wsA := ⟨tb3 (List.mem_of_getElem? (i := 120) rfl) rfl, tb3 (List.mem_of_getElem? (i := 121) rfl) rfl⟩
theorem cf_X7_order : CalF yX7_order cX7_order 1 (some .int) 0 := ⟨tb3 (List.mem_of_getElem? (i := 157) rfl) rfl, tb1 (List.mem_of_getElem? (i := 1) rfl) rfl, by decide +kernel, by decide +kernel, by decide +kernel⟩
theorem iv_X7_order : Cond.instanceMethod yX7_order ∈ wsA ∧ Cond.selects yX7_order.cls yX7_order yX7_order ∈ wsA := ⟨tb3 (List.mem_of_getElem? (i := 155) rfl) rfl, tb3 (List.mem_of_getElem? (i := 156) rfl) rfl⟩
theorem cf_X7_out : CalF yX7_out cX7_out 2 (some .int) 1 := ⟨tb6 (List.mem_of_getElem? (i := 41) rfl) rfl, tb1 (List.mem_of_getElem? (i := 1) rfl) rfl, by decide +kernel, by decide +kernel, by decide +kernel⟩
theorem iv_X7_out : Cond.instanceMethod yX7_out ∈ wsA ∧ Cond.selects yX7_out.cls yX7_out yX7_out ∈ wsA := ⟨tb6 (List.mem_of_getElem? (i := 39) rfl) rfl, tb6 (List.mem_of_getElem? (i := 40) rfl) rfl⟩
theorem cf_X7_place : CalF yX7_place cX7_place 5 (some .int) 1 := ⟨tb5 (List.mem_of_getElem? (i := 229) rfl) rfl, tb1 (List.mem_of_getElem? (i := 1) rfl) rfl, by decide +kernel, by decide +kernel, by decide +kernel⟩
theorem iv_X7_place : Cond.instanceMethod yX7_place ∈ wsA ∧ Cond.selects yX7_place.cls yX7_place yX7_place ∈ wsA := ⟨tb5 (List.mem_of_getElem? (i := 227) rfl) rfl, tb5 (List.mem_of_getElem? (i := 228) rfl) rfl⟩
theorem cf_X7_power : CalF yX7_power cX7_power 6 (some .long) 2 := ⟨tb3 (List.mem_of_getElem? (i := 69) rfl) rfl, tb1 (List.mem_of_getElem? (i := 1) rfl) rfl, by decide +kernel, by decide +kernel, by decide +kernel⟩
theorem iv_X7_power : Cond.instanceMethod yX7_power ∈ wsA ∧ Cond.selects yX7_power.cls yX7_power yX7_power ∈ wsA := ⟨tb3 (List.mem_of_getElem? (i := 67) rfl) rfl, tb3 (List.mem_of_getElem? (i := 68) rfl) rfl⟩
theorem cf_X7_print : CalF yX7_print cX7_print 5 (some .int) 1 := ⟨tb6 (List.mem_of_getElem? (i := 25) rfl) rfl, tb1 (List.mem_of_getElem? (i := 1) rfl) rfl, by decide +kernel, by decide +kernel, by decide +kernel⟩
theorem iv_X7_print : Cond.instanceMethod yX7_print ∈ wsA ∧ Cond.selects yX7_print.cls yX7_print yX7_print ∈ wsA := ⟨tb6 (List.mem_of_getElem? (i := 23) rfl) rfl, tb6 (List.mem_of_getElem? (i := 24) rfl) rfl⟩
theorem cf_X7_printByte : CalF yX7_printByte cX7_printByte 2 none 1 := ⟨tb6 (List.mem_of_getElem? (i := 37) rfl) rfl, tb1 (List.mem_of_getElem? (i := 1) rfl) rfl, by decide +kernel, by decide +kernel, by decide +kernel⟩
theorem iv_X7_printByte : Cond.instanceMethod yX7_printByte ∈ wsA ∧ Cond.selects yX7_printByte.cls yX7_printByte yX7_printByte ∈ wsA := ⟨tb6 (List.mem_of_getElem? (i := 36) rfl) rfl, pv3 (List.mem_of_getElem? (i := 15) rfl) rfl⟩
theorem cf_X7_printCycle : CalF yX7_printCycle cX7_printCycle 7 (some .int) 2 := ⟨tb6 (List.mem_of_getElem? (i := 33) rfl) rfl, tb1 (List.mem_of_getElem? (i := 1) rfl) rfl, by decide +kernel, by decide +kernel, by decide +kernel⟩
theorem iv_X7_printCycle : Cond.instanceMethod yX7_printCycle ∈ wsA ∧ Cond.selects yX7_printCycle.cls yX7_printCycle yX7_printCycle ∈ wsA := ⟨tb6 (List.mem_of_getElem? (i := 32) rfl) rfl, pv3 (List.mem_of_getElem? (i := 14) rfl) rfl⟩
theorem cf_X7_printCycles : CalF yX7_printCycles cX7_printCycles 6 none 1 := ⟨tb6 (List.mem_of_getElem? (i := 29) rfl) rfl, tb1 (List.mem_of_getElem? (i := 1) rfl) rfl, by decide +kernel, by decide +kernel, by decide +kernel⟩
theorem iv_X7_printCycles : Cond.instanceMethod yX7_printCycles ∈ wsA ∧ Cond.selects yX7_printCycles.cls yX7_printCycles yX7_printCycles ∈ wsA := ⟨tb6 (List.mem_of_getElem? (i := 28) rfl) rfl, pv3 (List.mem_of_getElem? (i := 13) rfl) rfl⟩
theorem cf_X7_product : CalF yX7_product cX7_product 9 (some .long) 2 := ⟨tb3 (List.mem_of_getElem? (i := 59) rfl) rfl, tb1 (List.mem_of_getElem? (i := 1) rfl) rfl, by decide +kernel, by decide +kernel, by decide +kernel⟩
theorem iv_X7_product : Cond.instanceMethod yX7_product ∈ wsA ∧ Cond.selects yX7_product.cls yX7_product yX7_product ∈ wsA := ⟨tb3 (List.mem_of_getElem? (i := 57) rfl) rfl, tb3 (List.mem_of_getElem? (i := 58) rfl) rfl⟩
theorem cf_X7_rank : CalF yX7_rank cX7_rank 6 (some .int) 1 := ⟨tb3 (List.mem_of_getElem? (i := 201) rfl) rfl, tb1 (List.mem_of_getElem? (i := 1) rfl) rfl, by decide +kernel, by decide +kernel, by decide +kernel⟩
theorem iv_X7_rank : Cond.instanceMethod yX7_rank ∈ wsA ∧ Cond.selects yX7_rank.cls yX7_rank yX7_rank ∈ wsA := ⟨tb3 (List.mem_of_getElem? (i := 199) rfl) rfl, tb3 (List.mem_of_getElem? (i := 200) rfl) rfl⟩
theorem cf_X7_read : CalF yX7_read cX7_read 3 (some .long) 1 := ⟨tb3 (List.mem_of_getElem? (i := 47) rfl) rfl, tb1 (List.mem_of_getElem? (i := 1) rfl) rfl, by decide +kernel, by decide +kernel, by decide +kernel⟩
theorem iv_X7_read : Cond.instanceMethod yX7_read ∈ wsA ∧ Cond.selects yX7_read.cls yX7_read yX7_read ∈ wsA := ⟨tb3 (List.mem_of_getElem? (i := 46) rfl) rfl, pv2 (List.mem_of_getElem? (i := 11) rfl) rfl⟩
theorem cf_X7_refuse : CalF yX7_refuse cX7_refuse 2 (some .int) 1 := ⟨tb2 (List.mem_of_getElem? (i := 30) rfl) rfl, tb1 (List.mem_of_getElem? (i := 1) rfl) rfl, by decide +kernel, by decide +kernel, by decide +kernel⟩
theorem iv_X7_refuse : Cond.instanceMethod yX7_refuse ∈ wsA ∧ Cond.selects yX7_refuse.cls yX7_refuse yX7_refuse ∈ wsA := ⟨tb2 (List.mem_of_getElem? (i := 29) rfl) rfl, pv1 (List.mem_of_getElem? (i := 0) rfl) rfl⟩
theorem cf_X7_root : CalF yX7_root cX7_root 8 (some .int) 2 := ⟨tb5 (List.mem_of_getElem? (i := 179) rfl) rfl, tb1 (List.mem_of_getElem? (i := 1) rfl) rfl, by decide +kernel, by decide +kernel, by decide +kernel⟩
theorem iv_X7_root : Cond.instanceMethod yX7_root ∈ wsA ∧ Cond.selects yX7_root.cls yX7_root yX7_root ∈ wsA := ⟨tb5 (List.mem_of_getElem? (i := 177) rfl) rfl, tb5 (List.mem_of_getElem? (i := 178) rfl) rfl⟩
theorem cf_X7_same : CalF yX7_same cX7_same 13 (some .int) 2 := ⟨tb5 (List.mem_of_getElem? (i := 30) rfl) rfl, tb1 (List.mem_of_getElem? (i := 1) rfl) rfl, by decide +kernel, by decide +kernel, by decide +kernel⟩
theorem iv_X7_same : Cond.instanceMethod yX7_same ∈ wsA ∧ Cond.selects yX7_same.cls yX7_same yX7_same ∈ wsA := ⟨tb5 (List.mem_of_getElem? (i := 28) rfl) rfl, tb5 (List.mem_of_getElem? (i := 29) rfl) rfl⟩
theorem cf_X7_slightest : CalF yX7_slightest cX7_slightest 3 (some .int) 0 := ⟨tb5 (List.mem_of_getElem? (i := 188) rfl) rfl, tb1 (List.mem_of_getElem? (i := 1) rfl) rfl, by decide +kernel, by decide +kernel, by decide +kernel⟩
theorem iv_X7_slightest : Cond.instanceMethod yX7_slightest ∈ wsA ∧ Cond.selects yX7_slightest.cls yX7_slightest yX7_slightest ∈ wsA := ⟨tb5 (List.mem_of_getElem? (i := 186) rfl) rfl, tb5 (List.mem_of_getElem? (i := 187) rfl) rfl⟩
theorem cf_X7_solve : CalF yX7_solve cX7_solve 2 (some .int) 1 := ⟨tb4 (List.mem_of_getElem? (i := 133) rfl) rfl, tb1 (List.mem_of_getElem? (i := 1) rfl) rfl, by decide +kernel, by decide +kernel, by decide +kernel⟩
theorem iv_X7_solve : Cond.instanceMethod yX7_solve ∈ wsA ∧ Cond.selects yX7_solve.cls yX7_solve yX7_solve ∈ wsA := ⟨tb4 (List.mem_of_getElem? (i := 131) rfl) rfl, tb4 (List.mem_of_getElem? (i := 132) rfl) rfl⟩
theorem cf_X7_spare : CalF yX7_spare cX7_spare 1 (some .int) 0 := ⟨tb5 (List.mem_of_getElem? (i := 75) rfl) rfl, tb1 (List.mem_of_getElem? (i := 1) rfl) rfl, by decide +kernel, by decide +kernel, by decide +kernel⟩
theorem iv_X7_spare : Cond.instanceMethod yX7_spare ∈ wsA ∧ Cond.selects yX7_spare.cls yX7_spare yX7_spare ∈ wsA := ⟨tb5 (List.mem_of_getElem? (i := 73) rfl) rfl, tb5 (List.mem_of_getElem? (i := 74) rfl) rfl⟩
theorem cf_X7_stand : CalF yX7_stand cX7_stand 1 (some .long) 0 := ⟨tb3 (List.mem_of_getElem? (i := 39) rfl) rfl, tb1 (List.mem_of_getElem? (i := 1) rfl) rfl, by decide +kernel, by decide +kernel, by decide +kernel⟩
theorem iv_X7_stand : Cond.instanceMethod yX7_stand ∈ wsA ∧ Cond.selects yX7_stand.cls yX7_stand yX7_stand ∈ wsA := ⟨tb3 (List.mem_of_getElem? (i := 37) rfl) rfl, tb3 (List.mem_of_getElem? (i := 38) rfl) rfl⟩
theorem cf_X7_status : CalF yX7_status cX7_status 1 (some .int) 0 := ⟨tb2 (List.mem_of_getElem? (i := 10) rfl) rfl, tb1 (List.mem_of_getElem? (i := 1) rfl) rfl, by decide +kernel, by decide +kernel, by decide +kernel⟩
theorem iv_X7_status : Cond.instanceMethod yX7_status ∈ wsA ∧ Cond.selects yX7_status.cls yX7_status yX7_status ∈ wsA := ⟨tb2 (List.mem_of_getElem? (i := 8) rfl) rfl, tb2 (List.mem_of_getElem? (i := 9) rfl) rfl⟩
theorem cf_X7_step : CalF yX7_step cX7_step 2 (some .long) 1 := ⟨tb3 (List.mem_of_getElem? (i := 17) rfl) rfl, tb1 (List.mem_of_getElem? (i := 1) rfl) rfl, by decide +kernel, by decide +kernel, by decide +kernel⟩
theorem iv_X7_step : Cond.instanceMethod yX7_step ∈ wsA ∧ Cond.selects yX7_step.cls yX7_step yX7_step ∈ wsA := ⟨tb3 (List.mem_of_getElem? (i := 15) rfl) rfl, tb3 (List.mem_of_getElem? (i := 16) rfl) rfl⟩
theorem cf_X7_takes : CalF yX7_takes cX7_takes 6 (some .int) 2 := ⟨tb3 (List.mem_of_getElem? (i := 43) rfl) rfl, tb1 (List.mem_of_getElem? (i := 1) rfl) rfl, by decide +kernel, by decide +kernel, by decide +kernel⟩
theorem iv_X7_takes : Cond.instanceMethod yX7_takes ∈ wsA ∧ Cond.selects yX7_takes.cls yX7_takes yX7_takes ∈ wsA := ⟨tb3 (List.mem_of_getElem? (i := 41) rfl) rfl, tb3 (List.mem_of_getElem? (i := 42) rfl) rfl⟩
theorem cf_X7_tell : CalF yX7_tell cX7_tell 2 (some .int) 1 := ⟨tb3 (List.mem_of_getElem? (i := 1) rfl) rfl, tb1 (List.mem_of_getElem? (i := 1) rfl) rfl, by decide +kernel, by decide +kernel, by decide +kernel⟩
theorem iv_X7_tell : Cond.instanceMethod yX7_tell ∈ wsA ∧ Cond.selects yX7_tell.cls yX7_tell yX7_tell ∈ wsA := ⟨tb3 (List.mem_of_getElem? (i := 0) rfl) rfl, pv2 (List.mem_of_getElem? (i := 8) rfl) rfl⟩
theorem cf_X7_tellTurn : CalF yX7_tellTurn cX7_tellTurn 3 (some .long) 1 := ⟨tb3 (List.mem_of_getElem? (i := 30) rfl) rfl, tb1 (List.mem_of_getElem? (i := 1) rfl) rfl, by decide +kernel, by decide +kernel, by decide +kernel⟩
theorem iv_X7_tellTurn : Cond.instanceMethod yX7_tellTurn ∈ wsA ∧ Cond.selects yX7_tellTurn.cls yX7_tellTurn yX7_tellTurn ∈ wsA := ⟨tb3 (List.mem_of_getElem? (i := 29) rfl) rfl, pv2 (List.mem_of_getElem? (i := 10) rfl) rfl⟩
theorem cf_X7_tellWay : CalF yX7_tellWay cX7_tellWay 7 (some .int) 2 := ⟨tb3 (List.mem_of_getElem? (i := 217) rfl) rfl, tb1 (List.mem_of_getElem? (i := 1) rfl) rfl, by decide +kernel, by decide +kernel, by decide +kernel⟩
theorem iv_X7_tellWay : Cond.instanceMethod yX7_tellWay ∈ wsA ∧ Cond.selects yX7_tellWay.cls yX7_tellWay yX7_tellWay ∈ wsA := ⟨tb3 (List.mem_of_getElem? (i := 216) rfl) rfl, pv2 (List.mem_of_getElem? (i := 15) rfl) rfl⟩
theorem cf_X7_turn : CalF yX7_turn cX7_turn 2 (some .int) 1 := ⟨tb5 (List.mem_of_getElem? (i := 205) rfl) rfl, tb1 (List.mem_of_getElem? (i := 1) rfl) rfl, by decide +kernel, by decide +kernel, by decide +kernel⟩
theorem iv_X7_turn : Cond.instanceMethod yX7_turn ∈ wsA ∧ Cond.selects yX7_turn.cls yX7_turn yX7_turn ∈ wsA := ⟨tb5 (List.mem_of_getElem? (i := 203) rfl) rfl, tb5 (List.mem_of_getElem? (i := 204) rfl) rfl⟩
theorem cf_X7_turned : CalF yX7_turned cX7_turned 9 (some .long) 2 := ⟨tb5 (List.mem_of_getElem? (i := 25) rfl) rfl, tb1 (List.mem_of_getElem? (i := 1) rfl) rfl, by decide +kernel, by decide +kernel, by decide +kernel⟩
theorem iv_X7_turned : Cond.instanceMethod yX7_turned ∈ wsA ∧ Cond.selects yX7_turned.cls yX7_turned yX7_turned ∈ wsA := ⟨tb5 (List.mem_of_getElem? (i := 23) rfl) rfl, tb5 (List.mem_of_getElem? (i := 24) rfl) rfl⟩
theorem cf_X7_typed : CalF yX7_typed cX7_typed 6 (some .int) 1 := ⟨tb5 (List.mem_of_getElem? (i := 171) rfl) rfl, tb1 (List.mem_of_getElem? (i := 1) rfl) rfl, by decide +kernel, by decide +kernel, by decide +kernel⟩
theorem iv_X7_typed : Cond.instanceMethod yX7_typed ∈ wsA ∧ Cond.selects yX7_typed.cls yX7_typed yX7_typed ∈ wsA := ⟨tb5 (List.mem_of_getElem? (i := 169) rfl) rfl, tb5 (List.mem_of_getElem? (i := 170) rfl) rfl⟩
theorem cf_X7_undo : CalF yX7_undo cX7_undo 1 (some .int) 0 := ⟨tb6 (List.mem_of_getElem? (i := 13) rfl) rfl, tb1 (List.mem_of_getElem? (i := 1) rfl) rfl, by decide +kernel, by decide +kernel, by decide +kernel⟩
theorem iv_X7_undo : Cond.instanceMethod yX7_undo ∈ wsA ∧ Cond.selects yX7_undo.cls yX7_undo yX7_undo ∈ wsA := ⟨tb6 (List.mem_of_getElem? (i := 11) rfl) rfl, tb6 (List.mem_of_getElem? (i := 12) rfl) rfl⟩
theorem cf_X7_way : CalF yX7_way cX7_way 6 (some .int) 2 := ⟨tb3 (List.mem_of_getElem? (i := 213) rfl) rfl, tb1 (List.mem_of_getElem? (i := 1) rfl) rfl, by decide +kernel, by decide +kernel, by decide +kernel⟩
theorem iv_X7_way : Cond.instanceMethod yX7_way ∈ wsA ∧ Cond.selects yX7_way.cls yX7_way yX7_way ∈ wsA := ⟨tb3 (List.mem_of_getElem? (i := 211) rfl) rfl, tb3 (List.mem_of_getElem? (i := 212) rfl) rfl⟩
theorem cf_X0_init : CalF yX0_init cX0_init 1 none 0 := ⟨tb1 (List.mem_of_getElem? (i := 99) rfl) rfl, tb1 (List.mem_of_getElem? (i := 4) rfl) rfl, by decide +kernel, by decide +kernel, by decide +kernel⟩
theorem im_X0_init : Cond.instanceMethod yX0_init ∈ wsA := tb1 (List.mem_of_getElem? (i := 98) rfl) rfl
theorem cf_X0_carrier : CalF yX0_carrier cX0_carrier 3 (some .long) 2 := ⟨tb4 (List.mem_of_getElem? (i := 74) rfl) rfl, tb1 (List.mem_of_getElem? (i := 4) rfl) rfl, by decide +kernel, by decide +kernel, by decide +kernel⟩
theorem iv_X0_carrier : Cond.instanceMethod yX0_carrier ∈ wsA ∧ Cond.selects yX0_carrier.cls yX0_carrier yX0_carrier ∈ wsA := ⟨tb4 (List.mem_of_getElem? (i := 72) rfl) rfl, tb4 (List.mem_of_getElem? (i := 73) rfl) rfl⟩
theorem cf_X0_contains : CalF yX0_contains cX0_contains 3 (some .boolean) 1 := ⟨tb3 (List.mem_of_getElem? (i := 177) rfl) rfl, tb1 (List.mem_of_getElem? (i := 4) rfl) rfl, by decide +kernel, by decide +kernel, by decide +kernel⟩
theorem iv_X0_contains : Cond.instanceMethod yX0_contains ∈ wsA ∧ Cond.selects yX0_contains.cls yX0_contains yX0_contains ∈ wsA := ⟨tb3 (List.mem_of_getElem? (i := 175) rfl) rfl, tb3 (List.mem_of_getElem? (i := 176) rfl) rfl⟩
theorem cf_X0_countFree : CalF yX0_countFree cX0_countFree 2 (some .int) 0 := ⟨tb5 (List.mem_of_getElem? (i := 140) rfl) rfl, tb1 (List.mem_of_getElem? (i := 4) rfl) rfl, by decide +kernel, by decide +kernel, by decide +kernel⟩
theorem iv_X0_countFree : Cond.instanceMethod yX0_countFree ∈ wsA ∧ Cond.selects yX0_countFree.cls yX0_countFree yX0_countFree ∈ wsA := ⟨tb5 (List.mem_of_getElem? (i := 138) rfl) rfl, tb5 (List.mem_of_getElem? (i := 139) rfl) rfl⟩
theorem cf_X0_countHeld : CalF yX0_countHeld cX0_countHeld 3 (some .int) 0 := ⟨tb3 (List.mem_of_getElem? (i := 135) rfl) rfl, tb1 (List.mem_of_getElem? (i := 4) rfl) rfl, by decide +kernel, by decide +kernel, by decide +kernel⟩
theorem iv_X0_countHeld : Cond.instanceMethod yX0_countHeld ∈ wsA ∧ Cond.selects yX0_countHeld.cls yX0_countHeld yX0_countHeld ∈ wsA := ⟨tb3 (List.mem_of_getElem? (i := 133) rfl) rfl, tb3 (List.mem_of_getElem? (i := 134) rfl) rfl⟩
theorem cf_X0_countMakers : CalF yX0_countMakers cX0_countMakers 1 (some .int) 0 := ⟨tb4 (List.mem_of_getElem? (i := 199) rfl) rfl, tb1 (List.mem_of_getElem? (i := 4) rfl) rfl, by decide +kernel, by decide +kernel, by decide +kernel⟩
theorem iv_X0_countMakers : Cond.instanceMethod yX0_countMakers ∈ wsA ∧ Cond.selects yX0_countMakers.cls yX0_countMakers yX0_countMakers ∈ wsA := ⟨tb4 (List.mem_of_getElem? (i := 197) rfl) rfl, tb4 (List.mem_of_getElem? (i := 198) rfl) rfl⟩
theorem cf_X0_countSources : CalF yX0_countSources cX0_countSources 7 (some .int) 3 := ⟨tb3 (List.mem_of_getElem? (i := 209) rfl) rfl, tb1 (List.mem_of_getElem? (i := 4) rfl) rfl, by decide +kernel, by decide +kernel, by decide +kernel⟩
theorem iv_X0_countSources : Cond.instanceMethod yX0_countSources ∈ wsA ∧ Cond.selects yX0_countSources.cls yX0_countSources yX0_countSources ∈ wsA := ⟨tb3 (List.mem_of_getElem? (i := 208) rfl) rfl, pv2 (List.mem_of_getElem? (i := 14) rfl) rfl⟩
theorem cf_X0_firstMoved : CalF yX0_firstMoved cX0_firstMoved 4 (some .int) 1 := ⟨tb2 (List.mem_of_getElem? (i := 217) rfl) rfl, tb1 (List.mem_of_getElem? (i := 4) rfl) rfl, by decide +kernel, by decide +kernel, by decide +kernel⟩
theorem iv_X0_firstMoved : Cond.instanceMethod yX0_firstMoved ∈ wsA ∧ Cond.selects yX0_firstMoved.cls yX0_firstMoved yX0_firstMoved ∈ wsA := ⟨tb2 (List.mem_of_getElem? (i := 216) rfl) rfl, pv2 (List.mem_of_getElem? (i := 5) rfl) rfl⟩
theorem cf_X0_follow : CalF yX0_follow cX0_follow 3 (some .int) 1 := ⟨tb3 (List.mem_of_getElem? (i := 185) rfl) rfl, tb1 (List.mem_of_getElem? (i := 4) rfl) rfl, by decide +kernel, by decide +kernel, by decide +kernel⟩
theorem iv_X0_follow : Cond.instanceMethod yX0_follow ∈ wsA ∧ Cond.selects yX0_follow.cls yX0_follow yX0_follow ∈ wsA := ⟨tb3 (List.mem_of_getElem? (i := 183) rfl) rfl, tb3 (List.mem_of_getElem? (i := 184) rfl) rfl⟩
theorem cf_X0_gather : CalF yX0_gather cX0_gather 6 (some .int) 3 := ⟨tb2 (List.mem_of_getElem? (i := 192) rfl) rfl, tb1 (List.mem_of_getElem? (i := 4) rfl) rfl, by decide +kernel, by decide +kernel, by decide +kernel⟩
theorem iv_X0_gather : Cond.instanceMethod yX0_gather ∈ wsA ∧ Cond.selects yX0_gather.cls yX0_gather yX0_gather ∈ wsA := ⟨tb2 (List.mem_of_getElem? (i := 190) rfl) rfl, tb2 (List.mem_of_getElem? (i := 191) rfl) rfl⟩
theorem cf_X0_grow : CalF yX0_grow cX0_grow 8 (some .boolean) 1 := ⟨tb2 (List.mem_of_getElem? (i := 201) rfl) rfl, tb1 (List.mem_of_getElem? (i := 4) rfl) rfl, by decide +kernel, by decide +kernel, by decide +kernel⟩
theorem iv_X0_grow : Cond.instanceMethod yX0_grow ∈ wsA ∧ Cond.selects yX0_grow.cls yX0_grow yX0_grow ∈ wsA := ⟨tb2 (List.mem_of_getElem? (i := 199) rfl) rfl, tb2 (List.mem_of_getElem? (i := 200) rfl) rfl⟩
theorem cf_X0_heldPoint : CalF yX0_heldPoint cX0_heldPoint 4 (some .int) 1 := ⟨tb3 (List.mem_of_getElem? (i := 145) rfl) rfl, tb1 (List.mem_of_getElem? (i := 4) rfl) rfl, by decide +kernel, by decide +kernel, by decide +kernel⟩
theorem iv_X0_heldPoint : Cond.instanceMethod yX0_heldPoint ∈ wsA ∧ Cond.selects yX0_heldPoint.cls yX0_heldPoint yX0_heldPoint ∈ wsA := ⟨tb3 (List.mem_of_getElem? (i := 143) rfl) rfl, tb3 (List.mem_of_getElem? (i := 144) rfl) rfl⟩
theorem cf_X0_insert : CalF yX0_insert cX0_insert 6 (some .int) 2 := ⟨tb2 (List.mem_of_getElem? (i := 213) rfl) rfl, tb1 (List.mem_of_getElem? (i := 4) rfl) rfl, by decide +kernel, by decide +kernel, by decide +kernel⟩
theorem iv_X0_insert : Cond.instanceMethod yX0_insert ∈ wsA ∧ Cond.selects yX0_insert.cls yX0_insert yX0_insert ∈ wsA := ⟨tb2 (List.mem_of_getElem? (i := 212) rfl) rfl, pv2 (List.mem_of_getElem? (i := 4) rfl) rfl⟩
theorem cf_X0_maker : CalF yX0_maker cX0_maker 2 (some .long) 1 := ⟨tb4 (List.mem_of_getElem? (i := 204) rfl) rfl, tb1 (List.mem_of_getElem? (i := 4) rfl) rfl, by decide +kernel, by decide +kernel, by decide +kernel⟩
theorem iv_X0_maker : Cond.instanceMethod yX0_maker ∈ wsA ∧ Cond.selects yX0_maker.cls yX0_maker yX0_maker ∈ wsA := ⟨tb4 (List.mem_of_getElem? (i := 202) rfl) rfl, tb4 (List.mem_of_getElem? (i := 203) rfl) rfl⟩
theorem cf_X0_pick : CalF yX0_pick cX0_pick 8 (some .long) 1 := ⟨tb3 (List.mem_of_getElem? (i := 193) rfl) rfl, tb1 (List.mem_of_getElem? (i := 4) rfl) rfl, by decide +kernel, by decide +kernel, by decide +kernel⟩
theorem iv_X0_pick : Cond.instanceMethod yX0_pick ∈ wsA ∧ Cond.selects yX0_pick.cls yX0_pick yX0_pick ∈ wsA := ⟨tb3 (List.mem_of_getElem? (i := 191) rfl) rfl, tb3 (List.mem_of_getElem? (i := 192) rfl) rfl⟩
theorem cf_X0_placeOf : CalF yX0_placeOf cX0_placeOf 11 (some .int) 1 := ⟨tb3 (List.mem_of_getElem? (i := 205) rfl) rfl, tb1 (List.mem_of_getElem? (i := 4) rfl) rfl, by decide +kernel, by decide +kernel, by decide +kernel⟩
theorem iv_X0_placeOf : Cond.instanceMethod yX0_placeOf ∈ wsA ∧ Cond.selects yX0_placeOf.cls yX0_placeOf yX0_placeOf ∈ wsA := ⟨tb3 (List.mem_of_getElem? (i := 203) rfl) rfl, tb3 (List.mem_of_getElem? (i := 204) rfl) rfl⟩
theorem cf_X0_reachedAt : CalF yX0_reachedAt cX0_reachedAt 2 (some .int) 1 := ⟨tb3 (List.mem_of_getElem? (i := 153) rfl) rfl, tb1 (List.mem_of_getElem? (i := 4) rfl) rfl, by decide +kernel, by decide +kernel, by decide +kernel⟩
theorem iv_X0_reachedAt : Cond.instanceMethod yX0_reachedAt ∈ wsA ∧ Cond.selects yX0_reachedAt.cls yX0_reachedAt yX0_reachedAt ∈ wsA := ⟨tb3 (List.mem_of_getElem? (i := 151) rfl) rfl, tb3 (List.mem_of_getElem? (i := 152) rfl) rfl⟩
theorem cf_X0_sift : CalF yX0_sift cX0_sift 8 (some .long) 2 := ⟨tb2 (List.mem_of_getElem? (i := 205) rfl) rfl, tb1 (List.mem_of_getElem? (i := 4) rfl) rfl, by decide +kernel, by decide +kernel, by decide +kernel⟩
theorem iv_X0_sift : Cond.instanceMethod yX0_sift ∈ wsA ∧ Cond.selects yX0_sift.cls yX0_sift yX0_sift ∈ wsA := ⟨tb2 (List.mem_of_getElem? (i := 204) rfl) rfl, pv2 (List.mem_of_getElem? (i := 3) rfl) rfl⟩
theorem cf_X0_size : CalF yX0_size cX0_size 1 (some .int) 0 := ⟨tb3 (List.mem_of_getElem? (i := 165) rfl) rfl, tb1 (List.mem_of_getElem? (i := 4) rfl) rfl, by decide +kernel, by decide +kernel, by decide +kernel⟩
theorem iv_X0_size : Cond.instanceMethod yX0_size ∈ wsA ∧ Cond.selects yX0_size.cls yX0_size yX0_size ∈ wsA := ⟨tb3 (List.mem_of_getElem? (i := 163) rfl) rfl, tb3 (List.mem_of_getElem? (i := 164) rfl) rfl⟩
theorem cf_X0_sizeFrom : CalF yX0_sizeFrom cX0_sizeFrom 4 (some .int) 1 := ⟨tb3 (List.mem_of_getElem? (i := 169) rfl) rfl, tb1 (List.mem_of_getElem? (i := 4) rfl) rfl, by decide +kernel, by decide +kernel, by decide +kernel⟩
theorem iv_X0_sizeFrom : Cond.instanceMethod yX0_sizeFrom ∈ wsA ∧ Cond.selects yX0_sizeFrom.cls yX0_sizeFrom yX0_sizeFrom ∈ wsA := ⟨tb3 (List.mem_of_getElem? (i := 167) rfl) rfl, tb3 (List.mem_of_getElem? (i := 168) rfl) rfl⟩
theorem cf_X0_sourceOf : CalF yX0_sourceOf cX0_sourceOf 10 (some .int) 3 := ⟨tb3 (List.mem_of_getElem? (i := 197) rfl) rfl, tb1 (List.mem_of_getElem? (i := 4) rfl) rfl, by decide +kernel, by decide +kernel, by decide +kernel⟩
theorem iv_X0_sourceOf : Cond.instanceMethod yX0_sourceOf ∈ wsA ∧ Cond.selects yX0_sourceOf.cls yX0_sourceOf yX0_sourceOf ∈ wsA := ⟨tb3 (List.mem_of_getElem? (i := 196) rfl) rfl, pv2 (List.mem_of_getElem? (i := 13) rfl) rfl⟩
theorem cf_X0_start : CalF yX0_start cX0_start 4 none 1 := ⟨tb2 (List.mem_of_getElem? (i := 196) rfl) rfl, tb1 (List.mem_of_getElem? (i := 4) rfl) rfl, by decide +kernel, by decide +kernel, by decide +kernel⟩
theorem iv_X0_start : Cond.instanceMethod yX0_start ∈ wsA ∧ Cond.selects yX0_start.cls yX0_start yX0_start ∈ wsA := ⟨tb2 (List.mem_of_getElem? (i := 194) rfl) rfl, tb2 (List.mem_of_getElem? (i := 195) rfl) rfl⟩
theorem cf_X0_tryMaker : CalF yX0_tryMaker cX0_tryMaker 10 (some .long) 2 := ⟨tb2 (List.mem_of_getElem? (i := 227) rfl) rfl, tb1 (List.mem_of_getElem? (i := 4) rfl) rfl, by decide +kernel, by decide +kernel, by decide +kernel⟩
theorem iv_X0_tryMaker : Cond.instanceMethod yX0_tryMaker ∈ wsA ∧ Cond.selects yX0_tryMaker.cls yX0_tryMaker yX0_tryMaker ∈ wsA := ⟨tb2 (List.mem_of_getElem? (i := 226) rfl) rfl, pv2 (List.mem_of_getElem? (i := 7) rfl) rfl⟩
theorem cf_X0_untried : CalF yX0_untried cX0_untried 3 (some .int) 1 := ⟨tb2 (List.mem_of_getElem? (i := 223) rfl) rfl, tb1 (List.mem_of_getElem? (i := 4) rfl) rfl, by decide +kernel, by decide +kernel, by decide +kernel⟩
theorem iv_X0_untried : Cond.instanceMethod yX0_untried ∈ wsA ∧ Cond.selects yX0_untried.cls yX0_untried yX0_untried ∈ wsA := ⟨tb2 (List.mem_of_getElem? (i := 222) rfl) rfl, pv2 (List.mem_of_getElem? (i := 6) rfl) rfl⟩
theorem cf_X1_init : CalF yX1_init cX1_init 1 none 0 := ⟨tb1 (List.mem_of_getElem? (i := 131) rfl) rfl, tb1 (List.mem_of_getElem? (i := 5) rfl) rfl, by decide +kernel, by decide +kernel, by decide +kernel⟩
theorem im_X1_init : Cond.instanceMethod yX1_init ∈ wsA := tb1 (List.mem_of_getElem? (i := 130) rfl) rfl
theorem cf_X1_descend : CalF yX1_descend cX1_descend 10 none 3 := ⟨tb4 (List.mem_of_getElem? (i := 209) rfl) rfl, tb1 (List.mem_of_getElem? (i := 5) rfl) rfl, by decide +kernel, by decide +kernel, by decide +kernel⟩
theorem iv_X1_descend : Cond.instanceMethod yX1_descend ∈ wsA ∧ Cond.selects yX1_descend.cls yX1_descend yX1_descend ∈ wsA := ⟨tb4 (List.mem_of_getElem? (i := 208) rfl) rfl, pv3 (List.mem_of_getElem? (i := 6) rfl) rfl⟩
theorem cf_X1_endsAtHome : CalF yX1_endsAtHome cX1_endsAtHome 1 (some .boolean) 0 := ⟨tb4 (List.mem_of_getElem? (i := 234) rfl) rfl, tb1 (List.mem_of_getElem? (i := 5) rfl) rfl, by decide +kernel, by decide +kernel, by decide +kernel⟩
theorem iv_X1_endsAtHome : Cond.instanceMethod yX1_endsAtHome ∈ wsA ∧ Cond.selects yX1_endsAtHome.cls yX1_endsAtHome yX1_endsAtHome ∈ wsA := ⟨tb4 (List.mem_of_getElem? (i := 232) rfl) rfl, tb4 (List.mem_of_getElem? (i := 233) rfl) rfl⟩
theorem cf_X1_forget : CalF yX1_forget cX1_forget 1 none 0 := ⟨tb2 (List.mem_of_getElem? (i := 232) rfl) rfl, tb1 (List.mem_of_getElem? (i := 5) rfl) rfl, by decide +kernel, by decide +kernel, by decide +kernel⟩
theorem iv_X1_forget : Cond.instanceMethod yX1_forget ∈ wsA ∧ Cond.selects yX1_forget.cls yX1_forget yX1_forget ∈ wsA := ⟨tb2 (List.mem_of_getElem? (i := 230) rfl) rfl, tb2 (List.mem_of_getElem? (i := 231) rfl) rfl⟩
theorem cf_X1_know : CalF yX1_know cX1_know 5 none 3 := ⟨tb4 (List.mem_of_getElem? (i := 191) rfl) rfl, tb1 (List.mem_of_getElem? (i := 5) rfl) rfl, by decide +kernel, by decide +kernel, by decide +kernel⟩
theorem iv_X1_know : Cond.instanceMethod yX1_know ∈ wsA ∧ Cond.selects yX1_know.cls yX1_know yX1_know ∈ wsA := ⟨tb4 (List.mem_of_getElem? (i := 189) rfl) rfl, tb4 (List.mem_of_getElem? (i := 190) rfl) rfl⟩
theorem cf_X1_sizeAt : CalF yX1_sizeAt cX1_sizeAt 2 (some .int) 1 := ⟨tb4 (List.mem_of_getElem? (i := 221) rfl) rfl, tb1 (List.mem_of_getElem? (i := 5) rfl) rfl, by decide +kernel, by decide +kernel, by decide +kernel⟩
theorem iv_X1_sizeAt : Cond.instanceMethod yX1_sizeAt ∈ wsA ∧ Cond.selects yX1_sizeAt.cls yX1_sizeAt yX1_sizeAt ∈ wsA := ⟨tb4 (List.mem_of_getElem? (i := 219) rfl) rfl, tb4 (List.mem_of_getElem? (i := 220) rfl) rfl⟩
theorem cf_X1_takeMakers : CalF yX1_takeMakers cX1_takeMakers 3 none 1 := ⟨tb4 (List.mem_of_getElem? (i := 195) rfl) rfl, tb1 (List.mem_of_getElem? (i := 5) rfl) rfl, by decide +kernel, by decide +kernel, by decide +kernel⟩
theorem iv_X1_takeMakers : Cond.instanceMethod yX1_takeMakers ∈ wsA ∧ Cond.selects yX1_takeMakers.cls yX1_takeMakers yX1_takeMakers ∈ wsA := ⟨tb4 (List.mem_of_getElem? (i := 194) rfl) rfl, pv3 (List.mem_of_getElem? (i := 5) rfl) rfl⟩
theorem cf_X2_init : CalF yX2_init cX2_init 1 none 0 := ⟨tb1 (List.mem_of_getElem? (i := 93) rfl) rfl, tb1 (List.mem_of_getElem? (i := 3) rfl) rfl, by decide +kernel, by decide +kernel, by decide +kernel⟩
theorem im_X2_init : Cond.instanceMethod yX2_init ∈ wsA := tb1 (List.mem_of_getElem? (i := 92) rfl) rfl
theorem cf_X2_all : CalF yX2_all cX2_all 2 (some (.object "MoveGroups$Roster")) 0 := ⟨tb3 (List.mem_of_getElem? (i := 229) rfl) rfl, tb1 (List.mem_of_getElem? (i := 3) rfl) rfl, by decide +kernel, by decide +kernel, by decide +kernel⟩
theorem iv_X2_all : Cond.instanceMethod yX2_all ∈ wsA ∧ Cond.selects yX2_all.cls yX2_all yX2_all ∈ wsA := ⟨tb3 (List.mem_of_getElem? (i := 227) rfl) rfl, tb3 (List.mem_of_getElem? (i := 228) rfl) rfl⟩
theorem cf_X2_become : CalF yX2_become cX2_become 5 none 3 := ⟨tb2 (List.mem_of_getElem? (i := 179) rfl) rfl, tb1 (List.mem_of_getElem? (i := 3) rfl) rfl, by decide +kernel, by decide +kernel, by decide +kernel⟩
theorem iv_X2_become : Cond.instanceMethod yX2_become ∈ wsA ∧ Cond.selects yX2_become.cls yX2_become yX2_become ∈ wsA := ⟨tb2 (List.mem_of_getElem? (i := 177) rfl) rfl, tb2 (List.mem_of_getElem? (i := 178) rfl) rfl⟩
theorem cf_X2_blockOf : CalF yX2_blockOf cX2_blockOf 6 (some .int) 2 := ⟨tb5 (List.mem_of_getElem? (i := 8) rfl) rfl, tb1 (List.mem_of_getElem? (i := 3) rfl) rfl, by decide +kernel, by decide +kernel, by decide +kernel⟩
theorem iv_X2_blockOf : Cond.instanceMethod yX2_blockOf ∈ wsA ∧ Cond.selects yX2_blockOf.cls yX2_blockOf yX2_blockOf ∈ wsA := ⟨tb5 (List.mem_of_getElem? (i := 6) rfl) rfl, tb5 (List.mem_of_getElem? (i := 7) rfl) rfl⟩
theorem cf_X2_centralPlace : CalF yX2_centralPlace cX2_centralPlace 5 (some .int) 1 := ⟨tb4 (List.mem_of_getElem? (i := 152) rfl) rfl, tb1 (List.mem_of_getElem? (i := 3) rfl) rfl, by decide +kernel, by decide +kernel, by decide +kernel⟩
theorem iv_X2_centralPlace : Cond.instanceMethod yX2_centralPlace ∈ wsA ∧ Cond.selects yX2_centralPlace.cls yX2_centralPlace yX2_centralPlace ∈ wsA := ⟨tb4 (List.mem_of_getElem? (i := 150) rfl) rfl, tb4 (List.mem_of_getElem? (i := 151) rfl) rfl⟩
theorem cf_X2_countCentral : CalF yX2_countCentral cX2_countCentral 5 (some .int) 0 := ⟨tb4 (List.mem_of_getElem? (i := 141) rfl) rfl, tb1 (List.mem_of_getElem? (i := 3) rfl) rfl, by decide +kernel, by decide +kernel, by decide +kernel⟩
theorem iv_X2_countCentral : Cond.instanceMethod yX2_countCentral ∈ wsA ∧ Cond.selects yX2_countCentral.cls yX2_countCentral yX2_countCentral ∈ wsA := ⟨tb4 (List.mem_of_getElem? (i := 139) rfl) rfl, tb4 (List.mem_of_getElem? (i := 140) rfl) rfl⟩
theorem cf_X2_countHolding : CalF yX2_countHolding cX2_countHolding 9 (some .int) 1 := ⟨tb5 (List.mem_of_getElem? (i := 102) rfl) rfl, tb1 (List.mem_of_getElem? (i := 3) rfl) rfl, by decide +kernel, by decide +kernel, by decide +kernel⟩
theorem iv_X2_countHolding : Cond.instanceMethod yX2_countHolding ∈ wsA ∧ Cond.selects yX2_countHolding.cls yX2_countHolding yX2_countHolding ∈ wsA := ⟨tb5 (List.mem_of_getElem? (i := 100) rfl) rfl, tb5 (List.mem_of_getElem? (i := 101) rfl) rfl⟩
theorem cf_X2_countInBoth : CalF yX2_countInBoth cX2_countInBoth 8 (some .int) 2 := ⟨tb5 (List.mem_of_getElem? (i := 54) rfl) rfl, tb1 (List.mem_of_getElem? (i := 3) rfl) rfl, by decide +kernel, by decide +kernel, by decide +kernel⟩
theorem iv_X2_countInBoth : Cond.instanceMethod yX2_countInBoth ∈ wsA ∧ Cond.selects yX2_countInBoth.cls yX2_countInBoth yX2_countInBoth ∈ wsA := ⟨tb5 (List.mem_of_getElem? (i := 52) rfl) rfl, tb5 (List.mem_of_getElem? (i := 53) rfl) rfl⟩
theorem cf_X2_countOrbits : CalF yX2_countOrbits cX2_countOrbits 4 (some .int) 0 := ⟨tb3 (List.mem_of_getElem? (i := 126) rfl) rfl, tb1 (List.mem_of_getElem? (i := 3) rfl) rfl, by decide +kernel, by decide +kernel, by decide +kernel⟩
theorem iv_X2_countOrbits : Cond.instanceMethod yX2_countOrbits ∈ wsA ∧ Cond.selects yX2_countOrbits.cls yX2_countOrbits yX2_countOrbits ∈ wsA := ⟨tb3 (List.mem_of_getElem? (i := 124) rfl) rfl, tb3 (List.mem_of_getElem? (i := 125) rfl) rfl⟩
theorem cf_X2_descentBy : CalF yX2_descentBy cX2_descentBy 3 (some (.object "MoveGroups$Descent")) 1 := ⟨tb4 (List.mem_of_getElem? (i := 187) rfl) rfl, tb1 (List.mem_of_getElem? (i := 3) rfl) rfl, by decide +kernel, by decide +kernel, by decide +kernel⟩
theorem iv_X2_descentBy : Cond.instanceMethod yX2_descentBy ∈ wsA ∧ Cond.selects yX2_descentBy.cls yX2_descentBy yX2_descentBy ∈ wsA := ⟨tb4 (List.mem_of_getElem? (i := 185) rfl) rfl, tb4 (List.mem_of_getElem? (i := 186) rfl) rfl⟩
theorem cf_X2_everyMove : CalF yX2_everyMove cX2_everyMove 1 (some .int) 0 := ⟨tb2 (List.mem_of_getElem? (i := 188) rfl) rfl, tb1 (List.mem_of_getElem? (i := 3) rfl) rfl, by decide +kernel, by decide +kernel, by decide +kernel⟩
theorem iv_X2_everyMove : Cond.instanceMethod yX2_everyMove ∈ wsA ∧ Cond.selects yX2_everyMove.cls yX2_everyMove yX2_everyMove ∈ wsA := ⟨tb2 (List.mem_of_getElem? (i := 187) rfl) rfl, pv2 (List.mem_of_getElem? (i := 2) rfl) rfl⟩
theorem cf_X2_fewestMoves : CalF yX2_fewestMoves cX2_fewestMoves 6 (some .int) 1 := ⟨tb5 (List.mem_of_getElem? (i := 89) rfl) rfl, tb1 (List.mem_of_getElem? (i := 3) rfl) rfl, by decide +kernel, by decide +kernel, by decide +kernel⟩
theorem iv_X2_fewestMoves : Cond.instanceMethod yX2_fewestMoves ∈ wsA ∧ Cond.selects yX2_fewestMoves.cls yX2_fewestMoves yX2_fewestMoves ∈ wsA := ⟨tb5 (List.mem_of_getElem? (i := 87) rfl) rfl, tb5 (List.mem_of_getElem? (i := 88) rfl) rfl⟩
theorem cf_X2_findOut : CalF yX2_findOut cX2_findOut 2 none 0 := ⟨tb2 (List.mem_of_getElem? (i := 184) rfl) rfl, tb1 (List.mem_of_getElem? (i := 3) rfl) rfl, by decide +kernel, by decide +kernel, by decide +kernel⟩
theorem iv_X2_findOut : Cond.instanceMethod yX2_findOut ∈ wsA ∧ Cond.selects yX2_findOut.cls yX2_findOut yX2_findOut ∈ wsA := ⟨tb2 (List.mem_of_getElem? (i := 183) rfl) rfl, pv2 (List.mem_of_getElem? (i := 1) rfl) rfl⟩
theorem cf_X2_hasJust : CalF yX2_hasJust cX2_hasJust 4 (some .boolean) 2 := ⟨tb6 (List.mem_of_getElem? (i := 21) rfl) rfl, tb1 (List.mem_of_getElem? (i := 3) rfl) rfl, by decide +kernel, by decide +kernel, by decide +kernel⟩
theorem iv_X2_hasJust : Cond.instanceMethod yX2_hasJust ∈ wsA ∧ Cond.selects yX2_hasJust.cls yX2_hasJust yX2_hasJust ∈ wsA := ⟨tb6 (List.mem_of_getElem? (i := 19) rfl) rfl, tb6 (List.mem_of_getElem? (i := 20) rfl) rfl⟩
theorem cf_X2_hasMoves : CalF yX2_hasMoves cX2_hasMoves 2 (some .boolean) 1 := ⟨tb5 (List.mem_of_getElem? (i := 42) rfl) rfl, tb1 (List.mem_of_getElem? (i := 3) rfl) rfl, by decide +kernel, by decide +kernel, by decide +kernel⟩
theorem iv_X2_hasMoves : Cond.instanceMethod yX2_hasMoves ∈ wsA ∧ Cond.selects yX2_hasMoves.cls yX2_hasMoves yX2_hasMoves ∈ wsA := ⟨tb5 (List.mem_of_getElem? (i := 40) rfl) rfl, tb5 (List.mem_of_getElem? (i := 41) rfl) rfl⟩
theorem cf_X2_hasPoint : CalF yX2_hasPoint cX2_hasPoint 2 (some .boolean) 1 := ⟨tb3 (List.mem_of_getElem? (i := 54) rfl) rfl, tb1 (List.mem_of_getElem? (i := 3) rfl) rfl, by decide +kernel, by decide +kernel, by decide +kernel⟩
theorem iv_X2_hasPoint : Cond.instanceMethod yX2_hasPoint ∈ wsA ∧ Cond.selects yX2_hasPoint.cls yX2_hasPoint yX2_hasPoint ∈ wsA := ⟨tb3 (List.mem_of_getElem? (i := 52) rfl) rfl, tb3 (List.mem_of_getElem? (i := 53) rfl) rfl⟩
theorem cf_X2_hasSet : CalF yX2_hasSet cX2_hasSet 2 (some .boolean) 1 := ⟨tb5 (List.mem_of_getElem? (i := 98) rfl) rfl, tb1 (List.mem_of_getElem? (i := 3) rfl) rfl, by decide +kernel, by decide +kernel, by decide +kernel⟩
theorem iv_X2_hasSet : Cond.instanceMethod yX2_hasSet ∈ wsA ∧ Cond.selects yX2_hasSet.cls yX2_hasSet yX2_hasSet ∈ wsA := ⟨tb5 (List.mem_of_getElem? (i := 96) rfl) rfl, tb5 (List.mem_of_getElem? (i := 97) rfl) rfl⟩
theorem cf_X2_hasStep : CalF yX2_hasStep cX2_hasStep 2 (some .boolean) 1 := ⟨tb3 (List.mem_of_getElem? (i := 21) rfl) rfl, tb1 (List.mem_of_getElem? (i := 3) rfl) rfl, by decide +kernel, by decide +kernel, by decide +kernel⟩
theorem iv_X2_hasStep : Cond.instanceMethod yX2_hasStep ∈ wsA ∧ Cond.selects yX2_hasStep.cls yX2_hasStep yX2_hasStep ∈ wsA := ⟨tb3 (List.mem_of_getElem? (i := 19) rfl) rfl, tb3 (List.mem_of_getElem? (i := 20) rfl) rfl⟩
theorem cf_X2_imagesOf : CalF yX2_imagesOf cX2_imagesOf 6 (some .int) 2 := ⟨tb3 (List.mem_of_getElem? (i := 117) rfl) rfl, tb1 (List.mem_of_getElem? (i := 3) rfl) rfl, by decide +kernel, by decide +kernel, by decide +kernel⟩
theorem iv_X2_imagesOf : Cond.instanceMethod yX2_imagesOf ∈ wsA ∧ Cond.selects yX2_imagesOf.cls yX2_imagesOf yX2_imagesOf ∈ wsA := ⟨tb3 (List.mem_of_getElem? (i := 116) rfl) rfl, pv2 (List.mem_of_getElem? (i := 12) rfl) rfl⟩
theorem cf_X2_isPrimitive : CalF yX2_isPrimitive cX2_isPrimitive 3 (some .boolean) 0 := ⟨tb5 (List.mem_of_getElem? (i := 4) rfl) rfl, tb1 (List.mem_of_getElem? (i := 3) rfl) rfl, by decide +kernel, by decide +kernel, by decide +kernel⟩
theorem iv_X2_isPrimitive : Cond.instanceMethod yX2_isPrimitive ∈ wsA ∧ Cond.selects yX2_isPrimitive.cls yX2_isPrimitive yX2_isPrimitive ∈ wsA := ⟨tb5 (List.mem_of_getElem? (i := 2) rfl) rfl, tb5 (List.mem_of_getElem? (i := 3) rfl) rfl⟩
theorem cf_X2_lose : CalF yX2_lose cX2_lose 3 none 1 := ⟨tb6 (List.mem_of_getElem? (i := 9) rfl) rfl, tb1 (List.mem_of_getElem? (i := 3) rfl) rfl, by decide +kernel, by decide +kernel, by decide +kernel⟩
theorem iv_X2_lose : Cond.instanceMethod yX2_lose ∈ wsA ∧ Cond.selects yX2_lose.cls yX2_lose yX2_lose ∈ wsA := ⟨tb6 (List.mem_of_getElem? (i := 7) rfl) rfl, tb6 (List.mem_of_getElem? (i := 8) rfl) rfl⟩
theorem cf_X2_measured : CalF yX2_measured cX2_measured 2 (some (.object "MoveGroups$Roster")) 0 := ⟨tb3 (List.mem_of_getElem? (i := 225) rfl) rfl, tb1 (List.mem_of_getElem? (i := 3) rfl) rfl, by decide +kernel, by decide +kernel, by decide +kernel⟩
theorem iv_X2_measured : Cond.instanceMethod yX2_measured ∈ wsA ∧ Cond.selects yX2_measured.cls yX2_measured yX2_measured ∈ wsA := ⟨tb3 (List.mem_of_getElem? (i := 223) rfl) rfl, tb3 (List.mem_of_getElem? (i := 224) rfl) rfl⟩
theorem cf_X2_movesAreEven : CalF yX2_movesAreEven cX2_movesAreEven 2 (some .boolean) 0 := ⟨tb4 (List.mem_of_getElem? (i := 239) rfl) rfl, tb1 (List.mem_of_getElem? (i := 3) rfl) rfl, by decide +kernel, by decide +kernel, by decide +kernel⟩
theorem iv_X2_movesAreEven : Cond.instanceMethod yX2_movesAreEven ∈ wsA ∧ Cond.selects yX2_movesAreEven.cls yX2_movesAreEven yX2_movesAreEven ∈ wsA := ⟨tb4 (List.mem_of_getElem? (i := 237) rfl) rfl, tb4 (List.mem_of_getElem? (i := 238) rfl) rfl⟩
theorem cf_X2_movesCommute : CalF yX2_movesCommute cX2_movesCommute 3 (some .boolean) 0 := ⟨tb4 (List.mem_of_getElem? (i := 229) rfl) rfl, tb1 (List.mem_of_getElem? (i := 3) rfl) rfl, by decide +kernel, by decide +kernel, by decide +kernel⟩
theorem iv_X2_movesCommute : Cond.instanceMethod yX2_movesCommute ∈ wsA ∧ Cond.selects yX2_movesCommute.cls yX2_movesCommute yX2_movesCommute ∈ wsA := ⟨tb4 (List.mem_of_getElem? (i := 227) rfl) rfl, tb4 (List.mem_of_getElem? (i := 228) rfl) rfl⟩
theorem cf_X2_reachedFrom : CalF yX2_reachedFrom cX2_reachedFrom 6 (some .int) 1 := ⟨tb3 (List.mem_of_getElem? (i := 113) rfl) rfl, tb1 (List.mem_of_getElem? (i := 3) rfl) rfl, by decide +kernel, by decide +kernel, by decide +kernel⟩
theorem iv_X2_reachedFrom : Cond.instanceMethod yX2_reachedFrom ∈ wsA ∧ Cond.selects yX2_reachedFrom.cls yX2_reachedFrom yX2_reachedFrom ∈ wsA := ⟨tb3 (List.mem_of_getElem? (i := 111) rfl) rfl, tb3 (List.mem_of_getElem? (i := 112) rfl) rfl⟩
theorem cf_X2_replaceMark : CalF yX2_replaceMark cX2_replaceMark 4 none 2 := ⟨tb5 (List.mem_of_getElem? (i := 16) rfl) rfl, tb1 (List.mem_of_getElem? (i := 3) rfl) rfl, by decide +kernel, by decide +kernel, by decide +kernel⟩
theorem iv_X2_replaceMark : Cond.instanceMethod yX2_replaceMark ∈ wsA ∧ Cond.selects yX2_replaceMark.cls yX2_replaceMark yX2_replaceMark ∈ wsA := ⟨tb5 (List.mem_of_getElem? (i := 15) rfl) rfl, pv3 (List.mem_of_getElem? (i := 8) rfl) rfl⟩
theorem cf_X2_shaped : CalF yX2_shaped cX2_shaped 2 (some (.object "MoveGroups$Roster")) 0 := ⟨tb5 (List.mem_of_getElem? (i := 148) rfl) rfl, tb1 (List.mem_of_getElem? (i := 3) rfl) rfl, by decide +kernel, by decide +kernel, by decide +kernel⟩
theorem iv_X2_shaped : Cond.instanceMethod yX2_shaped ∈ wsA ∧ Cond.selects yX2_shaped.cls yX2_shaped yX2_shaped ∈ wsA := ⟨tb5 (List.mem_of_getElem? (i := 146) rfl) rfl, tb5 (List.mem_of_getElem? (i := 147) rfl) rfl⟩
theorem cf_X2_size : CalF yX2_size cX2_size 1 (some .int) 0 := ⟨tb3 (List.mem_of_getElem? (i := 161) rfl) rfl, tb1 (List.mem_of_getElem? (i := 3) rfl) rfl, by decide +kernel, by decide +kernel, by decide +kernel⟩
theorem iv_X2_size : Cond.instanceMethod yX2_size ∈ wsA ∧ Cond.selects yX2_size.cls yX2_size yX2_size ∈ wsA := ⟨tb3 (List.mem_of_getElem? (i := 159) rfl) rfl, tb3 (List.mem_of_getElem? (i := 160) rfl) rfl⟩
theorem cf_X2_sizeBy : CalF yX2_sizeBy cX2_sizeBy 3 (some .int) 1 := ⟨tb5 (List.mem_of_getElem? (i := 46) rfl) rfl, tb1 (List.mem_of_getElem? (i := 3) rfl) rfl, by decide +kernel, by decide +kernel, by decide +kernel⟩
theorem iv_X2_sizeBy : Cond.instanceMethod yX2_sizeBy ∈ wsA ∧ Cond.selects yX2_sizeBy.cls yX2_sizeBy yX2_sizeBy ∈ wsA := ⟨tb5 (List.mem_of_getElem? (i := 44) rfl) rfl, tb5 (List.mem_of_getElem? (i := 45) rfl) rfl⟩
theorem cf_X2_sorted : CalF yX2_sorted cX2_sorted 2 (some (.object "MoveGroups$Roster")) 0 := ⟨tb4 (List.mem_of_getElem? (i := 160) rfl) rfl, tb1 (List.mem_of_getElem? (i := 3) rfl) rfl, by decide +kernel, by decide +kernel, by decide +kernel⟩
theorem iv_X2_sorted : Cond.instanceMethod yX2_sorted ∈ wsA ∧ Cond.selects yX2_sorted.cls yX2_sorted yX2_sorted ∈ wsA := ⟨tb4 (List.mem_of_getElem? (i := 158) rfl) rfl, tb4 (List.mem_of_getElem? (i := 159) rfl) rfl⟩
theorem cf_X2_spareMoves : CalF yX2_spareMoves cX2_spareMoves 3 (some .int) 0 := ⟨tb5 (List.mem_of_getElem? (i := 79) rfl) rfl, tb1 (List.mem_of_getElem? (i := 3) rfl) rfl, by decide +kernel, by decide +kernel, by decide +kernel⟩
theorem iv_X2_spareMoves : Cond.instanceMethod yX2_spareMoves ∈ wsA ∧ Cond.selects yX2_spareMoves.cls yX2_spareMoves yX2_spareMoves ∈ wsA := ⟨tb5 (List.mem_of_getElem? (i := 77) rfl) rfl, tb5 (List.mem_of_getElem? (i := 78) rfl) rfl⟩
theorem cf_X2_spreadMarks : CalF yX2_spreadMarks cX2_spreadMarks 8 (some .boolean) 1 := ⟨tb5 (List.mem_of_getElem? (i := 12) rfl) rfl, tb1 (List.mem_of_getElem? (i := 3) rfl) rfl, by decide +kernel, by decide +kernel, by decide +kernel⟩
theorem iv_X2_spreadMarks : Cond.instanceMethod yX2_spreadMarks ∈ wsA ∧ Cond.selects yX2_spreadMarks.cls yX2_spreadMarks yX2_spreadMarks ∈ wsA := ⟨tb5 (List.mem_of_getElem? (i := 11) rfl) rfl, pv3 (List.mem_of_getElem? (i := 7) rfl) rfl⟩
theorem cf_X2_staysTurned : CalF yX2_staysTurned cX2_staysTurned 4 (some .boolean) 1 := ⟨tb5 (List.mem_of_getElem? (i := 68) rfl) rfl, tb1 (List.mem_of_getElem? (i := 3) rfl) rfl, by decide +kernel, by decide +kernel, by decide +kernel⟩
theorem iv_X2_staysTurned : Cond.instanceMethod yX2_staysTurned ∈ wsA ∧ Cond.selects yX2_staysTurned.cls yX2_staysTurned yX2_staysTurned ∈ wsA := ⟨tb5 (List.mem_of_getElem? (i := 66) rfl) rfl, tb5 (List.mem_of_getElem? (i := 67) rfl) rfl⟩
theorem cf_X2_take : CalF yX2_take cX2_take 3 none 1 := ⟨tb6 (List.mem_of_getElem? (i := 1) rfl) rfl, tb1 (List.mem_of_getElem? (i := 3) rfl) rfl, by decide +kernel, by decide +kernel, by decide +kernel⟩
theorem iv_X2_take : Cond.instanceMethod yX2_take ∈ wsA ∧ Cond.selects yX2_take.cls yX2_take yX2_take ∈ wsA := ⟨tb5 (List.mem_of_getElem? (i := 239) rfl) rfl, tb6 (List.mem_of_getElem? (i := 0) rfl) rfl⟩
theorem cf_X2_turnOf : CalF yX2_turnOf cX2_turnOf 4 (some .long) 1 := ⟨tb3 (List.mem_of_getElem? (i := 25) rfl) rfl, tb1 (List.mem_of_getElem? (i := 3) rfl) rfl, by decide +kernel, by decide +kernel, by decide +kernel⟩
theorem iv_X2_turnOf : Cond.instanceMethod yX2_turnOf ∈ wsA ∧ Cond.selects yX2_turnOf.cls yX2_turnOf yX2_turnOf ∈ wsA := ⟨tb3 (List.mem_of_getElem? (i := 23) rfl) rfl, tb3 (List.mem_of_getElem? (i := 24) rfl) rfl⟩
theorem cf_X3_init : CalF yX3_init cX3_init 1 none 0 := ⟨tb1 (List.mem_of_getElem? (i := 197) rfl) rfl, tb1 (List.mem_of_getElem? (i := 6) rfl) rfl, by decide +kernel, by decide +kernel, by decide +kernel⟩
theorem im_X3_init : Cond.instanceMethod yX3_init ∈ wsA := tb1 (List.mem_of_getElem? (i := 196) rfl) rfl
theorem cf_X3_forget : CalF yX3_forget cX3_forget 1 none 0 := ⟨tb2 (List.mem_of_getElem? (i := 237) rfl) rfl, tb1 (List.mem_of_getElem? (i := 6) rfl) rfl, by decide +kernel, by decide +kernel, by decide +kernel⟩
theorem iv_X3_forget : Cond.instanceMethod yX3_forget ∈ wsA ∧ Cond.selects yX3_forget.cls yX3_forget yX3_forget ∈ wsA := ⟨tb2 (List.mem_of_getElem? (i := 235) rfl) rfl, tb2 (List.mem_of_getElem? (i := 236) rfl) rfl⟩
theorem cf_X3_goBack : CalF yX3_goBack cX3_goBack 2 none 0 := ⟨tb6 (List.mem_of_getElem? (i := 17) rfl) rfl, tb1 (List.mem_of_getElem? (i := 6) rfl) rfl, by decide +kernel, by decide +kernel, by decide +kernel⟩
theorem iv_X3_goBack : Cond.instanceMethod yX3_goBack ∈ wsA ∧ Cond.selects yX3_goBack.cls yX3_goBack yX3_goBack ∈ wsA := ⟨tb6 (List.mem_of_getElem? (i := 15) rfl) rfl, tb6 (List.mem_of_getElem? (i := 16) rfl) rfl⟩
theorem cf_X3_keep : CalF yX3_keep cX3_keep 6 none 3 := ⟨tb5 (List.mem_of_getElem? (i := 213) rfl) rfl, tb1 (List.mem_of_getElem? (i := 6) rfl) rfl, by decide +kernel, by decide +kernel, by decide +kernel⟩
theorem iv_X3_keep : Cond.instanceMethod yX3_keep ∈ wsA ∧ Cond.selects yX3_keep.cls yX3_keep yX3_keep ∈ wsA := ⟨tb5 (List.mem_of_getElem? (i := 211) rfl) rfl, tb5 (List.mem_of_getElem? (i := 212) rfl) rfl⟩
theorem cf_X3_loseOldest : CalF yX3_loseOldest cX3_loseOldest 1 none 0 := ⟨tb5 (List.mem_of_getElem? (i := 217) rfl) rfl, tb1 (List.mem_of_getElem? (i := 6) rfl) rfl, by decide +kernel, by decide +kernel, by decide +kernel⟩
theorem iv_X3_loseOldest : Cond.instanceMethod yX3_loseOldest ∈ wsA ∧ Cond.selects yX3_loseOldest.cls yX3_loseOldest yX3_loseOldest ∈ wsA := ⟨tb5 (List.mem_of_getElem? (i := 216) rfl) rfl, pv3 (List.mem_of_getElem? (i := 11) rfl) rfl⟩
theorem cf_X4_init : CalF yX4_init cX4_init 2 none 1 := ⟨tb3 (List.mem_of_getElem? (i := 234) rfl) rfl, tb1 (List.mem_of_getElem? (i := 15) rfl) rfl, by decide +kernel, by decide +kernel, by decide +kernel⟩
theorem im_X4_init : Cond.instanceMethod yX4_init ∈ wsA := tb3 (List.mem_of_getElem? (i := 233) rfl) rfl
theorem cf_X4_countColourings : CalF yX4_countColourings cX4_countColourings 9 (some .long) 1 := ⟨tb5 (List.mem_of_getElem? (i := 166) rfl) rfl, tb1 (List.mem_of_getElem? (i := 15) rfl) rfl, by decide +kernel, by decide +kernel, by decide +kernel⟩
theorem iv_X4_countColourings : Cond.instanceMethod yX4_countColourings ∈ wsA ∧ Cond.selects yX4_countColourings.cls yX4_countColourings yX4_countColourings ∈ wsA := ⟨tb5 (List.mem_of_getElem? (i := 164) rfl) rfl, tb5 (List.mem_of_getElem? (i := 165) rfl) rfl⟩
theorem cf_X4_countDeep : CalF yX4_countDeep cX4_countDeep 4 (some .int) 1 := ⟨tb4 (List.mem_of_getElem? (i := 104) rfl) rfl, tb1 (List.mem_of_getElem? (i := 15) rfl) rfl, by decide +kernel, by decide +kernel, by decide +kernel⟩
theorem iv_X4_countDeep : Cond.instanceMethod yX4_countDeep ∈ wsA ∧ Cond.selects yX4_countDeep.cls yX4_countDeep yX4_countDeep ∈ wsA := ⟨tb4 (List.mem_of_getElem? (i := 102) rfl) rfl, tb4 (List.mem_of_getElem? (i := 103) rfl) rfl⟩
theorem cf_X4_countKeeping : CalF yX4_countKeeping cX4_countKeeping 4 (some .int) 1 := ⟨tb5 (List.mem_of_getElem? (i := 115) rfl) rfl, tb1 (List.mem_of_getElem? (i := 15) rfl) rfl, by decide +kernel, by decide +kernel, by decide +kernel⟩
theorem iv_X4_countKeeping : Cond.instanceMethod yX4_countKeeping ∈ wsA ∧ Cond.selects yX4_countKeeping.cls yX4_countKeeping yX4_countKeeping ∈ wsA := ⟨tb5 (List.mem_of_getElem? (i := 113) rfl) rfl, tb5 (List.mem_of_getElem? (i := 114) rfl) rfl⟩
theorem cf_X4_countKin : CalF yX4_countKin cX4_countKin 4 (some .int) 1 := ⟨tb4 (List.mem_of_getElem? (i := 179) rfl) rfl, tb1 (List.mem_of_getElem? (i := 15) rfl) rfl, by decide +kernel, by decide +kernel, by decide +kernel⟩
theorem iv_X4_countKin : Cond.instanceMethod yX4_countKin ∈ wsA ∧ Cond.selects yX4_countKin.cls yX4_countKin yX4_countKin ∈ wsA := ⟨tb4 (List.mem_of_getElem? (i := 177) rfl) rfl, tb4 (List.mem_of_getElem? (i := 178) rfl) rfl⟩
theorem cf_X4_countPeriod : CalF yX4_countPeriod cX4_countPeriod 4 (some .int) 1 := ⟨tb5 (List.mem_of_getElem? (i := 200) rfl) rfl, tb1 (List.mem_of_getElem? (i := 15) rfl) rfl, by decide +kernel, by decide +kernel, by decide +kernel⟩
theorem iv_X4_countPeriod : Cond.instanceMethod yX4_countPeriod ∈ wsA ∧ Cond.selects yX4_countPeriod.cls yX4_countPeriod yX4_countPeriod ∈ wsA := ⟨tb5 (List.mem_of_getElem? (i := 198) rfl) rfl, tb5 (List.mem_of_getElem? (i := 199) rfl) rfl⟩
theorem cf_X4_countShaped : CalF yX4_countShaped cX4_countShaped 5 (some .int) 1 := ⟨tb5 (List.mem_of_getElem? (i := 175) rfl) rfl, tb1 (List.mem_of_getElem? (i := 15) rfl) rfl, by decide +kernel, by decide +kernel, by decide +kernel⟩
theorem iv_X4_countShaped : Cond.instanceMethod yX4_countShaped ∈ wsA ∧ Cond.selects yX4_countShaped.cls yX4_countShaped yX4_countShaped ∈ wsA := ⟨tb5 (List.mem_of_getElem? (i := 173) rfl) rfl, tb5 (List.mem_of_getElem? (i := 174) rfl) rfl⟩
theorem cf_X4_countStaying : CalF yX4_countStaying cX4_countStaying 4 (some .int) 1 := ⟨tb5 (List.mem_of_getElem? (i := 157) rfl) rfl, tb1 (List.mem_of_getElem? (i := 15) rfl) rfl, by decide +kernel, by decide +kernel, by decide +kernel⟩
theorem iv_X4_countStaying : Cond.instanceMethod yX4_countStaying ∈ wsA ∧ Cond.selects yX4_countStaying.cls yX4_countStaying yX4_countStaying ∈ wsA := ⟨tb5 (List.mem_of_getElem? (i := 155) rfl) rfl, tb5 (List.mem_of_getElem? (i := 156) rfl) rfl⟩
theorem cf_X4_fewestMoved : CalF yX4_fewestMoved cX4_fewestMoved 4 (some .int) 0 := ⟨tb5 (List.mem_of_getElem? (i := 192) rfl) rfl, tb1 (List.mem_of_getElem? (i := 15) rfl) rfl, by decide +kernel, by decide +kernel, by decide +kernel⟩
theorem iv_X4_fewestMoved : Cond.instanceMethod yX4_fewestMoved ∈ wsA ∧ Cond.selects yX4_fewestMoved.cls yX4_fewestMoved yX4_fewestMoved ∈ wsA := ⟨tb5 (List.mem_of_getElem? (i := 190) rfl) rfl, tb5 (List.mem_of_getElem? (i := 191) rfl) rfl⟩
theorem cf_X4_fill : CalF yX4_fill cX4_fill 6 none 2 := ⟨tb4 (List.mem_of_getElem? (i := 61) rfl) rfl, tb1 (List.mem_of_getElem? (i := 15) rfl) rfl, by decide +kernel, by decide +kernel, by decide +kernel⟩
theorem iv_X4_fill : Cond.instanceMethod yX4_fill ∈ wsA ∧ Cond.selects yX4_fill.cls yX4_fill yX4_fill ∈ wsA := ⟨tb4 (List.mem_of_getElem? (i := 59) rfl) rfl, tb4 (List.mem_of_getElem? (i := 60) rfl) rfl⟩
theorem cf_X4_find : CalF yX4_find cX4_find 9 (some .int) 1 := ⟨tb4 (List.mem_of_getElem? (i := 87) rfl) rfl, tb1 (List.mem_of_getElem? (i := 15) rfl) rfl, by decide +kernel, by decide +kernel, by decide +kernel⟩
theorem iv_X4_find : Cond.instanceMethod yX4_find ∈ wsA ∧ Cond.selects yX4_find.cls yX4_find yX4_find ∈ wsA := ⟨tb4 (List.mem_of_getElem? (i := 85) rfl) rfl, tb4 (List.mem_of_getElem? (i := 86) rfl) rfl⟩
theorem cf_X4_firstBringing : CalF yX4_firstBringing cX4_firstBringing 4 (some .int) 2 := ⟨tb5 (List.mem_of_getElem? (i := 127) rfl) rfl, tb1 (List.mem_of_getElem? (i := 15) rfl) rfl, by decide +kernel, by decide +kernel, by decide +kernel⟩
theorem iv_X4_firstBringing : Cond.instanceMethod yX4_firstBringing ∈ wsA ∧ Cond.selects yX4_firstBringing.cls yX4_firstBringing yX4_firstBringing ∈ wsA := ⟨tb5 (List.mem_of_getElem? (i := 125) rfl) rfl, tb5 (List.mem_of_getElem? (i := 126) rfl) rfl⟩
theorem cf_X4_firstDeep : CalF yX4_firstDeep cX4_firstDeep 3 (some .int) 1 := ⟨tb4 (List.mem_of_getElem? (i := 112) rfl) rfl, tb1 (List.mem_of_getElem? (i := 15) rfl) rfl, by decide +kernel, by decide +kernel, by decide +kernel⟩
theorem iv_X4_firstDeep : Cond.instanceMethod yX4_firstDeep ∈ wsA ∧ Cond.selects yX4_firstDeep.cls yX4_firstDeep yX4_firstDeep ∈ wsA := ⟨tb4 (List.mem_of_getElem? (i := 110) rfl) rfl, tb4 (List.mem_of_getElem? (i := 111) rfl) rfl⟩
theorem cf_X4_firstRoot : CalF yX4_firstRoot cX4_firstRoot 7 (some .int) 2 := ⟨tb5 (List.mem_of_getElem? (i := 183) rfl) rfl, tb1 (List.mem_of_getElem? (i := 15) rfl) rfl, by decide +kernel, by decide +kernel, by decide +kernel⟩
theorem iv_X4_firstRoot : Cond.instanceMethod yX4_firstRoot ∈ wsA ∧ Cond.selects yX4_firstRoot.cls yX4_firstRoot yX4_firstRoot ∈ wsA := ⟨tb5 (List.mem_of_getElem? (i := 181) rfl) rfl, tb5 (List.mem_of_getElem? (i := 182) rfl) rfl⟩
theorem cf_X4_followMove : CalF yX4_followMove cX4_followMove 7 none 3 := ⟨tb4 (List.mem_of_getElem? (i := 83) rfl) rfl, tb1 (List.mem_of_getElem? (i := 15) rfl) rfl, by decide +kernel, by decide +kernel, by decide +kernel⟩
theorem iv_X4_followMove : Cond.instanceMethod yX4_followMove ∈ wsA ∧ Cond.selects yX4_followMove.cls yX4_followMove yX4_followMove ∈ wsA := ⟨tb4 (List.mem_of_getElem? (i := 82) rfl) rfl, pv3 (List.mem_of_getElem? (i := 2) rfl) rfl⟩
theorem cf_X4_gatherKin : CalF yX4_gatherKin cX4_gatherKin 8 none 3 := ⟨tb4 (List.mem_of_getElem? (i := 168) rfl) rfl, tb1 (List.mem_of_getElem? (i := 15) rfl) rfl, by decide +kernel, by decide +kernel, by decide +kernel⟩
theorem iv_X4_gatherKin : Cond.instanceMethod yX4_gatherKin ∈ wsA ∧ Cond.selects yX4_gatherKin.cls yX4_gatherKin yX4_gatherKin ∈ wsA := ⟨tb4 (List.mem_of_getElem? (i := 167) rfl) rfl, pv3 (List.mem_of_getElem? (i := 4) rfl) rfl⟩
theorem cf_X4_measure : CalF yX4_measure cX4_measure 5 none 2 := ⟨tb4 (List.mem_of_getElem? (i := 79) rfl) rfl, tb1 (List.mem_of_getElem? (i := 15) rfl) rfl, by decide +kernel, by decide +kernel, by decide +kernel⟩
theorem iv_X4_measure : Cond.instanceMethod yX4_measure ∈ wsA ∧ Cond.selects yX4_measure.cls yX4_measure yX4_measure ∈ wsA := ⟨tb4 (List.mem_of_getElem? (i := 77) rfl) rfl, tb4 (List.mem_of_getElem? (i := 78) rfl) rfl⟩
theorem cf_X4_nextCentral : CalF yX4_nextCentral cX4_nextCentral 7 (some .int) 3 := ⟨tb4 (List.mem_of_getElem? (i := 145) rfl) rfl, tb1 (List.mem_of_getElem? (i := 15) rfl) rfl, by decide +kernel, by decide +kernel, by decide +kernel⟩
theorem iv_X4_nextCentral : Cond.instanceMethod yX4_nextCentral ∈ wsA ∧ Cond.selects yX4_nextCentral.cls yX4_nextCentral yX4_nextCentral ∈ wsA := ⟨tb4 (List.mem_of_getElem? (i := 143) rfl) rfl, tb4 (List.mem_of_getElem? (i := 144) rfl) rfl⟩
theorem cf_X4_reachFrom : CalF yX4_reachFrom cX4_reachFrom 6 (some .int) 2 := ⟨tb4 (List.mem_of_getElem? (i := 91) rfl) rfl, tb1 (List.mem_of_getElem? (i := 15) rfl) rfl, by decide +kernel, by decide +kernel, by decide +kernel⟩
theorem iv_X4_reachFrom : Cond.instanceMethod yX4_reachFrom ∈ wsA ∧ Cond.selects yX4_reachFrom.cls yX4_reachFrom yX4_reachFrom ∈ wsA := ⟨tb4 (List.mem_of_getElem? (i := 90) rfl) rfl, pv3 (List.mem_of_getElem? (i := 3) rfl) rfl⟩
theorem cf_X4_shapeAll : CalF yX4_shapeAll cX4_shapeAll 2 none 0 := ⟨tb5 (List.mem_of_getElem? (i := 152) rfl) rfl, tb1 (List.mem_of_getElem? (i := 15) rfl) rfl, by decide +kernel, by decide +kernel, by decide +kernel⟩
theorem iv_X4_shapeAll : Cond.instanceMethod yX4_shapeAll ∈ wsA ∧ Cond.selects yX4_shapeAll.cls yX4_shapeAll yX4_shapeAll ∈ wsA := ⟨tb5 (List.mem_of_getElem? (i := 150) rfl) rfl, tb5 (List.mem_of_getElem? (i := 151) rfl) rfl⟩
theorem cf_X4_sort : CalF yX4_sort cX4_sort 4 none 2 := ⟨tb4 (List.mem_of_getElem? (i := 164) rfl) rfl, tb1 (List.mem_of_getElem? (i := 15) rfl) rfl, by decide +kernel, by decide +kernel, by decide +kernel⟩
theorem iv_X4_sort : Cond.instanceMethod yX4_sort ∈ wsA ∧ Cond.selects yX4_sort.cls yX4_sort yX4_sort ∈ wsA := ⟨tb4 (List.mem_of_getElem? (i := 162) rfl) rfl, tb4 (List.mem_of_getElem? (i := 163) rfl) rfl⟩
theorem cf_X4_stepOfWay : CalF yX4_stepOfWay cX4_stepOfWay 5 (some .int) 2 := ⟨tb4 (List.mem_of_getElem? (i := 96) rfl) rfl, tb1 (List.mem_of_getElem? (i := 15) rfl) rfl, by decide +kernel, by decide +kernel, by decide +kernel⟩
theorem iv_X4_stepOfWay : Cond.instanceMethod yX4_stepOfWay ∈ wsA ∧ Cond.selects yX4_stepOfWay.cls yX4_stepOfWay yX4_stepOfWay ∈ wsA := ⟨tb4 (List.mem_of_getElem? (i := 94) rfl) rfl, tb4 (List.mem_of_getElem? (i := 95) rfl) rfl⟩
theorem cf_X4_stepsCloser : CalF yX4_stepsCloser cX4_stepsCloser 4 (some .int) 1 := ⟨tb4 (List.mem_of_getElem? (i := 129) rfl) rfl, tb1 (List.mem_of_getElem? (i := 15) rfl) rfl, by decide +kernel, by decide +kernel, by decide +kernel⟩
theorem iv_X4_stepsCloser : Cond.instanceMethod yX4_stepsCloser ∈ wsA ∧ Cond.selects yX4_stepsCloser.cls yX4_stepsCloser yX4_stepsCloser ∈ wsA := ⟨tb4 (List.mem_of_getElem? (i := 127) rfl) rfl, tb4 (List.mem_of_getElem? (i := 128) rfl) rfl⟩
theorem cf_X4_sumOfDepths : CalF yX4_sumOfDepths cX4_sumOfDepths 3 (some .int) 0 := ⟨tb4 (List.mem_of_getElem? (i := 120) rfl) rfl, tb1 (List.mem_of_getElem? (i := 15) rfl) rfl, by decide +kernel, by decide +kernel, by decide +kernel⟩
theorem iv_X4_sumOfDepths : Cond.instanceMethod yX4_sumOfDepths ∈ wsA ∧ Cond.selects yX4_sumOfDepths.cls yX4_sumOfDepths yX4_sumOfDepths ∈ wsA := ⟨tb4 (List.mem_of_getElem? (i := 118) rfl) rfl, tb4 (List.mem_of_getElem? (i := 119) rfl) rfl⟩
theorem cf_X4_takesInto : CalF yX4_takesInto cX4_takesInto 6 (some .boolean) 3 := ⟨tb5 (List.mem_of_getElem? (i := 119) rfl) rfl, tb1 (List.mem_of_getElem? (i := 15) rfl) rfl, by decide +kernel, by decide +kernel, by decide +kernel⟩
theorem iv_X4_takesInto : Cond.instanceMethod yX4_takesInto ∈ wsA ∧ Cond.selects yX4_takesInto.cls yX4_takesInto yX4_takesInto ∈ wsA := ⟨tb5 (List.mem_of_getElem? (i := 118) rfl) rfl, pv3 (List.mem_of_getElem? (i := 9) rfl) rfl⟩
theorem cf_X4_turnAt : CalF yX4_turnAt cX4_turnAt 2 (some .long) 1 := ⟨tb5 (List.mem_of_getElem? (i := 58) rfl) rfl, tb1 (List.mem_of_getElem? (i := 15) rfl) rfl, by decide +kernel, by decide +kernel, by decide +kernel⟩
theorem iv_X4_turnAt : Cond.instanceMethod yX4_turnAt ∈ wsA ∧ Cond.selects yX4_turnAt.cls yX4_turnAt yX4_turnAt ∈ wsA := ⟨tb5 (List.mem_of_getElem? (i := 56) rfl) rfl, tb5 (List.mem_of_getElem? (i := 57) rfl) rfl⟩
theorem cf_X4_widen : CalF yX4_widen cX4_widen 13 none 4 := ⟨tb4 (List.mem_of_getElem? (i := 68) rfl) rfl, tb1 (List.mem_of_getElem? (i := 15) rfl) rfl, by decide +kernel, by decide +kernel, by decide +kernel⟩
theorem iv_X4_widen : Cond.instanceMethod yX4_widen ∈ wsA ∧ Cond.selects yX4_widen.cls yX4_widen yX4_widen ∈ wsA := ⟨tb4 (List.mem_of_getElem? (i := 67) rfl) rfl, pv3 (List.mem_of_getElem? (i := 1) rfl) rfl⟩
theorem cf_X5_init : CalF yX5_init cX5_init 1 none 0 := ⟨tb1 (List.mem_of_getElem? (i := 29) rfl) rfl, tb1 (List.mem_of_getElem? (i := 2) rfl) rfl, by decide +kernel, by decide +kernel, by decide +kernel⟩
theorem im_X5_init : Cond.instanceMethod yX5_init ∈ wsA := tb1 (List.mem_of_getElem? (i := 28) rfl) rfl
theorem cf_X5_append : CalF yX5_append cX5_append 3 none 1 := ⟨tb2 (List.mem_of_getElem? (i := 22) rfl) rfl, tb1 (List.mem_of_getElem? (i := 2) rfl) rfl, by decide +kernel, by decide +kernel, by decide +kernel⟩
theorem iv_X5_append : Cond.instanceMethod yX5_append ∈ wsA ∧ Cond.selects yX5_append.cls yX5_append yX5_append ∈ wsA := ⟨tb2 (List.mem_of_getElem? (i := 20) rfl) rfl, tb2 (List.mem_of_getElem? (i := 21) rfl) rfl⟩
theorem cf_X5_fail : CalF yX5_fail cX5_fail 2 (some .boolean) 1 := ⟨tb2 (List.mem_of_getElem? (i := 66) rfl) rfl, tb1 (List.mem_of_getElem? (i := 2) rfl) rfl, by decide +kernel, by decide +kernel, by decide +kernel⟩
theorem iv_X5_fail : Cond.instanceMethod yX5_fail ∈ wsA ∧ Cond.selects yX5_fail.cls yX5_fail yX5_fail ∈ wsA := ⟨tb2 (List.mem_of_getElem? (i := 65) rfl) rfl, pv1 (List.mem_of_getElem? (i := 5) rfl) rfl⟩
theorem cf_X5_hasRoom : CalF yX5_hasRoom cX5_hasRoom 2 (some .boolean) 1 := ⟨tb2 (List.mem_of_getElem? (i := 18) rfl) rfl, tb1 (List.mem_of_getElem? (i := 2) rfl) rfl, by decide +kernel, by decide +kernel, by decide +kernel⟩
theorem iv_X5_hasRoom : Cond.instanceMethod yX5_hasRoom ∈ wsA ∧ Cond.selects yX5_hasRoom.cls yX5_hasRoom yX5_hasRoom ∈ wsA := ⟨tb2 (List.mem_of_getElem? (i := 16) rfl) rfl, tb2 (List.mem_of_getElem? (i := 17) rfl) rfl⟩
theorem cf_X5_isDigit : CalF yX5_isDigit cX5_isDigit 1 (some .boolean) 1 := ⟨tb2 (List.mem_of_getElem? (i := 47) rfl) rfl, tb1 (List.mem_of_getElem? (i := 2) rfl) rfl, by decide +kernel, by decide +kernel, by decide +kernel⟩
theorem st_X5_isDigit : Cond.static yX5_isDigit ∈ wsA := tb2 (List.mem_of_getElem? (i := 46) rfl) rfl
theorem cf_X5_isLetter : CalF yX5_isLetter cX5_isLetter 1 (some .boolean) 1 := ⟨tb2 (List.mem_of_getElem? (i := 44) rfl) rfl, tb1 (List.mem_of_getElem? (i := 2) rfl) rfl, by decide +kernel, by decide +kernel, by decide +kernel⟩
theorem st_X5_isLetter : Cond.static yX5_isLetter ∈ wsA := tb2 (List.mem_of_getElem? (i := 43) rfl) rfl
theorem cf_X5_isSameAt : CalF yX5_isSameAt cX5_isSameAt 3 (some .boolean) 1 := ⟨tb2 (List.mem_of_getElem? (i := 141) rfl) rfl, tb1 (List.mem_of_getElem? (i := 2) rfl) rfl, by decide +kernel, by decide +kernel, by decide +kernel⟩
theorem iv_X5_isSameAt : Cond.instanceMethod yX5_isSameAt ∈ wsA ∧ Cond.selects yX5_isSameAt.cls yX5_isSameAt yX5_isSameAt ∈ wsA := ⟨tb2 (List.mem_of_getElem? (i := 140) rfl) rfl, pv1 (List.mem_of_getElem? (i := 11) rfl) rfl⟩
theorem cf_X5_isSign : CalF yX5_isSign cX5_isSign 1 (some .boolean) 1 := ⟨tb2 (List.mem_of_getElem? (i := 54) rfl) rfl, tb1 (List.mem_of_getElem? (i := 2) rfl) rfl, by decide +kernel, by decide +kernel, by decide +kernel⟩
theorem st_X5_isSign : Cond.static yX5_isSign ∈ wsA := tb2 (List.mem_of_getElem? (i := 53) rfl) rfl
theorem cf_X5_named : CalF yX5_named cX5_named 2 (some .int) 0 := ⟨tb2 (List.mem_of_getElem? (i := 137) rfl) rfl, tb1 (List.mem_of_getElem? (i := 2) rfl) rfl, by decide +kernel, by decide +kernel, by decide +kernel⟩
theorem iv_X5_named : Cond.instanceMethod yX5_named ∈ wsA ∧ Cond.selects yX5_named.cls yX5_named yX5_named ∈ wsA := ⟨tb2 (List.mem_of_getElem? (i := 136) rfl) rfl, pv1 (List.mem_of_getElem? (i := 10) rfl) rfl⟩
theorem cf_X5_need : CalF yX5_need cX5_need 2 (some .boolean) 1 := ⟨tb2 (List.mem_of_getElem? (i := 62) rfl) rfl, tb1 (List.mem_of_getElem? (i := 2) rfl) rfl, by decide +kernel, by decide +kernel, by decide +kernel⟩
theorem iv_X5_need : Cond.instanceMethod yX5_need ∈ wsA ∧ Cond.selects yX5_need.cls yX5_need yX5_need ∈ wsA := ⟨tb2 (List.mem_of_getElem? (i := 61) rfl) rfl, pv1 (List.mem_of_getElem? (i := 4) rfl) rfl⟩
theorem cf_X5_needName : CalF yX5_needName cX5_needName 1 (some .boolean) 0 := ⟨tb2 (List.mem_of_getElem? (i := 133) rfl) rfl, tb1 (List.mem_of_getElem? (i := 2) rfl) rfl, by decide +kernel, by decide +kernel, by decide +kernel⟩
theorem iv_X5_needName : Cond.instanceMethod yX5_needName ∈ wsA ∧ Cond.selects yX5_needName.cls yX5_needName yX5_needName ∈ wsA := ⟨tb2 (List.mem_of_getElem? (i := 132) rfl) rfl, pv1 (List.mem_of_getElem? (i := 9) rfl) rfl⟩
theorem cf_X5_parse : CalF yX5_parse cX5_parse 4 (some .boolean) 1 := ⟨tb2 (List.mem_of_getElem? (i := 34) rfl) rfl, tb1 (List.mem_of_getElem? (i := 2) rfl) rfl, by decide +kernel, by decide +kernel, by decide +kernel⟩
theorem iv_X5_parse : Cond.instanceMethod yX5_parse ∈ wsA ∧ Cond.selects yX5_parse.cls yX5_parse yX5_parse ∈ wsA := ⟨tb2 (List.mem_of_getElem? (i := 32) rfl) rfl, tb2 (List.mem_of_getElem? (i := 33) rfl) rfl⟩
theorem cf_X5_readCycle : CalF yX5_readCycle cX5_readCycle 4 (some .boolean) 0 := ⟨tb2 (List.mem_of_getElem? (i := 152) rfl) rfl, tb1 (List.mem_of_getElem? (i := 2) rfl) rfl, by decide +kernel, by decide +kernel, by decide +kernel⟩
theorem iv_X5_readCycle : Cond.instanceMethod yX5_readCycle ∈ wsA ∧ Cond.selects yX5_readCycle.cls yX5_readCycle yX5_readCycle ∈ wsA := ⟨tb2 (List.mem_of_getElem? (i := 151) rfl) rfl, pv1 (List.mem_of_getElem? (i := 13) rfl) rfl⟩
theorem cf_X5_readCycles : CalF yX5_readCycles cX5_readCycles 2 (some .boolean) 0 := ⟨tb2 (List.mem_of_getElem? (i := 148) rfl) rfl, tb1 (List.mem_of_getElem? (i := 2) rfl) rfl, by decide +kernel, by decide +kernel, by decide +kernel⟩
theorem iv_X5_readCycles : Cond.instanceMethod yX5_readCycles ∈ wsA ∧ Cond.selects yX5_readCycles.cls yX5_readCycles yX5_readCycles ∈ wsA := ⟨tb2 (List.mem_of_getElem? (i := 147) rfl) rfl, pv1 (List.mem_of_getElem? (i := 12) rfl) rfl⟩
theorem cf_X5_readItem : CalF yX5_readItem cX5_readItem 4 (some .boolean) 0 := ⟨tb2 (List.mem_of_getElem? (i := 169) rfl) rfl, tb1 (List.mem_of_getElem? (i := 2) rfl) rfl, by decide +kernel, by decide +kernel, by decide +kernel⟩
theorem iv_X5_readItem : Cond.instanceMethod yX5_readItem ∈ wsA ∧ Cond.selects yX5_readItem.cls yX5_readItem yX5_readItem ∈ wsA := ⟨tb2 (List.mem_of_getElem? (i := 168) rfl) rfl, pv2 (List.mem_of_getElem? (i := 0) rfl) rfl⟩
theorem cf_X5_readItems : CalF yX5_readItems cX5_readItems 2 (some .boolean) 0 := ⟨tb2 (List.mem_of_getElem? (i := 165) rfl) rfl, tb1 (List.mem_of_getElem? (i := 2) rfl) rfl, by decide +kernel, by decide +kernel, by decide +kernel⟩
theorem iv_X5_readItems : Cond.instanceMethod yX5_readItems ∈ wsA ∧ Cond.selects yX5_readItems.cls yX5_readItems yX5_readItems ∈ wsA := ⟨tb2 (List.mem_of_getElem? (i := 164) rfl) rfl, pv1 (List.mem_of_getElem? (i := 15) rfl) rfl⟩
theorem cf_X5_readMove : CalF yX5_readMove cX5_readMove 2 (some .boolean) 0 := ⟨tb2 (List.mem_of_getElem? (i := 123) rfl) rfl, tb1 (List.mem_of_getElem? (i := 2) rfl) rfl, by decide +kernel, by decide +kernel, by decide +kernel⟩
theorem iv_X5_readMove : Cond.instanceMethod yX5_readMove ∈ wsA ∧ Cond.selects yX5_readMove.cls yX5_readMove yX5_readMove ∈ wsA := ⟨tb2 (List.mem_of_getElem? (i := 122) rfl) rfl, pv1 (List.mem_of_getElem? (i := 7) rfl) rfl⟩
theorem cf_X5_readNewName : CalF yX5_readNewName cX5_readNewName 1 (some .boolean) 0 := ⟨tb2 (List.mem_of_getElem? (i := 129) rfl) rfl, tb1 (List.mem_of_getElem? (i := 2) rfl) rfl, by decide +kernel, by decide +kernel, by decide +kernel⟩
theorem iv_X5_readNewName : Cond.instanceMethod yX5_readNewName ∈ wsA ∧ Cond.selects yX5_readNewName.cls yX5_readNewName yX5_readNewName ∈ wsA := ⟨tb2 (List.mem_of_getElem? (i := 128) rfl) rfl, pv1 (List.mem_of_getElem? (i := 8) rfl) rfl⟩
theorem cf_X5_readPoints : CalF yX5_readPoints cX5_readPoints 1 (some .boolean) 0 := ⟨tb2 (List.mem_of_getElem? (i := 58) rfl) rfl, tb1 (List.mem_of_getElem? (i := 2) rfl) rfl, by decide +kernel, by decide +kernel, by decide +kernel⟩
theorem iv_X5_readPoints : Cond.instanceMethod yX5_readPoints ∈ wsA ∧ Cond.selects yX5_readPoints.cls yX5_readPoints yX5_readPoints ∈ wsA := ⟨tb2 (List.mem_of_getElem? (i := 57) rfl) rfl, pv1 (List.mem_of_getElem? (i := 3) rfl) rfl⟩
theorem cf_X5_readSign : CalF yX5_readSign cX5_readSign 2 (some .boolean) 1 := ⟨tb2 (List.mem_of_getElem? (i := 161) rfl) rfl, tb1 (List.mem_of_getElem? (i := 2) rfl) rfl, by decide +kernel, by decide +kernel, by decide +kernel⟩
theorem iv_X5_readSign : Cond.instanceMethod yX5_readSign ∈ wsA ∧ Cond.selects yX5_readSign.cls yX5_readSign yX5_readSign ∈ wsA := ⟨tb2 (List.mem_of_getElem? (i := 160) rfl) rfl, pv1 (List.mem_of_getElem? (i := 14) rfl) rfl⟩
theorem cf_X5_says : CalF yX5_says cX5_says 3 (some .boolean) 1 := ⟨tb2 (List.mem_of_getElem? (i := 71) rfl) rfl, tb1 (List.mem_of_getElem? (i := 2) rfl) rfl, by decide +kernel, by decide +kernel, by decide +kernel⟩
theorem iv_X5_says : Cond.instanceMethod yX5_says ∈ wsA ∧ Cond.selects yX5_says.cls yX5_says yX5_says ∈ wsA := ⟨tb2 (List.mem_of_getElem? (i := 70) rfl) rfl, pv1 (List.mem_of_getElem? (i := 6) rfl) rfl⟩
theorem cf_X5_scan : CalF yX5_scan cX5_scan 2 none 0 := ⟨tb2 (List.mem_of_getElem? (i := 41) rfl) rfl, tb1 (List.mem_of_getElem? (i := 2) rfl) rfl, by decide +kernel, by decide +kernel, by decide +kernel⟩
theorem iv_X5_scan : Cond.instanceMethod yX5_scan ∈ wsA ∧ Cond.selects yX5_scan.cls yX5_scan yX5_scan ∈ wsA := ⟨tb2 (List.mem_of_getElem? (i := 40) rfl) rfl, pv1 (List.mem_of_getElem? (i := 1) rfl) rfl⟩
theorem cf_X5_scanNumber : CalF yX5_scanNumber cX5_scanNumber 1 none 0 := ⟨tb2 (List.mem_of_getElem? (i := 51) rfl) rfl, tb1 (List.mem_of_getElem? (i := 2) rfl) rfl, by decide +kernel, by decide +kernel, by decide +kernel⟩
theorem iv_X5_scanNumber : Cond.instanceMethod yX5_scanNumber ∈ wsA ∧ Cond.selects yX5_scanNumber.cls yX5_scanNumber yX5_scanNumber ∈ wsA := ⟨tb2 (List.mem_of_getElem? (i := 50) rfl) rfl, pv1 (List.mem_of_getElem? (i := 2) rfl) rfl⟩
theorem cf_X6_commonDivisor : CalF yX6_commonDivisor cX6_commonDivisor 6 (some .int) 2 := ⟨tb3 (List.mem_of_getElem? (i := 91) rfl) rfl, tb1 (List.mem_of_getElem? (i := 13) rfl) rfl, by decide +kernel, by decide +kernel, by decide +kernel⟩
theorem st_X6_commonDivisor : Cond.static yX6_commonDivisor ∈ wsA := tb3 (List.mem_of_getElem? (i := 90) rfl) rfl
theorem cf_X6_commutatorOf : CalF yX6_commutatorOf cX6_commutatorOf 7 (some .long) 3 := ⟨tb4 (List.mem_of_getElem? (i := 213) rfl) rfl, tb1 (List.mem_of_getElem? (i := 13) rfl) rfl, by decide +kernel, by decide +kernel, by decide +kernel⟩
theorem st_X6_commutatorOf : Cond.static yX6_commutatorOf ∈ wsA := tb4 (List.mem_of_getElem? (i := 212) rfl) rfl
theorem cf_X6_commute : CalF yX6_commute cX6_commute 6 (some .boolean) 3 := ⟨tb4 (List.mem_of_getElem? (i := 148) rfl) rfl, tb1 (List.mem_of_getElem? (i := 13) rfl) rfl, by decide +kernel, by decide +kernel, by decide +kernel⟩
theorem st_X6_commute : Cond.static yX6_commute ∈ wsA := tb4 (List.mem_of_getElem? (i := 147) rfl) rfl
theorem cf_X6_compose : CalF yX6_compose cX6_compose 10 (some .long) 3 := ⟨tb2 (List.mem_of_getElem? (i := 175) rfl) rfl, tb1 (List.mem_of_getElem? (i := 13) rfl) rfl, by decide +kernel, by decide +kernel, by decide +kernel⟩
theorem st_X6_compose : Cond.static yX6_compose ∈ wsA := tb2 (List.mem_of_getElem? (i := 174) rfl) rfl
theorem cf_X6_conjugate : CalF yX6_conjugate cX6_conjugate 8 (some .long) 3 := ⟨tb4 (List.mem_of_getElem? (i := 171) rfl) rfl, tb1 (List.mem_of_getElem? (i := 13) rfl) rfl, by decide +kernel, by decide +kernel, by decide +kernel⟩
theorem st_X6_conjugate : Cond.static yX6_conjugate ∈ wsA := tb4 (List.mem_of_getElem? (i := 170) rfl) rfl
theorem cf_X6_cycles : CalF yX6_cycles cX6_cycles 4 (some .int) 1 := ⟨tb3 (List.mem_of_getElem? (i := 94) rfl) rfl, tb1 (List.mem_of_getElem? (i := 13) rfl) rfl, by decide +kernel, by decide +kernel, by decide +kernel⟩
theorem st_X6_cycles : Cond.static yX6_cycles ∈ wsA := tb3 (List.mem_of_getElem? (i := 93) rfl) rfl
theorem cf_X6_fromNumber : CalF yX6_fromNumber cX6_fromNumber 10 (some .long) 2 := ⟨tb3 (List.mem_of_getElem? (i := 50) rfl) rfl, tb1 (List.mem_of_getElem? (i := 13) rfl) rfl, by decide +kernel, by decide +kernel, by decide +kernel⟩
theorem st_X6_fromNumber : Cond.static yX6_fromNumber ∈ wsA := tb3 (List.mem_of_getElem? (i := 49) rfl) rfl
theorem cf_X6_identity : CalF yX6_identity cX6_identity 4 (some .long) 1 := ⟨tb2 (List.mem_of_getElem? (i := 144) rfl) rfl, tb1 (List.mem_of_getElem? (i := 13) rfl) rfl, by decide +kernel, by decide +kernel, by decide +kernel⟩
theorem st_X6_identity : Cond.static yX6_identity ∈ wsA := tb2 (List.mem_of_getElem? (i := 143) rfl) rfl
theorem cf_X6_image : CalF yX6_image cX6_image 3 (some .int) 2 := ⟨tb2 (List.mem_of_getElem? (i := 208) rfl) rfl, tb1 (List.mem_of_getElem? (i := 13) rfl) rfl, by decide +kernel, by decide +kernel, by decide +kernel⟩
theorem st_X6_image : Cond.static yX6_image ∈ wsA := tb2 (List.mem_of_getElem? (i := 207) rfl) rfl
theorem cf_X6_imageOfPower : CalF yX6_imageOfPower cX6_imageOfPower 8 (some .int) 3 := ⟨tb3 (List.mem_of_getElem? (i := 75) rfl) rfl, tb1 (List.mem_of_getElem? (i := 13) rfl) rfl, by decide +kernel, by decide +kernel, by decide +kernel⟩
theorem st_X6_imageOfPower : Cond.static yX6_imageOfPower ∈ wsA := tb3 (List.mem_of_getElem? (i := 74) rfl) rfl
theorem cf_X6_invert : CalF yX6_invert cX6_invert 7 (some .long) 2 := ⟨tb2 (List.mem_of_getElem? (i := 172) rfl) rfl, tb1 (List.mem_of_getElem? (i := 13) rfl) rfl, by decide +kernel, by decide +kernel, by decide +kernel⟩
theorem st_X6_invert : Cond.static yX6_invert ∈ wsA := tb2 (List.mem_of_getElem? (i := 171) rfl) rfl
theorem cf_X6_isEven : CalF yX6_isEven cX6_isEven 3 (some .boolean) 2 := ⟨tb3 (List.mem_of_getElem? (i := 100) rfl) rfl, tb1 (List.mem_of_getElem? (i := 13) rfl) rfl, by decide +kernel, by decide +kernel, by decide +kernel⟩
theorem st_X6_isEven : Cond.static yX6_isEven ∈ wsA := tb3 (List.mem_of_getElem? (i := 99) rfl) rfl
theorem cf_X6_moved : CalF yX6_moved cX6_moved 5 (some .int) 2 := ⟨tb3 (List.mem_of_getElem? (i := 105) rfl) rfl, tb1 (List.mem_of_getElem? (i := 13) rfl) rfl, by decide +kernel, by decide +kernel, by decide +kernel⟩
theorem st_X6_moved : Cond.static yX6_moved ∈ wsA := tb3 (List.mem_of_getElem? (i := 104) rfl) rfl
theorem cf_X6_period : CalF yX6_period cX6_period 5 (some .int) 1 := ⟨tb3 (List.mem_of_getElem? (i := 88) rfl) rfl, tb1 (List.mem_of_getElem? (i := 13) rfl) rfl, by decide +kernel, by decide +kernel, by decide +kernel⟩
theorem st_X6_period : Cond.static yX6_period ∈ wsA := tb3 (List.mem_of_getElem? (i := 87) rfl) rfl
theorem cf_X6_raise : CalF yX6_raise cX6_raise 7 (some .long) 3 := ⟨tb3 (List.mem_of_getElem? (i := 72) rfl) rfl, tb1 (List.mem_of_getElem? (i := 13) rfl) rfl, by decide +kernel, by decide +kernel, by decide +kernel⟩
theorem st_X6_raise : Cond.static yX6_raise ∈ wsA := tb3 (List.mem_of_getElem? (i := 71) rfl) rfl
theorem cf_X6_shape : CalF yX6_shape cX6_shape 10 (some .long) 2 := ⟨tb3 (List.mem_of_getElem? (i := 85) rfl) rfl, tb1 (List.mem_of_getElem? (i := 13) rfl) rfl, by decide +kernel, by decide +kernel, by decide +kernel⟩
theorem st_X6_shape : Cond.static yX6_shape ∈ wsA := tb3 (List.mem_of_getElem? (i := 84) rfl) rfl
theorem cf_X6_staying : CalF yX6_staying cX6_staying 2 (some .int) 1 := ⟨tb3 (List.mem_of_getElem? (i := 97) rfl) rfl, tb1 (List.mem_of_getElem? (i := 13) rfl) rfl, by decide +kernel, by decide +kernel, by decide +kernel⟩
theorem st_X6_staying : Cond.static yX6_staying ∈ wsA := tb3 (List.mem_of_getElem? (i := 96) rfl) rfl
theorem cf_X6_toNumber : CalF yX6_toNumber cX6_toNumber 6 (some .long) 2 := ⟨tb3 (List.mem_of_getElem? (i := 33) rfl) rfl, tb1 (List.mem_of_getElem? (i := 13) rfl) rfl, by decide +kernel, by decide +kernel, by decide +kernel⟩
theorem st_X6_toNumber : Cond.static yX6_toNumber ∈ wsA := tb3 (List.mem_of_getElem? (i := 32) rfl) rfl
theorem cf_X6_with : CalF yX6_with cX6_with 5 (some .long) 3 := ⟨tb2 (List.mem_of_getElem? (i := 155) rfl) rfl, tb1 (List.mem_of_getElem? (i := 13) rfl) rfl, by decide +kernel, by decide +kernel, by decide +kernel⟩
theorem st_X6_with : Cond.static yX6_with ∈ wsA := tb2 (List.mem_of_getElem? (i := 154) rfl) rfl
theorem cf_X8_init : CalF yX8_init cX8_init 1 none 0 := ⟨tb6 (List.mem_of_getElem? (i := 46) rfl) rfl, tb1 (List.mem_of_getElem? (i := 7) rfl) rfl, by decide +kernel, by decide +kernel, by decide +kernel⟩
theorem im_X8_init : Cond.instanceMethod yX8_init ∈ wsA := tb6 (List.mem_of_getElem? (i := 45) rfl) rfl
theorem cf_X8_about : CalF yX8_about cX8_about 6 (some .int) 2 := ⟨tb7 (List.mem_of_getElem? (i := 47) rfl) rfl, tb1 (List.mem_of_getElem? (i := 7) rfl) rfl, by decide +kernel, by decide +kernel, by decide +kernel⟩
theorem iv_X8_about : Cond.instanceMethod yX8_about ∈ wsA ∧ Cond.selects yX8_about.cls yX8_about yX8_about ∈ wsA := ⟨tb7 (List.mem_of_getElem? (i := 45) rfl) rfl, tb7 (List.mem_of_getElem? (i := 46) rfl) rfl⟩
theorem cf_X8_add : CalF yX8_add cX8_add 3 (some .int) 1 := ⟨tb8 (List.mem_of_getElem? (i := 223) rfl) rfl, tb1 (List.mem_of_getElem? (i := 7) rfl) rfl, by decide +kernel, by decide +kernel, by decide +kernel⟩
theorem iv_X8_add : Cond.instanceMethod yX8_add ∈ wsA ∧ Cond.selects yX8_add.cls yX8_add yX8_add ∈ wsA := ⟨tb8 (List.mem_of_getElem? (i := 221) rfl) rfl, tb8 (List.mem_of_getElem? (i := 222) rfl) rfl⟩
theorem cf_X8_adds : CalF yX8_adds cX8_adds 3 none 2 := ⟨tb7 (List.mem_of_getElem? (i := 117) rfl) rfl, tb1 (List.mem_of_getElem? (i := 7) rfl) rfl, by decide +kernel, by decide +kernel, by decide +kernel⟩
theorem iv_X8_adds : Cond.instanceMethod yX8_adds ∈ wsA ∧ Cond.selects yX8_adds.cls yX8_adds yX8_adds ∈ wsA := ⟨tb7 (List.mem_of_getElem? (i := 116) rfl) rfl, pv5 (List.mem_of_getElem? (i := 5) rfl) rfl⟩
theorem cf_X8_alike : CalF yX8_alike cX8_alike 4 (some .int) 1 := ⟨tb8 (List.mem_of_getElem? (i := 44) rfl) rfl, tb1 (List.mem_of_getElem? (i := 7) rfl) rfl, by decide +kernel, by decide +kernel, by decide +kernel⟩
theorem iv_X8_alike : Cond.instanceMethod yX8_alike ∈ wsA ∧ Cond.selects yX8_alike.cls yX8_alike yX8_alike ∈ wsA := ⟨tb8 (List.mem_of_getElem? (i := 42) rfl) rfl, tb8 (List.mem_of_getElem? (i := 43) rfl) rfl⟩
theorem cf_X8_allEven : CalF yX8_allEven cX8_allEven 3 (some .boolean) 0 := ⟨tb8 (List.mem_of_getElem? (i := 103) rfl) rfl, tb1 (List.mem_of_getElem? (i := 7) rfl) rfl, by decide +kernel, by decide +kernel, by decide +kernel⟩
theorem iv_X8_allEven : Cond.instanceMethod yX8_allEven ∈ wsA ∧ Cond.selects yX8_allEven.cls yX8_allEven yX8_allEven ∈ wsA := ⟨tb8 (List.mem_of_getElem? (i := 102) rfl) rfl, pv7 (List.mem_of_getElem? (i := 7) rfl) rfl⟩
theorem cf_X8_allGo : CalF yX8_allGo cX8_allGo 2 (some .boolean) 0 := ⟨tb8 (List.mem_of_getElem? (i := 95) rfl) rfl, tb1 (List.mem_of_getElem? (i := 7) rfl) rfl, by decide +kernel, by decide +kernel, by decide +kernel⟩
theorem iv_X8_allGo : Cond.instanceMethod yX8_allGo ∈ wsA ∧ Cond.selects yX8_allGo.cls yX8_allGo yX8_allGo ∈ wsA := ⟨tb8 (List.mem_of_getElem? (i := 94) rfl) rfl, pv7 (List.mem_of_getElem? (i := 5) rfl) rfl⟩
theorem cf_X8_anywhere : CalF yX8_anywhere cX8_anywhere 2 (some .int) 0 := ⟨tb8 (List.mem_of_getElem? (i := 173) rfl) rfl, tb1 (List.mem_of_getElem? (i := 7) rfl) rfl, by decide +kernel, by decide +kernel, by decide +kernel⟩
theorem iv_X8_anywhere : Cond.instanceMethod yX8_anywhere ∈ wsA ∧ Cond.selects yX8_anywhere.cls yX8_anywhere yX8_anywhere ∈ wsA := ⟨tb8 (List.mem_of_getElem? (i := 171) rfl) rfl, tb8 (List.mem_of_getElem? (i := 172) rfl) rfl⟩
theorem cf_X8_areMoves : CalF yX8_areMoves cX8_areMoves 2 (some .boolean) 1 := ⟨tb8 (List.mem_of_getElem? (i := 123) rfl) rfl, tb1 (List.mem_of_getElem? (i := 7) rfl) rfl, by decide +kernel, by decide +kernel, by decide +kernel⟩
theorem iv_X8_areMoves : Cond.instanceMethod yX8_areMoves ∈ wsA ∧ Cond.selects yX8_areMoves.cls yX8_areMoves yX8_areMoves ∈ wsA := ⟨tb8 (List.mem_of_getElem? (i := 122) rfl) rfl, pv7 (List.mem_of_getElem? (i := 11) rfl) rfl⟩
theorem cf_X8_areSame : CalF yX8_areSame cX8_areSame 3 (some .boolean) 2 := ⟨tb8 (List.mem_of_getElem? (i := 24) rfl) rfl, tb1 (List.mem_of_getElem? (i := 7) rfl) rfl, by decide +kernel, by decide +kernel, by decide +kernel⟩
theorem st_X8_areSame : Cond.static yX8_areSame ∈ wsA := tb8 (List.mem_of_getElem? (i := 23) rfl) rfl
theorem cf_X8_base : CalF yX8_base cX8_base 2 (some .int) 1 := ⟨tb7 (List.mem_of_getElem? (i := 93) rfl) rfl, tb1 (List.mem_of_getElem? (i := 7) rfl) rfl, by decide +kernel, by decide +kernel, by decide +kernel⟩
theorem iv_X8_base : Cond.instanceMethod yX8_base ∈ wsA ∧ Cond.selects yX8_base.cls yX8_base yX8_base ∈ wsA := ⟨tb7 (List.mem_of_getElem? (i := 91) rfl) rfl, tb7 (List.mem_of_getElem? (i := 92) rfl) rfl⟩
theorem cf_X8_baseAt : CalF yX8_baseAt cX8_baseAt 4 (some .int) 1 := ⟨tb7 (List.mem_of_getElem? (i := 101) rfl) rfl, tb1 (List.mem_of_getElem? (i := 7) rfl) rfl, by decide +kernel, by decide +kernel, by decide +kernel⟩
theorem iv_X8_baseAt : Cond.instanceMethod yX8_baseAt ∈ wsA ∧ Cond.selects yX8_baseAt.cls yX8_baseAt yX8_baseAt ∈ wsA := ⟨tb7 (List.mem_of_getElem? (i := 100) rfl) rfl, pv5 (List.mem_of_getElem? (i := 1) rfl) rfl⟩
theorem cf_X8_baseMany : CalF yX8_baseMany cX8_baseMany 2 (some .int) 0 := ⟨tb7 (List.mem_of_getElem? (i := 97) rfl) rfl, tb1 (List.mem_of_getElem? (i := 7) rfl) rfl, by decide +kernel, by decide +kernel, by decide +kernel⟩
theorem iv_X8_baseMany : Cond.instanceMethod yX8_baseMany ∈ wsA ∧ Cond.selects yX8_baseMany.cls yX8_baseMany yX8_baseMany ∈ wsA := ⟨tb7 (List.mem_of_getElem? (i := 96) rfl) rfl, pv5 (List.mem_of_getElem? (i := 0) rfl) rfl⟩
theorem cf_X8_bit : CalF yX8_bit cX8_bit 2 (some .boolean) 2 := ⟨tb7 (List.mem_of_getElem? (i := 81) rfl) rfl, tb1 (List.mem_of_getElem? (i := 7) rfl) rfl, by decide +kernel, by decide +kernel, by decide +kernel⟩
theorem st_X8_bit : Cond.static yX8_bit ∈ wsA := tb7 (List.mem_of_getElem? (i := 80) rfl) rfl
theorem cf_X8_bits : CalF yX8_bits cX8_bits 3 (some .int) 1 := ⟨tb8 (List.mem_of_getElem? (i := 146) rfl) rfl, tb1 (List.mem_of_getElem? (i := 7) rfl) rfl, by decide +kernel, by decide +kernel, by decide +kernel⟩
theorem st_X8_bits : Cond.static yX8_bits ∈ wsA := tb8 (List.mem_of_getElem? (i := 145) rfl) rfl
theorem cf_X8_block : CalF yX8_block cX8_block 3 (some .int) 2 := ⟨tb8 (List.mem_of_getElem? (i := 169) rfl) rfl, tb1 (List.mem_of_getElem? (i := 7) rfl) rfl, by decide +kernel, by decide +kernel, by decide +kernel⟩
theorem iv_X8_block : Cond.instanceMethod yX8_block ∈ wsA ∧ Cond.selects yX8_block.cls yX8_block yX8_block ∈ wsA := ⟨tb8 (List.mem_of_getElem? (i := 167) rfl) rfl, tb8 (List.mem_of_getElem? (i := 168) rfl) rfl⟩
theorem cf_X8_blockOf : CalF yX8_blockOf cX8_blockOf 7 (some .int) 2 := ⟨tb8 (List.mem_of_getElem? (i := 111) rfl) rfl, tb1 (List.mem_of_getElem? (i := 7) rfl) rfl, by decide +kernel, by decide +kernel, by decide +kernel⟩
theorem iv_X8_blockOf : Cond.instanceMethod yX8_blockOf ∈ wsA ∧ Cond.selects yX8_blockOf.cls yX8_blockOf yX8_blockOf ∈ wsA := ⟨tb8 (List.mem_of_getElem? (i := 110) rfl) rfl, pv7 (List.mem_of_getElem? (i := 9) rfl) rfl⟩
theorem cf_X8_brings : CalF yX8_brings cX8_brings 4 (some .int) 2 := ⟨tb8 (List.mem_of_getElem? (i := 165) rfl) rfl, tb1 (List.mem_of_getElem? (i := 7) rfl) rfl, by decide +kernel, by decide +kernel, by decide +kernel⟩
theorem iv_X8_brings : Cond.instanceMethod yX8_brings ∈ wsA ∧ Cond.selects yX8_brings.cls yX8_brings yX8_brings ∈ wsA := ⟨tb8 (List.mem_of_getElem? (i := 163) rfl) rfl, tb8 (List.mem_of_getElem? (i := 164) rfl) rfl⟩
theorem cf_X8_builds_ : CalF yX8_builds_ cX8_builds_ 1 none 0 := ⟨tb7 (List.mem_of_getElem? (i := 105) rfl) rfl, tb1 (List.mem_of_getElem? (i := 7) rfl) rfl, by decide +kernel, by decide +kernel, by decide +kernel⟩
theorem iv_X8_builds_ : Cond.instanceMethod yX8_builds_ ∈ wsA ∧ Cond.selects yX8_builds_.cls yX8_builds_ yX8_builds_ ∈ wsA := ⟨tb7 (List.mem_of_getElem? (i := 104) rfl) rfl, pv5 (List.mem_of_getElem? (i := 2) rfl) rfl⟩
theorem cf_X8_builds : CalF yX8_builds cX8_builds 4 none 2 := ⟨tb7 (List.mem_of_getElem? (i := 109) rfl) rfl, tb1 (List.mem_of_getElem? (i := 7) rfl) rfl, by decide +kernel, by decide +kernel, by decide +kernel⟩
theorem iv_X8_builds : Cond.instanceMethod yX8_builds ∈ wsA ∧ Cond.selects yX8_builds.cls yX8_builds yX8_builds ∈ wsA := ⟨tb7 (List.mem_of_getElem? (i := 108) rfl) rfl, pv5 (List.mem_of_getElem? (i := 3) rfl) rfl⟩
theorem cf_X8_by : CalF yX8_by cX8_by 2 (some .int) 1 := ⟨tb8 (List.mem_of_getElem? (i := 119) rfl) rfl, tb1 (List.mem_of_getElem? (i := 7) rfl) rfl, by decide +kernel, by decide +kernel, by decide +kernel⟩
theorem iv_X8_by : Cond.instanceMethod yX8_by ∈ wsA ∧ Cond.selects yX8_by.cls yX8_by yX8_by ∈ wsA := ⟨tb8 (List.mem_of_getElem? (i := 117) rfl) rfl, tb8 (List.mem_of_getElem? (i := 118) rfl) rfl⟩
theorem cf_X8_central : CalF yX8_central cX8_central 2 (some .int) 1 := ⟨tb8 (List.mem_of_getElem? (i := 87) rfl) rfl, tb1 (List.mem_of_getElem? (i := 7) rfl) rfl, by decide +kernel, by decide +kernel, by decide +kernel⟩
theorem iv_X8_central : Cond.instanceMethod yX8_central ∈ wsA ∧ Cond.selects yX8_central.cls yX8_central yX8_central ∈ wsA := ⟨tb8 (List.mem_of_getElem? (i := 85) rfl) rfl, tb8 (List.mem_of_getElem? (i := 86) rfl) rfl⟩
theorem cf_X8_centre : CalF yX8_centre cX8_centre 4 (some .int) 1 := ⟨tb8 (List.mem_of_getElem? (i := 17) rfl) rfl, tb1 (List.mem_of_getElem? (i := 7) rfl) rfl, by decide +kernel, by decide +kernel, by decide +kernel⟩
theorem iv_X8_centre : Cond.instanceMethod yX8_centre ∈ wsA ∧ Cond.selects yX8_centre.cls yX8_centre yX8_centre ∈ wsA := ⟨tb8 (List.mem_of_getElem? (i := 15) rfl) rfl, tb8 (List.mem_of_getElem? (i := 16) rfl) rfl⟩
theorem cf_X8_chainAt : CalF yX8_chainAt cX8_chainAt 4 (some .int) 2 := ⟨tb8 (List.mem_of_getElem? (i := 72) rfl) rfl, tb1 (List.mem_of_getElem? (i := 7) rfl) rfl, by decide +kernel, by decide +kernel, by decide +kernel⟩
theorem iv_X8_chainAt : Cond.instanceMethod yX8_chainAt ∈ wsA ∧ Cond.selects yX8_chainAt.cls yX8_chainAt yX8_chainAt ∈ wsA := ⟨tb8 (List.mem_of_getElem? (i := 71) rfl) rfl, pv7 (List.mem_of_getElem? (i := 2) rfl) rfl⟩
theorem cf_X8_classes : CalF yX8_classes cX8_classes 1 (some .int) 0 := ⟨tb8 (List.mem_of_getElem? (i := 28) rfl) rfl, tb1 (List.mem_of_getElem? (i := 7) rfl) rfl, by decide +kernel, by decide +kernel, by decide +kernel⟩
theorem iv_X8_classes : Cond.instanceMethod yX8_classes ∈ wsA ∧ Cond.selects yX8_classes.cls yX8_classes yX8_classes ∈ wsA := ⟨tb8 (List.mem_of_getElem? (i := 26) rfl) rfl, tb8 (List.mem_of_getElem? (i := 27) rfl) rfl⟩
theorem cf_X8_clears : CalF yX8_clears cX8_clears 4 none 1 := ⟨tb7 (List.mem_of_getElem? (i := 113) rfl) rfl, tb1 (List.mem_of_getElem? (i := 7) rfl) rfl, by decide +kernel, by decide +kernel, by decide +kernel⟩
theorem iv_X8_clears : Cond.instanceMethod yX8_clears ∈ wsA ∧ Cond.selects yX8_clears.cls yX8_clears yX8_clears ∈ wsA := ⟨tb7 (List.mem_of_getElem? (i := 112) rfl) rfl, pv5 (List.mem_of_getElem? (i := 4) rfl) rfl⟩
theorem cf_X8_closes : CalF yX8_closes cX8_closes 5 none 1 := ⟨tb7 (List.mem_of_getElem? (i := 133) rfl) rfl, tb1 (List.mem_of_getElem? (i := 7) rfl) rfl, by decide +kernel, by decide +kernel, by decide +kernel⟩
theorem iv_X8_closes : Cond.instanceMethod yX8_closes ∈ wsA ∧ Cond.selects yX8_closes.cls yX8_closes yX8_closes ∈ wsA := ⟨tb7 (List.mem_of_getElem? (i := 132) rfl) rfl, pv5 (List.mem_of_getElem? (i := 9) rfl) rfl⟩
theorem cf_X8_colours : CalF yX8_colours cX8_colours 8 (some .long) 1 := ⟨tb8 (List.mem_of_getElem? (i := 181) rfl) rfl, tb1 (List.mem_of_getElem? (i := 7) rfl) rfl, by decide +kernel, by decide +kernel, by decide +kernel⟩
theorem iv_X8_colours : Cond.instanceMethod yX8_colours ∈ wsA ∧ Cond.selects yX8_colours.cls yX8_colours yX8_colours ∈ wsA := ⟨tb8 (List.mem_of_getElem? (i := 179) rfl) rfl, tb8 (List.mem_of_getElem? (i := 180) rfl) rfl⟩
theorem cf_X8_comesTo : CalF yX8_comesTo cX8_comesTo 4 (some .boolean) 2 := ⟨tb7 (List.mem_of_getElem? (i := 121) rfl) rfl, tb1 (List.mem_of_getElem? (i := 7) rfl) rfl, by decide +kernel, by decide +kernel, by decide +kernel⟩
theorem iv_X8_comesTo : Cond.instanceMethod yX8_comesTo ∈ wsA ∧ Cond.selects yX8_comesTo.cls yX8_comesTo yX8_comesTo ∈ wsA := ⟨tb7 (List.mem_of_getElem? (i := 120) rfl) rfl, pv5 (List.mem_of_getElem? (i := 6) rfl) rfl⟩
theorem cf_X8_common : CalF yX8_common cX8_common 5 (some .int) 2 := ⟨tb7 (List.mem_of_getElem? (i := 58) rfl) rfl, tb1 (List.mem_of_getElem? (i := 7) rfl) rfl, by decide +kernel, by decide +kernel, by decide +kernel⟩
theorem st_X8_common : Cond.static yX8_common ∈ wsA := tb7 (List.mem_of_getElem? (i := 57) rfl) rfl
theorem cf_X8_commutator : CalF yX8_commutator cX8_commutator 5 (some .long) 2 := ⟨tb8 (List.mem_of_getElem? (i := 56) rfl) rfl, tb1 (List.mem_of_getElem? (i := 7) rfl) rfl, by decide +kernel, by decide +kernel, by decide +kernel⟩
theorem iv_X8_commutator : Cond.instanceMethod yX8_commutator ∈ wsA ∧ Cond.selects yX8_commutator.cls yX8_commutator yX8_commutator ∈ wsA := ⟨tb8 (List.mem_of_getElem? (i := 54) rfl) rfl, tb8 (List.mem_of_getElem? (i := 55) rfl) rfl⟩
theorem cf_X8_commutes : CalF yX8_commutes cX8_commutes 5 none 3 := ⟨tb8 (List.mem_of_getElem? (i := 60) rfl) rfl, tb1 (List.mem_of_getElem? (i := 7) rfl) rfl, by decide +kernel, by decide +kernel, by decide +kernel⟩
theorem iv_X8_commutes : Cond.instanceMethod yX8_commutes ∈ wsA ∧ Cond.selects yX8_commutes.cls yX8_commutes yX8_commutes ∈ wsA := ⟨tb8 (List.mem_of_getElem? (i := 59) rfl) rfl, pv7 (List.mem_of_getElem? (i := 1) rfl) rfl⟩
theorem cf_X8_copies : CalF yX8_copies cX8_copies 5 none 4 := ⟨tb6 (List.mem_of_getElem? (i := 54) rfl) rfl, tb1 (List.mem_of_getElem? (i := 7) rfl) rfl, by decide +kernel, by decide +kernel, by decide +kernel⟩
theorem st_X8_copies : Cond.static yX8_copies ∈ wsA := tb6 (List.mem_of_getElem? (i := 53) rfl) rfl
theorem cf_X8_copiesSlot : CalF yX8_copiesSlot cX8_copiesSlot 4 none 2 := ⟨tb8 (List.mem_of_getElem? (i := 76) rfl) rfl, tb1 (List.mem_of_getElem? (i := 7) rfl) rfl, by decide +kernel, by decide +kernel, by decide +kernel⟩
theorem iv_X8_copiesSlot : Cond.instanceMethod yX8_copiesSlot ∈ wsA ∧ Cond.selects yX8_copiesSlot.cls yX8_copiesSlot yX8_copiesSlot ∈ wsA := ⟨tb8 (List.mem_of_getElem? (i := 75) rfl) rfl, pv7 (List.mem_of_getElem? (i := 3) rfl) rfl⟩
theorem cf_X8_cycleFrom : CalF yX8_cycleFrom cX8_cycleFrom 4 (some .int) 2 := ⟨tb7 (List.mem_of_getElem? (i := 55) rfl) rfl, tb1 (List.mem_of_getElem? (i := 7) rfl) rfl, by decide +kernel, by decide +kernel, by decide +kernel⟩
theorem st_X8_cycleFrom : Cond.static yX8_cycleFrom ∈ wsA := tb7 (List.mem_of_getElem? (i := 54) rfl) rfl
theorem cf_X8_cycles : CalF yX8_cycles cX8_cycles 4 (some .int) 1 := ⟨tb7 (List.mem_of_getElem? (i := 62) rfl) rfl, tb1 (List.mem_of_getElem? (i := 7) rfl) rfl, by decide +kernel, by decide +kernel, by decide +kernel⟩
theorem iv_X8_cycles : Cond.instanceMethod yX8_cycles ∈ wsA ∧ Cond.selects yX8_cycles.cls yX8_cycles yX8_cycles ∈ wsA := ⟨tb7 (List.mem_of_getElem? (i := 61) rfl) rfl, pv4 (List.mem_of_getElem? (i := 11) rfl) rfl⟩
theorem cf_X8_deep : CalF yX8_deep cX8_deep 4 (some .int) 1 := ⟨tb7 (List.mem_of_getElem? (i := 233) rfl) rfl, tb1 (List.mem_of_getElem? (i := 7) rfl) rfl, by decide +kernel, by decide +kernel, by decide +kernel⟩
theorem iv_X8_deep : Cond.instanceMethod yX8_deep ∈ wsA ∧ Cond.selects yX8_deep.cls yX8_deep yX8_deep ∈ wsA := ⟨tb7 (List.mem_of_getElem? (i := 231) rfl) rfl, tb7 (List.mem_of_getElem? (i := 232) rfl) rfl⟩
theorem cf_X8_deepMost : CalF yX8_deepMost cX8_deepMost 3 (some .int) 0 := ⟨tb8 (List.mem_of_getElem? (i := 1) rfl) rfl, tb1 (List.mem_of_getElem? (i := 7) rfl) rfl, by decide +kernel, by decide +kernel, by decide +kernel⟩
theorem iv_X8_deepMost : Cond.instanceMethod yX8_deepMost ∈ wsA ∧ Cond.selects yX8_deepMost.cls yX8_deepMost yX8_deepMost ∈ wsA := ⟨tb8 (List.mem_of_getElem? (i := 0) rfl) rfl, pv6 (List.mem_of_getElem? (i := 11) rfl) rfl⟩
theorem cf_X8_deepest : CalF yX8_deepest cX8_deepest 4 (some .int) 1 := ⟨tb7 (List.mem_of_getElem? (i := 237) rfl) rfl, tb1 (List.mem_of_getElem? (i := 7) rfl) rfl, by decide +kernel, by decide +kernel, by decide +kernel⟩
theorem iv_X8_deepest : Cond.instanceMethod yX8_deepest ∈ wsA ∧ Cond.selects yX8_deepest.cls yX8_deepest yX8_deepest ∈ wsA := ⟨tb7 (List.mem_of_getElem? (i := 235) rfl) rfl, tb7 (List.mem_of_getElem? (i := 236) rfl) rfl⟩
theorem cf_X8_derived : CalF yX8_derived cX8_derived 2 (some .int) 1 := ⟨tb8 (List.mem_of_getElem? (i := 68) rfl) rfl, tb1 (List.mem_of_getElem? (i := 7) rfl) rfl, by decide +kernel, by decide +kernel, by decide +kernel⟩
theorem iv_X8_derived : Cond.instanceMethod yX8_derived ∈ wsA ∧ Cond.selects yX8_derived.cls yX8_derived yX8_derived ∈ wsA := ⟨tb8 (List.mem_of_getElem? (i := 66) rfl) rfl, tb8 (List.mem_of_getElem? (i := 67) rfl) rfl⟩
theorem cf_X8_drop : CalF yX8_drop cX8_drop 3 (some .int) 1 := ⟨tb8 (List.mem_of_getElem? (i := 227) rfl) rfl, tb1 (List.mem_of_getElem? (i := 7) rfl) rfl, by decide +kernel, by decide +kernel, by decide +kernel⟩
theorem iv_X8_drop : Cond.instanceMethod yX8_drop ∈ wsA ∧ Cond.selects yX8_drop.cls yX8_drop yX8_drop ∈ wsA := ⟨tb8 (List.mem_of_getElem? (i := 225) rfl) rfl, tb8 (List.mem_of_getElem? (i := 226) rfl) rfl⟩
theorem cf_X8_endsHome : CalF yX8_endsHome cX8_endsHome 4 (some .boolean) 0 := ⟨tb8 (List.mem_of_getElem? (i := 99) rfl) rfl, tb1 (List.mem_of_getElem? (i := 7) rfl) rfl, by decide +kernel, by decide +kernel, by decide +kernel⟩
theorem iv_X8_endsHome : Cond.instanceMethod yX8_endsHome ∈ wsA ∧ Cond.selects yX8_endsHome.cls yX8_endsHome yX8_endsHome ∈ wsA := ⟨tb8 (List.mem_of_getElem? (i := 98) rfl) rfl, pv7 (List.mem_of_getElem? (i := 6) rfl) rfl⟩
theorem cf_X8_fault : CalF yX8_fault cX8_fault 2 (some .int) 1 := ⟨tb9 (List.mem_of_getElem? (i := 93) rfl) rfl, tb1 (List.mem_of_getElem? (i := 7) rfl) rfl, by decide +kernel, by decide +kernel, by decide +kernel⟩
theorem iv_X8_fault : Cond.instanceMethod yX8_fault ∈ wsA ∧ Cond.selects yX8_fault.cls yX8_fault yX8_fault ∈ wsA := ⟨tb9 (List.mem_of_getElem? (i := 91) rfl) rfl, tb9 (List.mem_of_getElem? (i := 92) rfl) rfl⟩
theorem cf_X8_feed : CalF yX8_feed cX8_feed 6 (some .int) 5 := ⟨tb9 (List.mem_of_getElem? (i := 11) rfl) rfl, tb1 (List.mem_of_getElem? (i := 7) rfl) rfl, by decide +kernel, by decide +kernel, by decide +kernel⟩
theorem iv_X8_feed : Cond.instanceMethod yX8_feed ∈ wsA ∧ Cond.selects yX8_feed.cls yX8_feed yX8_feed ∈ wsA := ⟨tb9 (List.mem_of_getElem? (i := 9) rfl) rfl, tb9 (List.mem_of_getElem? (i := 10) rfl) rfl⟩
theorem cf_X8_feeds : CalF yX8_feeds cX8_feeds 3 none 1 := ⟨tb9 (List.mem_of_getElem? (i := 15) rfl) rfl, tb1 (List.mem_of_getElem? (i := 7) rfl) rfl, by decide +kernel, by decide +kernel, by decide +kernel⟩
theorem iv_X8_feeds : Cond.instanceMethod yX8_feeds ∈ wsA ∧ Cond.selects yX8_feeds.cls yX8_feeds yX8_feeds ∈ wsA := ⟨tb9 (List.mem_of_getElem? (i := 14) rfl) rfl, pv8 (List.mem_of_getElem? (i := 2) rfl) rfl⟩
theorem cf_X8_fewest : CalF yX8_fewest cX8_fewest 3 (some .int) 0 := ⟨tb8 (List.mem_of_getElem? (i := 143) rfl) rfl, tb1 (List.mem_of_getElem? (i := 7) rfl) rfl, by decide +kernel, by decide +kernel, by decide +kernel⟩
theorem iv_X8_fewest : Cond.instanceMethod yX8_fewest ∈ wsA ∧ Cond.selects yX8_fewest.cls yX8_fewest yX8_fewest ∈ wsA := ⟨tb8 (List.mem_of_getElem? (i := 141) rfl) rfl, tb8 (List.mem_of_getElem? (i := 142) rfl) rfl⟩
theorem cf_X8_fixing : CalF yX8_fixing cX8_fixing 4 (some .int) 1 := ⟨tb8 (List.mem_of_getElem? (i := 177) rfl) rfl, tb1 (List.mem_of_getElem? (i := 7) rfl) rfl, by decide +kernel, by decide +kernel, by decide +kernel⟩
theorem iv_X8_fixing : Cond.instanceMethod yX8_fixing ∈ wsA ∧ Cond.selects yX8_fixing.cls yX8_fixing yX8_fixing ∈ wsA := ⟨tb8 (List.mem_of_getElem? (i := 175) rfl) rfl, tb8 (List.mem_of_getElem? (i := 176) rfl) rfl⟩
theorem cf_X8_followed : CalF yX8_followed cX8_followed 3 (some .int) 1 := ⟨tb7 (List.mem_of_getElem? (i := 177) rfl) rfl, tb1 (List.mem_of_getElem? (i := 7) rfl) rfl, by decide +kernel, by decide +kernel, by decide +kernel⟩
theorem iv_X8_followed : Cond.instanceMethod yX8_followed ∈ wsA ∧ Cond.selects yX8_followed.cls yX8_followed yX8_followed ∈ wsA := ⟨tb7 (List.mem_of_getElem? (i := 175) rfl) rfl, tb7 (List.mem_of_getElem? (i := 176) rfl) rfl⟩
theorem cf_X8_followedOf : CalF yX8_followedOf cX8_followedOf 3 (some .int) 1 := ⟨tb7 (List.mem_of_getElem? (i := 181) rfl) rfl, tb1 (List.mem_of_getElem? (i := 7) rfl) rfl, by decide +kernel, by decide +kernel, by decide +kernel⟩
theorem iv_X8_followedOf : Cond.instanceMethod yX8_followedOf ∈ wsA ∧ Cond.selects yX8_followedOf.cls yX8_followedOf yX8_followedOf ∈ wsA := ⟨tb7 (List.mem_of_getElem? (i := 180) rfl) rfl, pv6 (List.mem_of_getElem? (i := 1) rfl) rfl⟩
theorem cf_X8_goesOn : CalF yX8_goesOn cX8_goesOn 1 none 0 := ⟨tb9 (List.mem_of_getElem? (i := 54) rfl) rfl, tb1 (List.mem_of_getElem? (i := 7) rfl) rfl, by decide +kernel, by decide +kernel, by decide +kernel⟩
theorem iv_X8_goesOn : Cond.instanceMethod yX8_goesOn ∈ wsA ∧ Cond.selects yX8_goesOn.cls yX8_goesOn yX8_goesOn ∈ wsA := ⟨tb9 (List.mem_of_getElem? (i := 53) rfl) rfl, pv8 (List.mem_of_getElem? (i := 10) rfl) rfl⟩
theorem cf_X8_goesWithMoves : CalF yX8_goesWithMoves cX8_goesWithMoves 3 (some .boolean) 1 := ⟨tb8 (List.mem_of_getElem? (i := 21) rfl) rfl, tb1 (List.mem_of_getElem? (i := 7) rfl) rfl, by decide +kernel, by decide +kernel, by decide +kernel⟩
theorem iv_X8_goesWithMoves : Cond.instanceMethod yX8_goesWithMoves ∈ wsA ∧ Cond.selects yX8_goesWithMoves.cls yX8_goesWithMoves yX8_goesWithMoves ∈ wsA := ⟨tb8 (List.mem_of_getElem? (i := 20) rfl) rfl, pv6 (List.mem_of_getElem? (i := 12) rfl) rfl⟩
theorem cf_X8_good : CalF yX8_good cX8_good 1 (some .boolean) 0 := ⟨tb9 (List.mem_of_getElem? (i := 33) rfl) rfl, tb1 (List.mem_of_getElem? (i := 7) rfl) rfl, by decide +kernel, by decide +kernel, by decide +kernel⟩
theorem iv_X8_good : Cond.instanceMethod yX8_good ∈ wsA ∧ Cond.selects yX8_good.cls yX8_good yX8_good ∈ wsA := ⟨tb9 (List.mem_of_getElem? (i := 32) rfl) rfl, pv8 (List.mem_of_getElem? (i := 5) rfl) rfl⟩
theorem cf_X8_has : CalF yX8_has cX8_has 2 (some .int) 1 := ⟨tb8 (List.mem_of_getElem? (i := 91) rfl) rfl, tb1 (List.mem_of_getElem? (i := 7) rfl) rfl, by decide +kernel, by decide +kernel, by decide +kernel⟩
theorem iv_X8_has : Cond.instanceMethod yX8_has ∈ wsA ∧ Cond.selects yX8_has.cls yX8_has yX8_has ∈ wsA := ⟨tb8 (List.mem_of_getElem? (i := 89) rfl) rfl, tb8 (List.mem_of_getElem? (i := 90) rfl) rfl⟩
theorem cf_X8_holds : CalF yX8_holds cX8_holds 5 (some .int) 1 := ⟨tb8 (List.mem_of_getElem? (i := 150) rfl) rfl, tb1 (List.mem_of_getElem? (i := 7) rfl) rfl, by decide +kernel, by decide +kernel, by decide +kernel⟩
theorem iv_X8_holds : Cond.instanceMethod yX8_holds ∈ wsA ∧ Cond.selects yX8_holds.cls yX8_holds yX8_holds ∈ wsA := ⟨tb8 (List.mem_of_getElem? (i := 148) rfl) rfl, tb8 (List.mem_of_getElem? (i := 149) rfl) rfl⟩
theorem cf_X8_home : CalF yX8_home cX8_home 1 (some .int) 0 := ⟨tb8 (List.mem_of_getElem? (i := 219) rfl) rfl, tb1 (List.mem_of_getElem? (i := 7) rfl) rfl, by decide +kernel, by decide +kernel, by decide +kernel⟩
theorem iv_X8_home : Cond.instanceMethod yX8_home ∈ wsA ∧ Cond.selects yX8_home.cls yX8_home yX8_home ∈ wsA := ⟨tb8 (List.mem_of_getElem? (i := 217) rfl) rfl, tb8 (List.mem_of_getElem? (i := 218) rfl) rfl⟩
theorem cf_X8_imageOf : CalF yX8_imageOf cX8_imageOf 4 (some .int) 2 := ⟨tb8 (List.mem_of_getElem? (i := 161) rfl) rfl, tb1 (List.mem_of_getElem? (i := 7) rfl) rfl, by decide +kernel, by decide +kernel, by decide +kernel⟩
theorem st_X8_imageOf : Cond.static yX8_imageOf ∈ wsA := tb8 (List.mem_of_getElem? (i := 160) rfl) rfl
theorem cf_X8_inClass : CalF yX8_inClass cX8_inClass 4 (some .int) 1 := ⟨tb8 (List.mem_of_getElem? (i := 48) rfl) rfl, tb1 (List.mem_of_getElem? (i := 7) rfl) rfl, by decide +kernel, by decide +kernel, by decide +kernel⟩
theorem iv_X8_inClass : Cond.instanceMethod yX8_inClass ∈ wsA ∧ Cond.selects yX8_inClass.cls yX8_inClass yX8_inClass ∈ wsA := ⟨tb8 (List.mem_of_getElem? (i := 47) rfl) rfl, pv7 (List.mem_of_getElem? (i := 0) rfl) rfl⟩
theorem cf_X8_inverse : CalF yX8_inverse cX8_inverse 3 (some .long) 1 := ⟨tb7 (List.mem_of_getElem? (i := 33) rfl) rfl, tb1 (List.mem_of_getElem? (i := 7) rfl) rfl, by decide +kernel, by decide +kernel, by decide +kernel⟩
theorem iv_X8_inverse : Cond.instanceMethod yX8_inverse ∈ wsA ∧ Cond.selects yX8_inverse.cls yX8_inverse yX8_inverse ∈ wsA := ⟨tb7 (List.mem_of_getElem? (i := 31) rfl) rfl, tb7 (List.mem_of_getElem? (i := 32) rfl) rfl⟩
theorem cf_X8_inverts : CalF yX8_inverts cX8_inverts 3 none 2 := ⟨tb6 (List.mem_of_getElem? (i := 238) rfl) rfl, tb1 (List.mem_of_getElem? (i := 7) rfl) rfl, by decide +kernel, by decide +kernel, by decide +kernel⟩
theorem st_X8_inverts : Cond.static yX8_inverts ∈ wsA := tb6 (List.mem_of_getElem? (i := 237) rfl) rfl
theorem cf_X8_is : CalF yX8_is cX8_is 2 (some .boolean) 1 := ⟨tb6 (List.mem_of_getElem? (i := 207) rfl) rfl, tb1 (List.mem_of_getElem? (i := 7) rfl) rfl, by decide +kernel, by decide +kernel, by decide +kernel⟩
theorem iv_X8_is : Cond.instanceMethod yX8_is ∈ wsA ∧ Cond.selects yX8_is.cls yX8_is yX8_is ∈ wsA := ⟨tb6 (List.mem_of_getElem? (i := 206) rfl) rfl, pv4 (List.mem_of_getElem? (i := 0) rfl) rfl⟩
theorem cf_X8_isEven : CalF yX8_isEven cX8_isEven 2 (some .boolean) 1 := ⟨tb7 (List.mem_of_getElem? (i := 70) rfl) rfl, tb1 (List.mem_of_getElem? (i := 7) rfl) rfl, by decide +kernel, by decide +kernel, by decide +kernel⟩
theorem iv_X8_isEven : Cond.instanceMethod yX8_isEven ∈ wsA ∧ Cond.selects yX8_isEven.cls yX8_isEven yX8_isEven ∈ wsA := ⟨tb7 (List.mem_of_getElem? (i := 69) rfl) rfl, pv4 (List.mem_of_getElem? (i := 13) rfl) rfl⟩
theorem cf_X8_isHome : CalF yX8_isHome cX8_isHome 2 none 1 := ⟨tb6 (List.mem_of_getElem? (i := 51) rfl) rfl, tb1 (List.mem_of_getElem? (i := 7) rfl) rfl, by decide +kernel, by decide +kernel, by decide +kernel⟩
theorem st_X8_isHome : Cond.static yX8_isHome ∈ wsA := tb6 (List.mem_of_getElem? (i := 50) rfl) rfl
theorem cf_X8_isIn : CalF yX8_isIn cX8_isIn 6 (some .boolean) 3 := ⟨tb6 (List.mem_of_getElem? (i := 203) rfl) rfl, tb1 (List.mem_of_getElem? (i := 7) rfl) rfl, by decide +kernel, by decide +kernel, by decide +kernel⟩
theorem st_X8_isIn : Cond.static yX8_isIn ∈ wsA := tb6 (List.mem_of_getElem? (i := 202) rfl) rfl
theorem cf_X8_isMember : CalF yX8_isMember cX8_isMember 3 (some .boolean) 2 := ⟨tb7 (List.mem_of_getElem? (i := 173) rfl) rfl, tb1 (List.mem_of_getElem? (i := 7) rfl) rfl, by decide +kernel, by decide +kernel, by decide +kernel⟩
theorem iv_X8_isMember : Cond.instanceMethod yX8_isMember ∈ wsA ∧ Cond.selects yX8_isMember.cls yX8_isMember yX8_isMember ∈ wsA := ⟨tb7 (List.mem_of_getElem? (i := 172) rfl) rfl, pv6 (List.mem_of_getElem? (i := 0) rfl) rfl⟩
theorem cf_X8_isMove : CalF yX8_isMove cX8_isMove 2 (some .boolean) 1 := ⟨tb8 (List.mem_of_getElem? (i := 231) rfl) rfl, tb1 (List.mem_of_getElem? (i := 7) rfl) rfl, by decide +kernel, by decide +kernel, by decide +kernel⟩
theorem iv_X8_isMove : Cond.instanceMethod yX8_isMove ∈ wsA ∧ Cond.selects yX8_isMove.cls yX8_isMove yX8_isMove ∈ wsA := ⟨tb8 (List.mem_of_getElem? (i := 230) rfl) rfl, pv8 (List.mem_of_getElem? (i := 0) rfl) rfl⟩
theorem cf_X8_isName : CalF yX8_isName cX8_isName 1 (some .boolean) 0 := ⟨tb9 (List.mem_of_getElem? (i := 69) rfl) rfl, tb1 (List.mem_of_getElem? (i := 7) rfl) rfl, by decide +kernel, by decide +kernel, by decide +kernel⟩
theorem iv_X8_isName : Cond.instanceMethod yX8_isName ∈ wsA ∧ Cond.selects yX8_isName.cls yX8_isName yX8_isName ∈ wsA := ⟨tb9 (List.mem_of_getElem? (i := 68) rfl) rfl, pv8 (List.mem_of_getElem? (i := 13) rfl) rfl⟩
theorem cf_X8_isOf : CalF yX8_isOf cX8_isOf 4 (some .boolean) 3 := ⟨tb9 (List.mem_of_getElem? (i := 27) rfl) rfl, tb1 (List.mem_of_getElem? (i := 7) rfl) rfl, by decide +kernel, by decide +kernel, by decide +kernel⟩
theorem iv_X8_isOf : Cond.instanceMethod yX8_isOf ∈ wsA ∧ Cond.selects yX8_isOf.cls yX8_isOf yX8_isOf ∈ wsA := ⟨tb9 (List.mem_of_getElem? (i := 26) rfl) rfl, pv8 (List.mem_of_getElem? (i := 4) rfl) rfl⟩
theorem cf_X8_isOwn : CalF yX8_isOwn cX8_isOwn 1 (some .boolean) 1 := ⟨tb8 (List.mem_of_getElem? (i := 83) rfl) rfl, tb1 (List.mem_of_getElem? (i := 7) rfl) rfl, by decide +kernel, by decide +kernel, by decide +kernel⟩
theorem st_X8_isOwn : Cond.static yX8_isOwn ∈ wsA := tb8 (List.mem_of_getElem? (i := 82) rfl) rfl
theorem cf_X8_isPoint : CalF yX8_isPoint cX8_isPoint 2 (some .boolean) 1 := ⟨tb7 (List.mem_of_getElem? (i := 19) rfl) rfl, tb1 (List.mem_of_getElem? (i := 7) rfl) rfl, by decide +kernel, by decide +kernel, by decide +kernel⟩
theorem iv_X8_isPoint : Cond.instanceMethod yX8_isPoint ∈ wsA ∧ Cond.selects yX8_isPoint.cls yX8_isPoint yX8_isPoint ∈ wsA := ⟨tb7 (List.mem_of_getElem? (i := 18) rfl) rfl, pv4 (List.mem_of_getElem? (i := 8) rfl) rfl⟩
theorem cf_X8_isPrimitive : CalF yX8_isPrimitive cX8_isPrimitive 4 (some .boolean) 0 := ⟨tb8 (List.mem_of_getElem? (i := 107) rfl) rfl, tb1 (List.mem_of_getElem? (i := 7) rfl) rfl, by decide +kernel, by decide +kernel, by decide +kernel⟩
theorem iv_X8_isPrimitive : Cond.instanceMethod yX8_isPrimitive ∈ wsA ∧ Cond.selects yX8_isPrimitive.cls yX8_isPrimitive yX8_isPrimitive ∈ wsA := ⟨tb8 (List.mem_of_getElem? (i := 106) rfl) rfl, pv7 (List.mem_of_getElem? (i := 8) rfl) rfl⟩
theorem cf_X8_isSet : CalF yX8_isSet cX8_isSet 2 (some .boolean) 1 := ⟨tb8 (List.mem_of_getElem? (i := 154) rfl) rfl, tb1 (List.mem_of_getElem? (i := 7) rfl) rfl, by decide +kernel, by decide +kernel, by decide +kernel⟩
theorem iv_X8_isSet : Cond.instanceMethod yX8_isSet ∈ wsA ∧ Cond.selects yX8_isSet.cls yX8_isSet yX8_isSet ∈ wsA := ⟨tb8 (List.mem_of_getElem? (i := 153) rfl) rfl, pv7 (List.mem_of_getElem? (i := 13) rfl) rfl⟩
theorem cf_X8_isSign : CalF yX8_isSign cX8_isSign 2 (some .boolean) 1 := ⟨tb9 (List.mem_of_getElem? (i := 81) rfl) rfl, tb1 (List.mem_of_getElem? (i := 7) rfl) rfl, by decide +kernel, by decide +kernel, by decide +kernel⟩
theorem iv_X8_isSign : Cond.instanceMethod yX8_isSign ∈ wsA ∧ Cond.selects yX8_isSign.cls yX8_isSign yX8_isSign ∈ wsA := ⟨tb9 (List.mem_of_getElem? (i := 80) rfl) rfl, pv9 (List.mem_of_getElem? (i := 0) rfl) rfl⟩
theorem cf_X8_isSmall : CalF yX8_isSmall cX8_isSmall 1 (some .boolean) 0 := ⟨tb7 (List.mem_of_getElem? (i := 213) rfl) rfl, tb1 (List.mem_of_getElem? (i := 7) rfl) rfl, by decide +kernel, by decide +kernel, by decide +kernel⟩
theorem iv_X8_isSmall : Cond.instanceMethod yX8_isSmall ∈ wsA ∧ Cond.selects yX8_isSmall.cls yX8_isSmall yX8_isSmall ∈ wsA := ⟨tb7 (List.mem_of_getElem? (i := 212) rfl) rfl, pv6 (List.mem_of_getElem? (i := 6) rfl) rfl⟩
theorem cf_X8_isStep : CalF yX8_isStep cX8_isStep 2 (some .boolean) 1 := ⟨tb6 (List.mem_of_getElem? (i := 226) rfl) rfl, tb1 (List.mem_of_getElem? (i := 7) rfl) rfl, by decide +kernel, by decide +kernel, by decide +kernel⟩
theorem iv_X8_isStep : Cond.instanceMethod yX8_isStep ∈ wsA ∧ Cond.selects yX8_isStep.cls yX8_isStep yX8_isStep ∈ wsA := ⟨tb6 (List.mem_of_getElem? (i := 225) rfl) rfl, pv4 (List.mem_of_getElem? (i := 3) rfl) rfl⟩
theorem cf_X8_isWhole : CalF yX8_isWhole cX8_isWhole 2 (some .boolean) 1 := ⟨tb8 (List.mem_of_getElem? (i := 139) rfl) rfl, tb1 (List.mem_of_getElem? (i := 7) rfl) rfl, by decide +kernel, by decide +kernel, by decide +kernel⟩
theorem iv_X8_isWhole : Cond.instanceMethod yX8_isWhole ∈ wsA ∧ Cond.selects yX8_isWhole.cls yX8_isWhole yX8_isWhole ∈ wsA := ⟨tb8 (List.mem_of_getElem? (i := 138) rfl) rfl, pv7 (List.mem_of_getElem? (i := 12) rfl) rfl⟩
theorem cf_X8_isWord : CalF yX8_isWord cX8_isWord 3 (some .boolean) 1 := ⟨tb9 (List.mem_of_getElem? (i := 42) rfl) rfl, tb1 (List.mem_of_getElem? (i := 7) rfl) rfl, by decide +kernel, by decide +kernel, by decide +kernel⟩
theorem iv_X8_isWord : Cond.instanceMethod yX8_isWord ∈ wsA ∧ Cond.selects yX8_isWord.cls yX8_isWord yX8_isWord ∈ wsA := ⟨tb9 (List.mem_of_getElem? (i := 41) rfl) rfl, pv8 (List.mem_of_getElem? (i := 7) rfl) rfl⟩
theorem cf_X8_joins : CalF yX8_joins cX8_joins 6 (some .boolean) 2 := ⟨tb8 (List.mem_of_getElem? (i := 115) rfl) rfl, tb1 (List.mem_of_getElem? (i := 7) rfl) rfl, by decide +kernel, by decide +kernel, by decide +kernel⟩
theorem iv_X8_joins : Cond.instanceMethod yX8_joins ∈ wsA ∧ Cond.selects yX8_joins.cls yX8_joins yX8_joins ∈ wsA := ⟨tb8 (List.mem_of_getElem? (i := 114) rfl) rfl, pv7 (List.mem_of_getElem? (i := 10) rfl) rfl⟩
theorem cf_X8_keeps : CalF yX8_keeps cX8_keeps 4 (some .int) 1 := ⟨tb8 (List.mem_of_getElem? (i := 158) rfl) rfl, tb1 (List.mem_of_getElem? (i := 7) rfl) rfl, by decide +kernel, by decide +kernel, by decide +kernel⟩
theorem iv_X8_keeps : Cond.instanceMethod yX8_keeps ∈ wsA ∧ Cond.selects yX8_keeps.cls yX8_keeps yX8_keeps ∈ wsA := ⟨tb8 (List.mem_of_getElem? (i := 156) rfl) rfl, tb8 (List.mem_of_getElem? (i := 157) rfl) rfl⟩
theorem cf_X8_laysAll : CalF yX8_laysAll cX8_laysAll 2 none 0 := ⟨tb7 (List.mem_of_getElem? (i := 221) rfl) rfl, tb1 (List.mem_of_getElem? (i := 7) rfl) rfl, by decide +kernel, by decide +kernel, by decide +kernel⟩
theorem iv_X8_laysAll : Cond.instanceMethod yX8_laysAll ∈ wsA ∧ Cond.selects yX8_laysAll.cls yX8_laysAll yX8_laysAll ∈ wsA := ⟨tb7 (List.mem_of_getElem? (i := 220) rfl) rfl, pv6 (List.mem_of_getElem? (i := 8) rfl) rfl⟩
theorem cf_X8_laysCell : CalF yX8_laysCell cX8_laysCell 5 none 4 := ⟨tb7 (List.mem_of_getElem? (i := 129) rfl) rfl, tb1 (List.mem_of_getElem? (i := 7) rfl) rfl, by decide +kernel, by decide +kernel, by decide +kernel⟩
theorem iv_X8_laysCell : Cond.instanceMethod yX8_laysCell ∈ wsA ∧ Cond.selects yX8_laysCell.cls yX8_laysCell yX8_laysCell ∈ wsA := ⟨tb7 (List.mem_of_getElem? (i := 128) rfl) rfl, pv5 (List.mem_of_getElem? (i := 8) rfl) rfl⟩
theorem cf_X8_laysClass : CalF yX8_laysClass cX8_laysClass 6 (some .int) 1 := ⟨tb8 (List.mem_of_getElem? (i := 36) rfl) rfl, tb1 (List.mem_of_getElem? (i := 7) rfl) rfl, by decide +kernel, by decide +kernel, by decide +kernel⟩
theorem iv_X8_laysClass : Cond.instanceMethod yX8_laysClass ∈ wsA ∧ Cond.selects yX8_laysClass.cls yX8_laysClass yX8_laysClass ∈ wsA := ⟨tb8 (List.mem_of_getElem? (i := 35) rfl) rfl, pv6 (List.mem_of_getElem? (i := 14) rfl) rfl⟩
theorem cf_X8_laysClasses : CalF yX8_laysClasses cX8_laysClasses 3 (some .int) 0 := ⟨tb8 (List.mem_of_getElem? (i := 32) rfl) rfl, tb1 (List.mem_of_getElem? (i := 7) rfl) rfl, by decide +kernel, by decide +kernel, by decide +kernel⟩
theorem iv_X8_laysClasses : Cond.instanceMethod yX8_laysClasses ∈ wsA ∧ Cond.selects yX8_laysClasses.cls yX8_laysClasses yX8_laysClasses ∈ wsA := ⟨tb8 (List.mem_of_getElem? (i := 31) rfl) rfl, pv6 (List.mem_of_getElem? (i := 13) rfl) rfl⟩
theorem cf_X8_laysCommutators : CalF yX8_laysCommutators cX8_laysCommutators 7 none 3 := ⟨tb8 (List.mem_of_getElem? (i := 80) rfl) rfl, tb1 (List.mem_of_getElem? (i := 7) rfl) rfl, by decide +kernel, by decide +kernel, by decide +kernel⟩
theorem iv_X8_laysCommutators : Cond.instanceMethod yX8_laysCommutators ∈ wsA ∧ Cond.selects yX8_laysCommutators.cls yX8_laysCommutators yX8_laysCommutators ∈ wsA := ⟨tb8 (List.mem_of_getElem? (i := 79) rfl) rfl, pv7 (List.mem_of_getElem? (i := 4) rfl) rfl⟩
theorem cf_X8_laysDepths : CalF yX8_laysDepths cX8_laysDepths 5 none 0 := ⟨tb7 (List.mem_of_getElem? (i := 217) rfl) rfl, tb1 (List.mem_of_getElem? (i := 7) rfl) rfl, by decide +kernel, by decide +kernel, by decide +kernel⟩
theorem iv_X8_laysDepths : Cond.instanceMethod yX8_laysDepths ∈ wsA ∧ Cond.selects yX8_laysDepths.cls yX8_laysDepths yX8_laysDepths ∈ wsA := ⟨tb7 (List.mem_of_getElem? (i := 216) rfl) rfl, pv6 (List.mem_of_getElem? (i := 7) rfl) rfl⟩
theorem cf_X8_laysMove : CalF yX8_laysMove cX8_laysMove 3 none 2 := ⟨tb6 (List.mem_of_getElem? (i := 235) rfl) rfl, tb1 (List.mem_of_getElem? (i := 7) rfl) rfl, by decide +kernel, by decide +kernel, by decide +kernel⟩
theorem iv_X8_laysMove : Cond.instanceMethod yX8_laysMove ∈ wsA ∧ Cond.selects yX8_laysMove.cls yX8_laysMove yX8_laysMove ∈ wsA := ⟨tb6 (List.mem_of_getElem? (i := 234) rfl) rfl, pv4 (List.mem_of_getElem? (i := 5) rfl) rfl⟩
theorem cf_X8_laysNth : CalF yX8_laysNth cX8_laysNth 10 none 2 := ⟨tb7 (List.mem_of_getElem? (i := 189) rfl) rfl, tb1 (List.mem_of_getElem? (i := 7) rfl) rfl, by decide +kernel, by decide +kernel, by decide +kernel⟩
theorem iv_X8_laysNth : Cond.instanceMethod yX8_laysNth ∈ wsA ∧ Cond.selects yX8_laysNth.cls yX8_laysNth yX8_laysNth ∈ wsA := ⟨tb7 (List.mem_of_getElem? (i := 188) rfl) rfl, pv6 (List.mem_of_getElem? (i := 2) rfl) rfl⟩
theorem cf_X8_laysOne : CalF yX8_laysOne cX8_laysOne 3 none 2 := ⟨tb7 (List.mem_of_getElem? (i := 225) rfl) rfl, tb1 (List.mem_of_getElem? (i := 7) rfl) rfl, by decide +kernel, by decide +kernel, by decide +kernel⟩
theorem iv_X8_laysOne : Cond.instanceMethod yX8_laysOne ∈ wsA ∧ Cond.selects yX8_laysOne.cls yX8_laysOne yX8_laysOne ∈ wsA := ⟨tb7 (List.mem_of_getElem? (i := 224) rfl) rfl, pv6 (List.mem_of_getElem? (i := 9) rfl) rfl⟩
theorem cf_X8_laysStand : CalF yX8_laysStand cX8_laysStand 2 none 1 := ⟨tb6 (List.mem_of_getElem? (i := 211) rfl) rfl, tb1 (List.mem_of_getElem? (i := 7) rfl) rfl, by decide +kernel, by decide +kernel, by decide +kernel⟩
theorem iv_X8_laysStand : Cond.instanceMethod yX8_laysStand ∈ wsA ∧ Cond.selects yX8_laysStand.cls yX8_laysStand yX8_laysStand ∈ wsA := ⟨tb6 (List.mem_of_getElem? (i := 210) rfl) rfl, pv4 (List.mem_of_getElem? (i := 1) rfl) rfl⟩
theorem cf_X8_laysStep : CalF yX8_laysStep cX8_laysStep 3 none 2 := ⟨tb6 (List.mem_of_getElem? (i := 231) rfl) rfl, tb1 (List.mem_of_getElem? (i := 7) rfl) rfl, by decide +kernel, by decide +kernel, by decide +kernel⟩
theorem iv_X8_laysStep : Cond.instanceMethod yX8_laysStep ∈ wsA ∧ Cond.selects yX8_laysStep.cls yX8_laysStep yX8_laysStep ∈ wsA := ⟨tb6 (List.mem_of_getElem? (i := 230) rfl) rfl, pv4 (List.mem_of_getElem? (i := 4) rfl) rfl⟩
theorem cf_X8_level : CalF yX8_level cX8_level 5 (some .int) 1 := ⟨tb7 (List.mem_of_getElem? (i := 149) rfl) rfl, tb1 (List.mem_of_getElem? (i := 7) rfl) rfl, by decide +kernel, by decide +kernel, by decide +kernel⟩
theorem iv_X8_level : Cond.instanceMethod yX8_level ∈ wsA ∧ Cond.selects yX8_level.cls yX8_level yX8_level ∈ wsA := ⟨tb7 (List.mem_of_getElem? (i := 147) rfl) rfl, tb7 (List.mem_of_getElem? (i := 148) rfl) rfl⟩
theorem cf_X8_lies : CalF yX8_lies cX8_lies 8 (some .boolean) 2 := ⟨tb7 (List.mem_of_getElem? (i := 15) rfl) rfl, tb1 (List.mem_of_getElem? (i := 7) rfl) rfl, by decide +kernel, by decide +kernel, by decide +kernel⟩
theorem iv_X8_lies : Cond.instanceMethod yX8_lies ∈ wsA ∧ Cond.selects yX8_lies.cls yX8_lies yX8_lies ∈ wsA := ⟨tb7 (List.mem_of_getElem? (i := 14) rfl) rfl, pv4 (List.mem_of_getElem? (i := 7) rfl) rfl⟩
theorem cf_X8_line : CalF yX8_line cX8_line 1 none 0 := ⟨tb9 (List.mem_of_getElem? (i := 37) rfl) rfl, tb1 (List.mem_of_getElem? (i := 7) rfl) rfl, by decide +kernel, by decide +kernel, by decide +kernel⟩
theorem iv_X8_line : Cond.instanceMethod yX8_line ∈ wsA ∧ Cond.selects yX8_line.cls yX8_line yX8_line ∈ wsA := ⟨tb9 (List.mem_of_getElem? (i := 36) rfl) rfl, pv8 (List.mem_of_getElem? (i := 6) rfl) rfl⟩
theorem cf_X8_load : CalF yX8_load cX8_load 3 (some .int) 1 := ⟨tb9 (List.mem_of_getElem? (i := 19) rfl) rfl, tb1 (List.mem_of_getElem? (i := 7) rfl) rfl, by decide +kernel, by decide +kernel, by decide +kernel⟩
theorem iv_X8_load : Cond.instanceMethod yX8_load ∈ wsA ∧ Cond.selects yX8_load.cls yX8_load yX8_load ∈ wsA := ⟨tb9 (List.mem_of_getElem? (i := 17) rfl) rfl, tb9 (List.mem_of_getElem? (i := 18) rfl) rfl⟩
theorem cf_X8_makes : CalF yX8_makes cX8_makes 4 none 3 := ⟨tb7 (List.mem_of_getElem? (i := 29) rfl) rfl, tb1 (List.mem_of_getElem? (i := 7) rfl) rfl, by decide +kernel, by decide +kernel, by decide +kernel⟩
theorem st_X8_makes : Cond.static yX8_makes ∈ wsA := tb7 (List.mem_of_getElem? (i := 28) rfl) rfl
theorem cf_X8_many : CalF yX8_many cX8_many 2 (some .int) 1 := ⟨tb6 (List.mem_of_getElem? (i := 199) rfl) rfl, tb1 (List.mem_of_getElem? (i := 7) rfl) rfl, by decide +kernel, by decide +kernel, by decide +kernel⟩
theorem iv_X8_many : Cond.instanceMethod yX8_many ∈ wsA ∧ Cond.selects yX8_many.cls yX8_many yX8_many ∈ wsA := ⟨tb6 (List.mem_of_getElem? (i := 197) rfl) rfl, tb6 (List.mem_of_getElem? (i := 198) rfl) rfl⟩
theorem cf_X8_mean : CalF yX8_mean cX8_mean 4 (some .int) 1 := ⟨tb8 (List.mem_of_getElem? (i := 5) rfl) rfl, tb1 (List.mem_of_getElem? (i := 7) rfl) rfl, by decide +kernel, by decide +kernel, by decide +kernel⟩
theorem iv_X8_mean : Cond.instanceMethod yX8_mean ∈ wsA ∧ Cond.selects yX8_mean.cls yX8_mean yX8_mean ∈ wsA := ⟨tb8 (List.mem_of_getElem? (i := 3) rfl) rfl, tb8 (List.mem_of_getElem? (i := 4) rfl) rfl⟩
theorem cf_X8_meet : CalF yX8_meet cX8_meet 5 (some .int) 2 := ⟨tb8 (List.mem_of_getElem? (i := 127) rfl) rfl, tb1 (List.mem_of_getElem? (i := 7) rfl) rfl, by decide +kernel, by decide +kernel, by decide +kernel⟩
theorem iv_X8_meet : Cond.instanceMethod yX8_meet ∈ wsA ∧ Cond.selects yX8_meet.cls yX8_meet yX8_meet ∈ wsA := ⟨tb8 (List.mem_of_getElem? (i := 125) rfl) rfl, tb8 (List.mem_of_getElem? (i := 126) rfl) rfl⟩
theorem cf_X8_member : CalF yX8_member cX8_member 3 (some .int) 1 := ⟨tb7 (List.mem_of_getElem? (i := 169) rfl) rfl, tb1 (List.mem_of_getElem? (i := 7) rfl) rfl, by decide +kernel, by decide +kernel, by decide +kernel⟩
theorem iv_X8_member : Cond.instanceMethod yX8_member ∈ wsA ∧ Cond.selects yX8_member.cls yX8_member yX8_member ∈ wsA := ⟨tb7 (List.mem_of_getElem? (i := 167) rfl) rfl, tb7 (List.mem_of_getElem? (i := 168) rfl) rfl⟩
theorem cf_X8_moves : CalF yX8_moves cX8_moves 1 (some .int) 0 := ⟨tb6 (List.mem_of_getElem? (i := 215) rfl) rfl, tb1 (List.mem_of_getElem? (i := 7) rfl) rfl, by decide +kernel, by decide +kernel, by decide +kernel⟩
theorem iv_X8_moves : Cond.instanceMethod yX8_moves ∈ wsA ∧ Cond.selects yX8_moves.cls yX8_moves yX8_moves ∈ wsA := ⟨tb6 (List.mem_of_getElem? (i := 214) rfl) rfl, pv4 (List.mem_of_getElem? (i := 2) rfl) rfl⟩
theorem cf_X8_must : CalF yX8_must cX8_must 3 none 2 := ⟨tb9 (List.mem_of_getElem? (i := 50) rfl) rfl, tb1 (List.mem_of_getElem? (i := 7) rfl) rfl, by decide +kernel, by decide +kernel, by decide +kernel⟩
theorem iv_X8_must : Cond.instanceMethod yX8_must ∈ wsA ∧ Cond.selects yX8_must.cls yX8_must yX8_must ∈ wsA := ⟨tb9 (List.mem_of_getElem? (i := 49) rfl) rfl, pv8 (List.mem_of_getElem? (i := 9) rfl) rfl⟩
theorem cf_X8_nameNow : CalF yX8_nameNow cX8_nameNow 2 (some .int) 0 := ⟨tb9 (List.mem_of_getElem? (i := 73) rfl) rfl, tb1 (List.mem_of_getElem? (i := 7) rfl) rfl, by decide +kernel, by decide +kernel, by decide +kernel⟩
theorem iv_X8_nameNow : Cond.instanceMethod yX8_nameNow ∈ wsA ∧ Cond.selects yX8_nameNow.cls yX8_nameNow yX8_nameNow ∈ wsA := ⟨tb9 (List.mem_of_getElem? (i := 72) rfl) rfl, pv8 (List.mem_of_getElem? (i := 14) rfl) rfl⟩
theorem cf_X8_nearer : CalF yX8_nearer cX8_nearer 4 (some .int) 0 := ⟨tb8 (List.mem_of_getElem? (i := 9) rfl) rfl, tb1 (List.mem_of_getElem? (i := 7) rfl) rfl, by decide +kernel, by decide +kernel, by decide +kernel⟩
theorem iv_X8_nearer : Cond.instanceMethod yX8_nearer ∈ wsA ∧ Cond.selects yX8_nearer.cls yX8_nearer yX8_nearer ∈ wsA := ⟨tb8 (List.mem_of_getElem? (i := 7) rfl) rfl, tb8 (List.mem_of_getElem? (i := 8) rfl) rfl⟩
theorem cf_X8_normal : CalF yX8_normal cX8_normal 5 (some .int) 1 := ⟨tb8 (List.mem_of_getElem? (i := 131) rfl) rfl, tb1 (List.mem_of_getElem? (i := 7) rfl) rfl, by decide +kernel, by decide +kernel, by decide +kernel⟩
theorem iv_X8_normal : Cond.instanceMethod yX8_normal ∈ wsA ∧ Cond.selects yX8_normal.cls yX8_normal yX8_normal ∈ wsA := ⟨tb8 (List.mem_of_getElem? (i := 129) rfl) rfl, tb8 (List.mem_of_getElem? (i := 130) rfl) rfl⟩
theorem cf_X8_nth : CalF yX8_nth cX8_nth 2 (some .long) 1 := ⟨tb7 (List.mem_of_getElem? (i := 185) rfl) rfl, tb1 (List.mem_of_getElem? (i := 7) rfl) rfl, by decide +kernel, by decide +kernel, by decide +kernel⟩
theorem iv_X8_nth : Cond.instanceMethod yX8_nth ∈ wsA ∧ Cond.selects yX8_nth.cls yX8_nth yX8_nth ∈ wsA := ⟨tb7 (List.mem_of_getElem? (i := 183) rfl) rfl, tb7 (List.mem_of_getElem? (i := 184) rfl) rfl⟩
theorem cf_X8_ofOrder : CalF yX8_ofOrder cX8_ofOrder 4 (some .int) 1 := ⟨tb8 (List.mem_of_getElem? (i := 203) rfl) rfl, tb1 (List.mem_of_getElem? (i := 7) rfl) rfl, by decide +kernel, by decide +kernel, by decide +kernel⟩
theorem iv_X8_ofOrder : Cond.instanceMethod yX8_ofOrder ∈ wsA ∧ Cond.selects yX8_ofOrder.cls yX8_ofOrder yX8_ofOrder ∈ wsA := ⟨tb8 (List.mem_of_getElem? (i := 201) rfl) rfl, tb8 (List.mem_of_getElem? (i := 202) rfl) rfl⟩
theorem cf_X8_orbit : CalF yX8_orbit cX8_orbit 2 (some .int) 1 := ⟨tb7 (List.mem_of_getElem? (i := 74) rfl) rfl, tb1 (List.mem_of_getElem? (i := 7) rfl) rfl, by decide +kernel, by decide +kernel, by decide +kernel⟩
theorem iv_X8_orbit : Cond.instanceMethod yX8_orbit ∈ wsA ∧ Cond.selects yX8_orbit.cls yX8_orbit yX8_orbit ∈ wsA := ⟨tb7 (List.mem_of_getElem? (i := 72) rfl) rfl, tb7 (List.mem_of_getElem? (i := 73) rfl) rfl⟩
theorem cf_X8_orbitOf : CalF yX8_orbitOf cX8_orbitOf 6 (some .int) 1 := ⟨tb7 (List.mem_of_getElem? (i := 78) rfl) rfl, tb1 (List.mem_of_getElem? (i := 7) rfl) rfl, by decide +kernel, by decide +kernel, by decide +kernel⟩
theorem iv_X8_orbitOf : Cond.instanceMethod yX8_orbitOf ∈ wsA ∧ Cond.selects yX8_orbitOf.cls yX8_orbitOf yX8_orbitOf ∈ wsA := ⟨tb7 (List.mem_of_getElem? (i := 77) rfl) rfl, pv4 (List.mem_of_getElem? (i := 14) rfl) rfl⟩
theorem cf_X8_orbits : CalF yX8_orbits cX8_orbits 3 (some .int) 0 := ⟨tb7 (List.mem_of_getElem? (i := 85) rfl) rfl, tb1 (List.mem_of_getElem? (i := 7) rfl) rfl, by decide +kernel, by decide +kernel, by decide +kernel⟩
theorem iv_X8_orbits : Cond.instanceMethod yX8_orbits ∈ wsA ∧ Cond.selects yX8_orbits.cls yX8_orbits yX8_orbits ∈ wsA := ⟨tb7 (List.mem_of_getElem? (i := 83) rfl) rfl, tb7 (List.mem_of_getElem? (i := 84) rfl) rfl⟩
theorem cf_X8_order : CalF yX8_order cX8_order 1 (some .int) 0 := ⟨tb7 (List.mem_of_getElem? (i := 153) rfl) rfl, tb1 (List.mem_of_getElem? (i := 7) rfl) rfl, by decide +kernel, by decide +kernel, by decide +kernel⟩
theorem iv_X8_order : Cond.instanceMethod yX8_order ∈ wsA ∧ Cond.selects yX8_order.cls yX8_order yX8_order ∈ wsA := ⟨tb7 (List.mem_of_getElem? (i := 151) rfl) rfl, tb7 (List.mem_of_getElem? (i := 152) rfl) rfl⟩
theorem cf_X8_orderFrom : CalF yX8_orderFrom cX8_orderFrom 5 (some .int) 2 := ⟨tb7 (List.mem_of_getElem? (i := 165) rfl) rfl, tb1 (List.mem_of_getElem? (i := 7) rfl) rfl, by decide +kernel, by decide +kernel, by decide +kernel⟩
theorem iv_X8_orderFrom : Cond.instanceMethod yX8_orderFrom ∈ wsA ∧ Cond.selects yX8_orderFrom.cls yX8_orderFrom yX8_orderFrom ∈ wsA := ⟨tb7 (List.mem_of_getElem? (i := 164) rfl) rfl, pv5 (List.mem_of_getElem? (i := 15) rfl) rfl⟩
theorem cf_X8_orderNow : CalF yX8_orderNow cX8_orderNow 1 (some .int) 0 := ⟨tb7 (List.mem_of_getElem? (i := 157) rfl) rfl, tb1 (List.mem_of_getElem? (i := 7) rfl) rfl, by decide +kernel, by decide +kernel, by decide +kernel⟩
theorem iv_X8_orderNow : Cond.instanceMethod yX8_orderNow ∈ wsA ∧ Cond.selects yX8_orderNow.cls yX8_orderNow yX8_orderNow ∈ wsA := ⟨tb7 (List.mem_of_getElem? (i := 156) rfl) rfl, pv5 (List.mem_of_getElem? (i := 13) rfl) rfl⟩
theorem cf_X8_orderOf : CalF yX8_orderOf cX8_orderOf 2 (some .int) 1 := ⟨tb7 (List.mem_of_getElem? (i := 161) rfl) rfl, tb1 (List.mem_of_getElem? (i := 7) rfl) rfl, by decide +kernel, by decide +kernel, by decide +kernel⟩
theorem iv_X8_orderOf : Cond.instanceMethod yX8_orderOf ∈ wsA ∧ Cond.selects yX8_orderOf.cls yX8_orderOf yX8_orderOf ∈ wsA := ⟨tb7 (List.mem_of_getElem? (i := 160) rfl) rfl, pv5 (List.mem_of_getElem? (i := 14) rfl) rfl⟩
theorem cf_X8_orderOf_ : CalF yX8_orderOf_ cX8_orderOf_ 5 (some .int) 1 := ⟨tb7 (List.mem_of_getElem? (i := 52) rfl) rfl, tb1 (List.mem_of_getElem? (i := 7) rfl) rfl, by decide +kernel, by decide +kernel, by decide +kernel⟩
theorem iv_X8_orderOf_ : Cond.instanceMethod yX8_orderOf_ ∈ wsA ∧ Cond.selects yX8_orderOf_.cls yX8_orderOf_ yX8_orderOf_ ∈ wsA := ⟨tb7 (List.mem_of_getElem? (i := 51) rfl) rfl, pv4 (List.mem_of_getElem? (i := 10) rfl) rfl⟩
theorem cf_X8_out : CalF yX8_out cX8_out 2 (some .int) 1 := ⟨tb9 (List.mem_of_getElem? (i := 7) rfl) rfl, tb1 (List.mem_of_getElem? (i := 7) rfl) rfl, by decide +kernel, by decide +kernel, by decide +kernel⟩
theorem iv_X8_out : Cond.instanceMethod yX8_out ∈ wsA ∧ Cond.selects yX8_out.cls yX8_out yX8_out ∈ wsA := ⟨tb9 (List.mem_of_getElem? (i := 5) rfl) rfl, tb9 (List.mem_of_getElem? (i := 6) rfl) rfl⟩
theorem cf_X8_place : CalF yX8_place cX8_place 4 (some .int) 1 := ⟨tb8 (List.mem_of_getElem? (i := 215) rfl) rfl, tb1 (List.mem_of_getElem? (i := 7) rfl) rfl, by decide +kernel, by decide +kernel, by decide +kernel⟩
theorem iv_X8_place : Cond.instanceMethod yX8_place ∈ wsA ∧ Cond.selects yX8_place.cls yX8_place yX8_place ∈ wsA := ⟨tb8 (List.mem_of_getElem? (i := 213) rfl) rfl, tb8 (List.mem_of_getElem? (i := 214) rfl) rfl⟩
theorem cf_X8_placeOf : CalF yX8_placeOf cX8_placeOf 7 (some .int) 1 := ⟨tb7 (List.mem_of_getElem? (i := 201) rfl) rfl, tb1 (List.mem_of_getElem? (i := 7) rfl) rfl, by decide +kernel, by decide +kernel, by decide +kernel⟩
theorem iv_X8_placeOf : Cond.instanceMethod yX8_placeOf ∈ wsA ∧ Cond.selects yX8_placeOf.cls yX8_placeOf yX8_placeOf ∈ wsA := ⟨tb7 (List.mem_of_getElem? (i := 200) rfl) rfl, pv6 (List.mem_of_getElem? (i := 4) rfl) rfl⟩
theorem cf_X8_placed : CalF yX8_placed cX8_placed 2 (some .int) 1 := ⟨tb7 (List.mem_of_getElem? (i := 197) rfl) rfl, tb1 (List.mem_of_getElem? (i := 7) rfl) rfl, by decide +kernel, by decide +kernel, by decide +kernel⟩
theorem iv_X8_placed : Cond.instanceMethod yX8_placed ∈ wsA ∧ Cond.selects yX8_placed.cls yX8_placed yX8_placed ∈ wsA := ⟨tb7 (List.mem_of_getElem? (i := 196) rfl) rfl, pv6 (List.mem_of_getElem? (i := 3) rfl) rfl⟩
theorem cf_X8_power : CalF yX8_power cX8_power 4 (some .long) 2 := ⟨tb7 (List.mem_of_getElem? (i := 37) rfl) rfl, tb1 (List.mem_of_getElem? (i := 7) rfl) rfl, by decide +kernel, by decide +kernel, by decide +kernel⟩
theorem iv_X8_power : Cond.instanceMethod yX8_power ∈ wsA ∧ Cond.selects yX8_power.cls yX8_power yX8_power ∈ wsA := ⟨tb7 (List.mem_of_getElem? (i := 35) rfl) rfl, tb7 (List.mem_of_getElem? (i := 36) rfl) rfl⟩
theorem cf_X8_powers : CalF yX8_powers cX8_powers 6 none 3 := ⟨tb7 (List.mem_of_getElem? (i := 43) rfl) rfl, tb1 (List.mem_of_getElem? (i := 7) rfl) rfl, by decide +kernel, by decide +kernel, by decide +kernel⟩
theorem iv_X8_powers : Cond.instanceMethod yX8_powers ∈ wsA ∧ Cond.selects yX8_powers.cls yX8_powers yX8_powers ∈ wsA := ⟨tb7 (List.mem_of_getElem? (i := 42) rfl) rfl, pv4 (List.mem_of_getElem? (i := 9) rfl) rfl⟩
theorem cf_X8_print : CalF yX8_print cX8_print 5 (some .int) 1 := ⟨tb8 (List.mem_of_getElem? (i := 239) rfl) rfl, tb1 (List.mem_of_getElem? (i := 7) rfl) rfl, by decide +kernel, by decide +kernel, by decide +kernel⟩
theorem iv_X8_print : Cond.instanceMethod yX8_print ∈ wsA ∧ Cond.selects yX8_print.cls yX8_print yX8_print ∈ wsA := ⟨tb8 (List.mem_of_getElem? (i := 237) rfl) rfl, tb8 (List.mem_of_getElem? (i := 238) rfl) rfl⟩
theorem cf_X8_product : CalF yX8_product cX8_product 5 (some .long) 2 := ⟨tb7 (List.mem_of_getElem? (i := 26) rfl) rfl, tb1 (List.mem_of_getElem? (i := 7) rfl) rfl, by decide +kernel, by decide +kernel, by decide +kernel⟩
theorem iv_X8_product : Cond.instanceMethod yX8_product ∈ wsA ∧ Cond.selects yX8_product.cls yX8_product yX8_product ∈ wsA := ⟨tb7 (List.mem_of_getElem? (i := 24) rfl) rfl, tb7 (List.mem_of_getElem? (i := 25) rfl) rfl⟩
theorem cf_X8_rank : CalF yX8_rank cX8_rank 4 (some .int) 1 := ⟨tb7 (List.mem_of_getElem? (i := 193) rfl) rfl, tb1 (List.mem_of_getElem? (i := 7) rfl) rfl, by decide +kernel, by decide +kernel, by decide +kernel⟩
theorem iv_X8_rank : Cond.instanceMethod yX8_rank ∈ wsA ∧ Cond.selects yX8_rank.cls yX8_rank yX8_rank ∈ wsA := ⟨tb7 (List.mem_of_getElem? (i := 191) rfl) rfl, tb7 (List.mem_of_getElem? (i := 192) rfl) rfl⟩
theorem cf_X8_reads : CalF yX8_reads cX8_reads 1 none 0 := ⟨tb9 (List.mem_of_getElem? (i := 23) rfl) rfl, tb1 (List.mem_of_getElem? (i := 7) rfl) rfl, by decide +kernel, by decide +kernel, by decide +kernel⟩
theorem iv_X8_reads : Cond.instanceMethod yX8_reads ∈ wsA ∧ Cond.selects yX8_reads.cls yX8_reads yX8_reads ∈ wsA := ⟨tb9 (List.mem_of_getElem? (i := 22) rfl) rfl, pv8 (List.mem_of_getElem? (i := 3) rfl) rfl⟩
theorem cf_X8_readsCycle : CalF yX8_readsCycle cX8_readsCycle 5 (some .int) 1 := ⟨tb9 (List.mem_of_getElem? (i := 77) rfl) rfl, tb1 (List.mem_of_getElem? (i := 7) rfl) rfl, by decide +kernel, by decide +kernel, by decide +kernel⟩
theorem iv_X8_readsCycle : Cond.instanceMethod yX8_readsCycle ∈ wsA ∧ Cond.selects yX8_readsCycle.cls yX8_readsCycle yX8_readsCycle ∈ wsA := ⟨tb9 (List.mem_of_getElem? (i := 76) rfl) rfl, pv8 (List.mem_of_getElem? (i := 15) rfl) rfl⟩
theorem cf_X8_readsItem : CalF yX8_readsItem cX8_readsItem 2 none 0 := ⟨tb9 (List.mem_of_getElem? (i := 89) rfl) rfl, tb1 (List.mem_of_getElem? (i := 7) rfl) rfl, by decide +kernel, by decide +kernel, by decide +kernel⟩
theorem iv_X8_readsItem : Cond.instanceMethod yX8_readsItem ∈ wsA ∧ Cond.selects yX8_readsItem.cls yX8_readsItem yX8_readsItem ∈ wsA := ⟨tb9 (List.mem_of_getElem? (i := 88) rfl) rfl, pv9 (List.mem_of_getElem? (i := 2) rfl) rfl⟩
theorem cf_X8_readsMove : CalF yX8_readsMove cX8_readsMove 2 none 0 := ⟨tb9 (List.mem_of_getElem? (i := 61) rfl) rfl, tb1 (List.mem_of_getElem? (i := 7) rfl) rfl, by decide +kernel, by decide +kernel, by decide +kernel⟩
theorem iv_X8_readsMove : Cond.instanceMethod yX8_readsMove ∈ wsA ∧ Cond.selects yX8_readsMove.cls yX8_readsMove yX8_readsMove ∈ wsA := ⟨tb9 (List.mem_of_getElem? (i := 60) rfl) rfl, pv8 (List.mem_of_getElem? (i := 11) rfl) rfl⟩
theorem cf_X8_readsPoints : CalF yX8_readsPoints cX8_readsPoints 1 none 0 := ⟨tb9 (List.mem_of_getElem? (i := 46) rfl) rfl, tb1 (List.mem_of_getElem? (i := 7) rfl) rfl, by decide +kernel, by decide +kernel, by decide +kernel⟩
theorem iv_X8_readsPoints : Cond.instanceMethod yX8_readsPoints ∈ wsA ∧ Cond.selects yX8_readsPoints.cls yX8_readsPoints yX8_readsPoints ∈ wsA := ⟨tb9 (List.mem_of_getElem? (i := 45) rfl) rfl, pv8 (List.mem_of_getElem? (i := 8) rfl) rfl⟩
theorem cf_X8_readsWord : CalF yX8_readsWord cX8_readsWord 1 none 0 := ⟨tb9 (List.mem_of_getElem? (i := 85) rfl) rfl, tb1 (List.mem_of_getElem? (i := 7) rfl) rfl, by decide +kernel, by decide +kernel, by decide +kernel⟩
theorem iv_X8_readsWord : Cond.instanceMethod yX8_readsWord ∈ wsA ∧ Cond.selects yX8_readsWord.cls yX8_readsWord yX8_readsWord ∈ wsA := ⟨tb9 (List.mem_of_getElem? (i := 84) rfl) rfl, pv9 (List.mem_of_getElem? (i := 1) rfl) rfl⟩
theorem cf_X8_refuse : CalF yX8_refuse cX8_refuse 2 (some .int) 1 := ⟨tb7 (List.mem_of_getElem? (i := 145) rfl) rfl, tb1 (List.mem_of_getElem? (i := 7) rfl) rfl, by decide +kernel, by decide +kernel, by decide +kernel⟩
theorem iv_X8_refuse : Cond.instanceMethod yX8_refuse ∈ wsA ∧ Cond.selects yX8_refuse.cls yX8_refuse yX8_refuse ∈ wsA := ⟨tb7 (List.mem_of_getElem? (i := 144) rfl) rfl, pv5 (List.mem_of_getElem? (i := 12) rfl) rfl⟩
theorem cf_X8_remembers : CalF yX8_remembers cX8_remembers 2 none 0 := ⟨tb8 (List.mem_of_getElem? (i := 211) rfl) rfl, tb1 (List.mem_of_getElem? (i := 7) rfl) rfl, by decide +kernel, by decide +kernel, by decide +kernel⟩
theorem iv_X8_remembers : Cond.instanceMethod yX8_remembers ∈ wsA ∧ Cond.selects yX8_remembers.cls yX8_remembers yX8_remembers ∈ wsA := ⟨tb8 (List.mem_of_getElem? (i := 210) rfl) rfl, pv7 (List.mem_of_getElem? (i := 15) rfl) rfl⟩
theorem cf_X8_root : CalF yX8_root cX8_root 5 (some .int) 2 := ⟨tb8 (List.mem_of_getElem? (i := 195) rfl) rfl, tb1 (List.mem_of_getElem? (i := 7) rfl) rfl, by decide +kernel, by decide +kernel, by decide +kernel⟩
theorem iv_X8_root : Cond.instanceMethod yX8_root ∈ wsA ∧ Cond.selects yX8_root.cls yX8_root yX8_root ∈ wsA := ⟨tb8 (List.mem_of_getElem? (i := 193) rfl) rfl, tb8 (List.mem_of_getElem? (i := 194) rfl) rfl⟩
theorem cf_X8_same : CalF yX8_same cX8_same 7 (some .int) 2 := ⟨tb8 (List.mem_of_getElem? (i := 52) rfl) rfl, tb1 (List.mem_of_getElem? (i := 7) rfl) rfl, by decide +kernel, by decide +kernel, by decide +kernel⟩
theorem iv_X8_same : Cond.instanceMethod yX8_same ∈ wsA ∧ Cond.selects yX8_same.cls yX8_same yX8_same ∈ wsA := ⟨tb8 (List.mem_of_getElem? (i := 50) rfl) rfl, tb8 (List.mem_of_getElem? (i := 51) rfl) rfl⟩
theorem cf_X8_sifts : CalF yX8_sifts cX8_sifts 5 (some .int) 2 := ⟨tb7 (List.mem_of_getElem? (i := 125) rfl) rfl, tb1 (List.mem_of_getElem? (i := 7) rfl) rfl, by decide +kernel, by decide +kernel, by decide +kernel⟩
theorem iv_X8_sifts : Cond.instanceMethod yX8_sifts ∈ wsA ∧ Cond.selects yX8_sifts.cls yX8_sifts yX8_sifts ∈ wsA := ⟨tb7 (List.mem_of_getElem? (i := 124) rfl) rfl, pv5 (List.mem_of_getElem? (i := 7) rfl) rfl⟩
theorem cf_X8_slightest : CalF yX8_slightest cX8_slightest 4 (some .int) 0 := ⟨tb8 (List.mem_of_getElem? (i := 199) rfl) rfl, tb1 (List.mem_of_getElem? (i := 7) rfl) rfl, by decide +kernel, by decide +kernel, by decide +kernel⟩
theorem iv_X8_slightest : Cond.instanceMethod yX8_slightest ∈ wsA ∧ Cond.selects yX8_slightest.cls yX8_slightest yX8_slightest ∈ wsA := ⟨tb8 (List.mem_of_getElem? (i := 197) rfl) rfl, tb8 (List.mem_of_getElem? (i := 198) rfl) rfl⟩
theorem cf_X8_solve : CalF yX8_solve cX8_solve 2 (some .int) 1 := ⟨tb8 (List.mem_of_getElem? (i := 13) rfl) rfl, tb1 (List.mem_of_getElem? (i := 7) rfl) rfl, by decide +kernel, by decide +kernel, by decide +kernel⟩
theorem iv_X8_solve : Cond.instanceMethod yX8_solve ∈ wsA ∧ Cond.selects yX8_solve.cls yX8_solve yX8_solve ∈ wsA := ⟨tb8 (List.mem_of_getElem? (i := 11) rfl) rfl, tb8 (List.mem_of_getElem? (i := 12) rfl) rfl⟩
theorem cf_X8_spare : CalF yX8_spare cX8_spare 4 (some .int) 0 := ⟨tb8 (List.mem_of_getElem? (i := 135) rfl) rfl, tb1 (List.mem_of_getElem? (i := 7) rfl) rfl, by decide +kernel, by decide +kernel, by decide +kernel⟩
theorem iv_X8_spare : Cond.instanceMethod yX8_spare ∈ wsA ∧ Cond.selects yX8_spare.cls yX8_spare yX8_spare ∈ wsA := ⟨tb8 (List.mem_of_getElem? (i := 133) rfl) rfl, tb8 (List.mem_of_getElem? (i := 134) rfl) rfl⟩
theorem cf_X8_stand : CalF yX8_stand cX8_stand 1 (some .long) 0 := ⟨tb7 (List.mem_of_getElem? (i := 7) rfl) rfl, tb1 (List.mem_of_getElem? (i := 7) rfl) rfl, by decide +kernel, by decide +kernel, by decide +kernel⟩
theorem iv_X8_stand : Cond.instanceMethod yX8_stand ∈ wsA ∧ Cond.selects yX8_stand.cls yX8_stand yX8_stand ∈ wsA := ⟨tb7 (List.mem_of_getElem? (i := 5) rfl) rfl, tb7 (List.mem_of_getElem? (i := 6) rfl) rfl⟩
theorem cf_X8_status : CalF yX8_status cX8_status 1 (some .int) 0 := ⟨tb6 (List.mem_of_getElem? (i := 195) rfl) rfl, tb1 (List.mem_of_getElem? (i := 7) rfl) rfl, by decide +kernel, by decide +kernel, by decide +kernel⟩
theorem iv_X8_status : Cond.instanceMethod yX8_status ∈ wsA ∧ Cond.selects yX8_status.cls yX8_status yX8_status ∈ wsA := ⟨tb6 (List.mem_of_getElem? (i := 193) rfl) rfl, tb6 (List.mem_of_getElem? (i := 194) rfl) rfl⟩
theorem cf_X8_staying : CalF yX8_staying cX8_staying 4 (some .int) 1 := ⟨tb7 (List.mem_of_getElem? (i := 66) rfl) rfl, tb1 (List.mem_of_getElem? (i := 7) rfl) rfl, by decide +kernel, by decide +kernel, by decide +kernel⟩
theorem iv_X8_staying : Cond.instanceMethod yX8_staying ∈ wsA ∧ Cond.selects yX8_staying.cls yX8_staying yX8_staying ∈ wsA := ⟨tb7 (List.mem_of_getElem? (i := 65) rfl) rfl, pv4 (List.mem_of_getElem? (i := 12) rfl) rfl⟩
theorem cf_X8_stays : CalF yX8_stays cX8_stays 2 (some .boolean) 1 := ⟨tb6 (List.mem_of_getElem? (i := 218) rfl) rfl, tb1 (List.mem_of_getElem? (i := 7) rfl) rfl, by decide +kernel, by decide +kernel, by decide +kernel⟩
theorem st_X8_stays : Cond.static yX8_stays ∈ wsA := tb6 (List.mem_of_getElem? (i := 217) rfl) rfl
theorem cf_X8_step : CalF yX8_step cX8_step 2 (some .long) 1 := ⟨tb6 (List.mem_of_getElem? (i := 222) rfl) rfl, tb1 (List.mem_of_getElem? (i := 7) rfl) rfl, by decide +kernel, by decide +kernel, by decide +kernel⟩
theorem iv_X8_step : Cond.instanceMethod yX8_step ∈ wsA ∧ Cond.selects yX8_step.cls yX8_step yX8_step ∈ wsA := ⟨tb6 (List.mem_of_getElem? (i := 220) rfl) rfl, tb6 (List.mem_of_getElem? (i := 221) rfl) rfl⟩
theorem cf_X8_takes : CalF yX8_takes cX8_takes 4 (some .int) 2 := ⟨tb7 (List.mem_of_getElem? (i := 11) rfl) rfl, tb1 (List.mem_of_getElem? (i := 7) rfl) rfl, by decide +kernel, by decide +kernel, by decide +kernel⟩
theorem iv_X8_takes : Cond.instanceMethod yX8_takes ∈ wsA ∧ Cond.selects yX8_takes.cls yX8_takes yX8_takes ∈ wsA := ⟨tb7 (List.mem_of_getElem? (i := 9) rfl) rfl, tb7 (List.mem_of_getElem? (i := 10) rfl) rfl⟩
theorem cf_X8_takesNew : CalF yX8_takesNew cX8_takesNew 1 none 0 := ⟨tb9 (List.mem_of_getElem? (i := 65) rfl) rfl, tb1 (List.mem_of_getElem? (i := 7) rfl) rfl, by decide +kernel, by decide +kernel, by decide +kernel⟩
theorem iv_X8_takesNew : Cond.instanceMethod yX8_takesNew ∈ wsA ∧ Cond.selects yX8_takesNew.cls yX8_takesNew yX8_takesNew ∈ wsA := ⟨tb9 (List.mem_of_getElem? (i := 64) rfl) rfl, pv8 (List.mem_of_getElem? (i := 12) rfl) rfl⟩
theorem cf_X8_there : CalF yX8_there cX8_there 2 (some .int) 1 := ⟨tb7 (List.mem_of_getElem? (i := 141) rfl) rfl, tb1 (List.mem_of_getElem? (i := 7) rfl) rfl, by decide +kernel, by decide +kernel, by decide +kernel⟩
theorem iv_X8_there : Cond.instanceMethod yX8_there ∈ wsA ∧ Cond.selects yX8_there.cls yX8_there yX8_there ∈ wsA := ⟨tb7 (List.mem_of_getElem? (i := 140) rfl) rfl, pv5 (List.mem_of_getElem? (i := 11) rfl) rfl⟩
theorem cf_X8_told : CalF yX8_told cX8_told 5 (some .long) 1 := ⟨tb7 (List.mem_of_getElem? (i := 2) rfl) rfl, tb1 (List.mem_of_getElem? (i := 7) rfl) rfl, by decide +kernel, by decide +kernel, by decide +kernel⟩
theorem iv_X8_told : Cond.instanceMethod yX8_told ∈ wsA ∧ Cond.selects yX8_told.cls yX8_told yX8_told ∈ wsA := ⟨tb7 (List.mem_of_getElem? (i := 1) rfl) rfl, pv4 (List.mem_of_getElem? (i := 6) rfl) rfl⟩
theorem cf_X8_turn : CalF yX8_turn cX8_turn 2 (some .int) 1 := ⟨tb8 (List.mem_of_getElem? (i := 207) rfl) rfl, tb1 (List.mem_of_getElem? (i := 7) rfl) rfl, by decide +kernel, by decide +kernel, by decide +kernel⟩
theorem iv_X8_turn : Cond.instanceMethod yX8_turn ∈ wsA ∧ Cond.selects yX8_turn.cls yX8_turn yX8_turn ∈ wsA := ⟨tb8 (List.mem_of_getElem? (i := 205) rfl) rfl, tb8 (List.mem_of_getElem? (i := 206) rfl) rfl⟩
theorem cf_X8_turned : CalF yX8_turned cX8_turned 5 (some .long) 2 := ⟨tb8 (List.mem_of_getElem? (i := 64) rfl) rfl, tb1 (List.mem_of_getElem? (i := 7) rfl) rfl, by decide +kernel, by decide +kernel, by decide +kernel⟩
theorem iv_X8_turned : Cond.instanceMethod yX8_turned ∈ wsA ∧ Cond.selects yX8_turned.cls yX8_turned yX8_turned ∈ wsA := ⟨tb8 (List.mem_of_getElem? (i := 62) rfl) rfl, tb8 (List.mem_of_getElem? (i := 63) rfl) rfl⟩
theorem cf_X8_turns : CalF yX8_turns cX8_turns 4 none 3 := ⟨tb8 (List.mem_of_getElem? (i := 40) rfl) rfl, tb1 (List.mem_of_getElem? (i := 7) rfl) rfl, by decide +kernel, by decide +kernel, by decide +kernel⟩
theorem iv_X8_turns : Cond.instanceMethod yX8_turns ∈ wsA ∧ Cond.selects yX8_turns.cls yX8_turns yX8_turns ∈ wsA := ⟨tb8 (List.mem_of_getElem? (i := 39) rfl) rfl, pv6 (List.mem_of_getElem? (i := 15) rfl) rfl⟩
theorem cf_X8_typeOf : CalF yX8_typeOf cX8_typeOf 8 (some .long) 1 := ⟨tb8 (List.mem_of_getElem? (i := 190) rfl) rfl, tb1 (List.mem_of_getElem? (i := 7) rfl) rfl, by decide +kernel, by decide +kernel, by decide +kernel⟩
theorem iv_X8_typeOf : Cond.instanceMethod yX8_typeOf ∈ wsA ∧ Cond.selects yX8_typeOf.cls yX8_typeOf yX8_typeOf ∈ wsA := ⟨tb8 (List.mem_of_getElem? (i := 189) rfl) rfl, pv7 (List.mem_of_getElem? (i := 14) rfl) rfl⟩
theorem cf_X8_typed : CalF yX8_typed cX8_typed 5 (some .int) 1 := ⟨tb8 (List.mem_of_getElem? (i := 186) rfl) rfl, tb1 (List.mem_of_getElem? (i := 7) rfl) rfl, by decide +kernel, by decide +kernel, by decide +kernel⟩
theorem iv_X8_typed : Cond.instanceMethod yX8_typed ∈ wsA ∧ Cond.selects yX8_typed.cls yX8_typed yX8_typed ∈ wsA := ⟨tb8 (List.mem_of_getElem? (i := 184) rfl) rfl, tb8 (List.mem_of_getElem? (i := 185) rfl) rfl⟩
theorem cf_X8_undo : CalF yX8_undo cX8_undo 2 (some .int) 0 := ⟨tb8 (List.mem_of_getElem? (i := 235) rfl) rfl, tb1 (List.mem_of_getElem? (i := 7) rfl) rfl, by decide +kernel, by decide +kernel, by decide +kernel⟩
theorem iv_X8_undo : Cond.instanceMethod yX8_undo ∈ wsA ∧ Cond.selects yX8_undo.cls yX8_undo yX8_undo ∈ wsA := ⟨tb8 (List.mem_of_getElem? (i := 233) rfl) rfl, tb8 (List.mem_of_getElem? (i := 234) rfl) rfl⟩
theorem cf_X8_way : CalF yX8_way cX8_way 4 (some .int) 2 := ⟨tb7 (List.mem_of_getElem? (i := 205) rfl) rfl, tb1 (List.mem_of_getElem? (i := 7) rfl) rfl, by decide +kernel, by decide +kernel, by decide +kernel⟩
theorem iv_X8_way : Cond.instanceMethod yX8_way ∈ wsA ∧ Cond.selects yX8_way.cls yX8_way yX8_way ∈ wsA := ⟨tb7 (List.mem_of_getElem? (i := 203) rfl) rfl, tb7 (List.mem_of_getElem? (i := 204) rfl) rfl⟩
theorem cf_X8_wayTo : CalF yX8_wayTo cX8_wayTo 6 (some .int) 2 := ⟨tb7 (List.mem_of_getElem? (i := 229) rfl) rfl, tb1 (List.mem_of_getElem? (i := 7) rfl) rfl, by decide +kernel, by decide +kernel, by decide +kernel⟩
theorem iv_X8_wayTo : Cond.instanceMethod yX8_wayTo ∈ wsA ∧ Cond.selects yX8_wayTo.cls yX8_wayTo yX8_wayTo ∈ wsA := ⟨tb7 (List.mem_of_getElem? (i := 228) rfl) rfl, pv6 (List.mem_of_getElem? (i := 10) rfl) rfl⟩
theorem cf_X8_why : CalF yX8_why cX8_why 2 (some .int) 2 := ⟨tb7 (List.mem_of_getElem? (i := 22) rfl) rfl, tb1 (List.mem_of_getElem? (i := 7) rfl) rfl, by decide +kernel, by decide +kernel, by decide +kernel⟩
theorem st_X8_why : Cond.static yX8_why ∈ wsA := tb7 (List.mem_of_getElem? (i := 21) rfl) rfl
theorem cf_X8_whyHere : CalF yX8_whyHere cX8_whyHere 2 (some .int) 1 := ⟨tb7 (List.mem_of_getElem? (i := 89) rfl) rfl, tb1 (List.mem_of_getElem? (i := 7) rfl) rfl, by decide +kernel, by decide +kernel, by decide +kernel⟩
theorem iv_X8_whyHere : Cond.instanceMethod yX8_whyHere ∈ wsA ∧ Cond.selects yX8_whyHere.cls yX8_whyHere yX8_whyHere ∈ wsA := ⟨tb7 (List.mem_of_getElem? (i := 88) rfl) rfl, pv4 (List.mem_of_getElem? (i := 15) rfl) rfl⟩
theorem cf_X8_whySmall : CalF yX8_whySmall cX8_whySmall 2 (some .int) 1 := ⟨tb7 (List.mem_of_getElem? (i := 209) rfl) rfl, tb1 (List.mem_of_getElem? (i := 7) rfl) rfl, by decide +kernel, by decide +kernel, by decide +kernel⟩
theorem iv_X8_whySmall : Cond.instanceMethod yX8_whySmall ∈ wsA ∧ Cond.selects yX8_whySmall.cls yX8_whySmall yX8_whySmall ∈ wsA := ⟨tb7 (List.mem_of_getElem? (i := 208) rfl) rfl, pv6 (List.mem_of_getElem? (i := 5) rfl) rfl⟩
theorem cf_X8_widthAt : CalF yX8_widthAt cX8_widthAt 5 (some .int) 2 := ⟨tb7 (List.mem_of_getElem? (i := 137) rfl) rfl, tb1 (List.mem_of_getElem? (i := 7) rfl) rfl, by decide +kernel, by decide +kernel, by decide +kernel⟩
theorem iv_X8_widthAt : Cond.instanceMethod yX8_widthAt ∈ wsA ∧ Cond.selects yX8_widthAt.cls yX8_widthAt yX8_widthAt ∈ wsA := ⟨tb7 (List.mem_of_getElem? (i := 136) rfl) rfl, pv5 (List.mem_of_getElem? (i := 10) rfl) rfl⟩
theorem cf_X8_writes : CalF yX8_writes cX8_writes 2 none 1 := ⟨tb9 (List.mem_of_getElem? (i := 3) rfl) rfl, tb1 (List.mem_of_getElem? (i := 7) rfl) rfl, by decide +kernel, by decide +kernel, by decide +kernel⟩
theorem iv_X8_writes : Cond.instanceMethod yX8_writes ∈ wsA ∧ Cond.selects yX8_writes.cls yX8_writes yX8_writes ∈ wsA := ⟨tb9 (List.mem_of_getElem? (i := 2) rfl) rfl, pv8 (List.mem_of_getElem? (i := 1) rfl) rfl⟩
theorem cf_J6_bitCount_0f7a4 : CalF yJ6_bitCount_0f7a4 cJ6_bitCount_0f7a4 1 (some .int) 1 := ⟨tb3 (List.mem_of_getElem? (i := 138) rfl) rfl, tb1 (List.mem_of_getElem? (i := 14) rfl) rfl, by decide +kernel, by decide +kernel, by decide +kernel⟩
theorem st_J6_bitCount_0f7a4 : Cond.static yJ6_bitCount_0f7a4 ∈ wsA := tb3 (List.mem_of_getElem? (i := 137) rfl) rfl
theorem cf_J9_floorMod_7cf53 : CalF yJ9_floorMod_7cf53 cJ9_floorMod_7cf53 3 (some .int) 2 := ⟨tb3 (List.mem_of_getElem? (i := 78) rfl) rfl, tb1 (List.mem_of_getElem? (i := 8) rfl) rfl, by decide +kernel, by decide +kernel, by decide +kernel⟩
theorem st_J9_floorMod_7cf53 : Cond.static yJ9_floorMod_7cf53 ∈ wsA := tb3 (List.mem_of_getElem? (i := 77) rfl) rfl
theorem cf_J9_max_7cf53 : CalF yJ9_max_7cf53 cJ9_max_7cf53 2 (some .int) 2 := ⟨tb3 (List.mem_of_getElem? (i := 238) rfl) rfl, tb1 (List.mem_of_getElem? (i := 8) rfl) rfl, by decide +kernel, by decide +kernel, by decide +kernel⟩
theorem st_J9_max_7cf53 : Cond.static yJ9_max_7cf53 ∈ wsA := tb3 (List.mem_of_getElem? (i := 237) rfl) rfl
theorem cf_J9_min_7cf53 : CalF yJ9_min_7cf53 cJ9_min_7cf53 2 (some .int) 2 := ⟨tb2 (List.mem_of_getElem? (i := 37) rfl) rfl, tb1 (List.mem_of_getElem? (i := 8) rfl) rfl, by decide +kernel, by decide +kernel, by decide +kernel⟩
theorem st_J9_min_7cf53 : Cond.static yJ9_min_7cf53 ∈ wsA := tb2 (List.mem_of_getElem? (i := 36) rfl) rfl
theorem cf_J0_charAt_5068e : CalF yJ0_charAt_5068e cJ0_charAt_5068e 2 (some .char) 1 := ⟨tb2 (List.mem_of_getElem? (i := 85) rfl) rfl, tb1 (List.mem_of_getElem? (i := 9) rfl) rfl, by decide +kernel, by decide +kernel, by decide +kernel⟩
theorem iv_J0_charAt_5068e : Cond.instanceMethod yJ0_charAt_5068e ∈ wsA ∧ Cond.selects yJ0_charAt_5068e.cls yJ0_charAt_5068e yJ0_charAt_5068e ∈ wsA := ⟨tb2 (List.mem_of_getElem? (i := 83) rfl) rfl, tb2 (List.mem_of_getElem? (i := 84) rfl) rfl⟩
theorem cf_J0_checkIndex_df160 : CalF yJ0_checkIndex_df160 cJ0_checkIndex_df160 2 none 2 := ⟨tb2 (List.mem_of_getElem? (i := 95) rfl) rfl, tb1 (List.mem_of_getElem? (i := 9) rfl) rfl, by decide +kernel, by decide +kernel, by decide +kernel⟩
theorem st_J0_checkIndex_df160 : Cond.static yJ0_checkIndex_df160 ∈ wsA := tb2 (List.mem_of_getElem? (i := 94) rfl) rfl
theorem cf_J0_coder_7d493 : CalF yJ0_coder_7d493 cJ0_coder_7d493 1 (some .byte) 0 := ⟨tb2 (List.mem_of_getElem? (i := 79) rfl) rfl, tb1 (List.mem_of_getElem? (i := 9) rfl) rfl, by decide +kernel, by decide +kernel, by decide +kernel⟩
theorem iv_J0_coder_7d493 : Cond.instanceMethod yJ0_coder_7d493 ∈ wsA ∧ Cond.selects yJ0_coder_7d493.cls yJ0_coder_7d493 yJ0_coder_7d493 ∈ wsA := ⟨tb2 (List.mem_of_getElem? (i := 77) rfl) rfl, tb2 (List.mem_of_getElem? (i := 78) rfl) rfl⟩
theorem cf_J0_isLatin1_aae02 : CalF yJ0_isLatin1_aae02 cJ0_isLatin1_aae02 1 (some .boolean) 0 := ⟨tb2 (List.mem_of_getElem? (i := 89) rfl) rfl, tb1 (List.mem_of_getElem? (i := 9) rfl) rfl, by decide +kernel, by decide +kernel, by decide +kernel⟩
theorem iv_J0_isLatin1_aae02 : Cond.instanceMethod yJ0_isLatin1_aae02 ∈ wsA ∧ Cond.selects yJ0_isLatin1_aae02.cls yJ0_isLatin1_aae02 yJ0_isLatin1_aae02 ∈ wsA := ⟨tb2 (List.mem_of_getElem? (i := 87) rfl) rfl, tb2 (List.mem_of_getElem? (i := 88) rfl) rfl⟩
theorem cf_J0_length_8abf5 : CalF yJ0_length_8abf5 cJ0_length_8abf5 1 (some .int) 0 := ⟨tb2 (List.mem_of_getElem? (i := 75) rfl) rfl, tb1 (List.mem_of_getElem? (i := 9) rfl) rfl, by decide +kernel, by decide +kernel, by decide +kernel⟩
theorem iv_J0_length_8abf5 : Cond.instanceMethod yJ0_length_8abf5 ∈ wsA ∧ Cond.selects yJ0_length_8abf5.cls yJ0_length_8abf5 yJ0_length_8abf5 ∈ wsA := ⟨tb2 (List.mem_of_getElem? (i := 73) rfl) rfl, tb2 (List.mem_of_getElem? (i := 74) rfl) rfl⟩
theorem cf_J1_charAt_3b067 : CalF yJ1_charAt_3b067 cJ1_charAt_3b067 2 (some .char) 2 := ⟨tb2 (List.mem_of_getElem? (i := 92) rfl) rfl, tb1 (List.mem_of_getElem? (i := 10) rfl) rfl, by decide +kernel, by decide +kernel, by decide +kernel⟩
theorem st_J1_charAt_3b067 : Cond.static yJ1_charAt_3b067 ∈ wsA := tb2 (List.mem_of_getElem? (i := 91) rfl) rfl
theorem cf_J2_charAt_3b067 : CalF yJ2_charAt_3b067 cJ2_charAt_3b067 2 (some .char) 2 := ⟨tb2 (List.mem_of_getElem? (i := 103) rfl) rfl, tb1 (List.mem_of_getElem? (i := 12) rfl) rfl, by decide +kernel, by decide +kernel, by decide +kernel⟩
theorem st_J2_charAt_3b067 : Cond.static yJ2_charAt_3b067 ∈ wsA := tb2 (List.mem_of_getElem? (i := 102) rfl) rfl
theorem cf_J2_checkIndex_2214a : CalF yJ2_checkIndex_2214a cJ2_checkIndex_2214a 2 none 2 := ⟨tb2 (List.mem_of_getElem? (i := 106) rfl) rfl, tb1 (List.mem_of_getElem? (i := 12) rfl) rfl, by decide +kernel, by decide +kernel, by decide +kernel⟩
theorem st_J2_checkIndex_2214a : Cond.static yJ2_checkIndex_2214a ∈ wsA := tb2 (List.mem_of_getElem? (i := 105) rfl) rfl
theorem cf_J2_getChar_3b067 : CalF yJ2_getChar_3b067 cJ2_getChar_3b067 2 (some .char) 2 := ⟨tb2 (List.mem_of_getElem? (i := 113) rfl) rfl, tb1 (List.mem_of_getElem? (i := 12) rfl) rfl, by decide +kernel, by decide +kernel, by decide +kernel⟩
theorem st_J2_getChar_3b067 : Cond.static yJ2_getChar_3b067 ∈ wsA := tb2 (List.mem_of_getElem? (i := 112) rfl) rfl
theorem cf_J2_length_9d52b : CalF yJ2_length_9d52b cJ2_length_9d52b 1 (some .int) 1 := ⟨tb2 (List.mem_of_getElem? (i := 109) rfl) rfl, tb1 (List.mem_of_getElem? (i := 12) rfl) rfl, by decide +kernel, by decide +kernel, by decide +kernel⟩
theorem st_J2_length_9d52b : Cond.static yJ2_length_9d52b ∈ wsA := tb2 (List.mem_of_getElem? (i := 108) rfl) rfl
theorem cf_J3_checkIndex_8e157 : CalF yJ3_checkIndex_8e157 cJ3_checkIndex_8e157 3 (some .int) 3 := ⟨tb2 (List.mem_of_getElem? (i := 100) rfl) rfl, tb1 (List.mem_of_getElem? (i := 11) rfl) rfl, by decide +kernel, by decide +kernel, by decide +kernel⟩
theorem st_J3_checkIndex_8e157 : Cond.static yJ3_checkIndex_8e157 ∈ wsA := tb2 (List.mem_of_getElem? (i := 99) rfl) rfl
theorem inA_X7 : ∀ w ∈ u_ws RX7 TX7 7, w ∈ wsA := by
  show ∀ w ∈ (List.range 7).map (u_lay RX7 TX7), w ∈ wsA
  have h : ∀ k, k < 7 → u_lay RX7 TX7 k ∈ wsA := by
    intro k hk
    match k, hk with
    | 0, _ => exact tb1 (List.mem_of_getElem? (i := 232) rfl) rfl
    | 1, _ => exact tb1 (List.mem_of_getElem? (i := 234) rfl) rfl
    | 2, _ => exact tb1 (List.mem_of_getElem? (i := 236) rfl) rfl
    | 3, _ => exact tb1 (List.mem_of_getElem? (i := 238) rfl) rfl
    | 4, _ => exact tb2 (List.mem_of_getElem? (i := 0) rfl) rfl
    | 5, _ => exact tb2 (List.mem_of_getElem? (i := 2) rfl) rfl
    | 6, _ => exact tb2 (List.mem_of_getElem? (i := 4) rfl) rfl
    | k + 7, hk => exact absurd hk (by omega)
  intro w hw
  obtain ⟨k, hk, rfl⟩ := List.mem_map.mp hw
  exact h k (List.mem_range.mp hk)
theorem inA_X0 : ∀ w ∈ u_ws RX0 TX0 8, w ∈ wsA := by
  show ∀ w ∈ (List.range 8).map (u_lay RX0 TX0), w ∈ wsA
  have h : ∀ k, k < 8 → u_lay RX0 TX0 k ∈ wsA := by
    intro k hk
    match k, hk with
    | 0, _ => exact tb1 (List.mem_of_getElem? (i := 110) rfl) rfl
    | 1, _ => exact tb1 (List.mem_of_getElem? (i := 112) rfl) rfl
    | 2, _ => exact tb1 (List.mem_of_getElem? (i := 114) rfl) rfl
    | 3, _ => exact tb1 (List.mem_of_getElem? (i := 116) rfl) rfl
    | 4, _ => exact tb1 (List.mem_of_getElem? (i := 118) rfl) rfl
    | 5, _ => exact tb1 (List.mem_of_getElem? (i := 120) rfl) rfl
    | 6, _ => exact tb1 (List.mem_of_getElem? (i := 122) rfl) rfl
    | 7, _ => exact tb1 (List.mem_of_getElem? (i := 124) rfl) rfl
    | k + 8, hk => exact absurd hk (by omega)
  intro w hw
  obtain ⟨k, hk, rfl⟩ := List.mem_map.mp hw
  exact h k (List.mem_range.mp hk)
theorem inA_X1 : ∀ w ∈ u_ws RX1 TX1 5, w ∈ wsA := by
  show ∀ w ∈ (List.range 5).map (u_lay RX1 TX1), w ∈ wsA
  have h : ∀ k, k < 5 → u_lay RX1 TX1 k ∈ wsA := by
    intro k hk
    match k, hk with
    | 0, _ => exact tb1 (List.mem_of_getElem? (i := 138) rfl) rfl
    | 1, _ => exact tb1 (List.mem_of_getElem? (i := 140) rfl) rfl
    | 2, _ => exact tb1 (List.mem_of_getElem? (i := 142) rfl) rfl
    | 3, _ => exact tb1 (List.mem_of_getElem? (i := 144) rfl) rfl
    | 4, _ => exact tb1 (List.mem_of_getElem? (i := 146) rfl) rfl
    | k + 5, hk => exact absurd hk (by omega)
  intro w hw
  obtain ⟨k, hk, rfl⟩ := List.mem_map.mp hw
  exact h k (List.mem_range.mp hk)
theorem inA_X2 : ∀ w ∈ u_ws RX2 TX2 13, w ∈ wsA := by
  show ∀ w ∈ (List.range 13).map (u_lay RX2 TX2), w ∈ wsA
  have h : ∀ k, k < 13 → u_lay RX2 TX2 k ∈ wsA := by
    intro k hk
    match k, hk with
    | 0, _ => exact tb1 (List.mem_of_getElem? (i := 166) rfl) rfl
    | 1, _ => exact tb1 (List.mem_of_getElem? (i := 168) rfl) rfl
    | 2, _ => exact tb1 (List.mem_of_getElem? (i := 170) rfl) rfl
    | 3, _ => exact tb1 (List.mem_of_getElem? (i := 172) rfl) rfl
    | 4, _ => exact tb1 (List.mem_of_getElem? (i := 174) rfl) rfl
    | 5, _ => exact tb1 (List.mem_of_getElem? (i := 176) rfl) rfl
    | 6, _ => exact tb1 (List.mem_of_getElem? (i := 178) rfl) rfl
    | 7, _ => exact tb1 (List.mem_of_getElem? (i := 180) rfl) rfl
    | 8, _ => exact tb1 (List.mem_of_getElem? (i := 182) rfl) rfl
    | 9, _ => exact tb1 (List.mem_of_getElem? (i := 184) rfl) rfl
    | 10, _ => exact tb1 (List.mem_of_getElem? (i := 186) rfl) rfl
    | 11, _ => exact tb1 (List.mem_of_getElem? (i := 188) rfl) rfl
    | 12, _ => exact tb1 (List.mem_of_getElem? (i := 190) rfl) rfl
    | k + 13, hk => exact absurd hk (by omega)
  intro w hw
  obtain ⟨k, hk, rfl⟩ := List.mem_map.mp hw
  exact h k (List.mem_range.mp hk)
theorem inA_X3 : ∀ w ∈ u_ws RX3 TX3 7, w ∈ wsA := by
  show ∀ w ∈ (List.range 7).map (u_lay RX3 TX3), w ∈ wsA
  have h : ∀ k, k < 7 → u_lay RX3 TX3 k ∈ wsA := by
    intro k hk
    match k, hk with
    | 0, _ => exact tb1 (List.mem_of_getElem? (i := 210) rfl) rfl
    | 1, _ => exact tb1 (List.mem_of_getElem? (i := 212) rfl) rfl
    | 2, _ => exact tb1 (List.mem_of_getElem? (i := 214) rfl) rfl
    | 3, _ => exact tb1 (List.mem_of_getElem? (i := 216) rfl) rfl
    | 4, _ => exact tb1 (List.mem_of_getElem? (i := 218) rfl) rfl
    | 5, _ => exact tb1 (List.mem_of_getElem? (i := 220) rfl) rfl
    | 6, _ => exact tb1 (List.mem_of_getElem? (i := 222) rfl) rfl
    | k + 7, hk => exact absurd hk (by omega)
  intro w hw
  obtain ⟨k, hk, rfl⟩ := List.mem_map.mp hw
  exact h k (List.mem_range.mp hk)
theorem inA_X4 : ∀ w ∈ u_ws RX4 TX4 16, w ∈ wsA := by
  show ∀ w ∈ (List.range 16).map (u_lay RX4 TX4), w ∈ wsA
  have h : ∀ k, k < 16 → u_lay RX4 TX4 k ∈ wsA := by
    intro k hk
    match k, hk with
    | 0, _ => exact tb4 (List.mem_of_getElem? (i := 24) rfl) rfl
    | 1, _ => exact tb4 (List.mem_of_getElem? (i := 26) rfl) rfl
    | 2, _ => exact tb4 (List.mem_of_getElem? (i := 28) rfl) rfl
    | 3, _ => exact tb4 (List.mem_of_getElem? (i := 30) rfl) rfl
    | 4, _ => exact tb4 (List.mem_of_getElem? (i := 32) rfl) rfl
    | 5, _ => exact tb4 (List.mem_of_getElem? (i := 34) rfl) rfl
    | 6, _ => exact tb4 (List.mem_of_getElem? (i := 36) rfl) rfl
    | 7, _ => exact tb4 (List.mem_of_getElem? (i := 38) rfl) rfl
    | 8, _ => exact tb4 (List.mem_of_getElem? (i := 40) rfl) rfl
    | 9, _ => exact tb4 (List.mem_of_getElem? (i := 42) rfl) rfl
    | 10, _ => exact tb4 (List.mem_of_getElem? (i := 44) rfl) rfl
    | 11, _ => exact tb4 (List.mem_of_getElem? (i := 46) rfl) rfl
    | 12, _ => exact tb4 (List.mem_of_getElem? (i := 48) rfl) rfl
    | 13, _ => exact tb4 (List.mem_of_getElem? (i := 50) rfl) rfl
    | 14, _ => exact tb4 (List.mem_of_getElem? (i := 52) rfl) rfl
    | 15, _ => exact tb4 (List.mem_of_getElem? (i := 54) rfl) rfl
    | k + 16, hk => exact absurd hk (by omega)
  intro w hw
  obtain ⟨k, hk, rfl⟩ := List.mem_map.mp hw
  exact h k (List.mem_range.mp hk)
theorem inA_X5 : ∀ w ∈ u_ws RX5 TX5 16, w ∈ wsA := by
  show ∀ w ∈ (List.range 16).map (u_lay RX5 TX5), w ∈ wsA
  have h : ∀ k, k < 16 → u_lay RX5 TX5 k ∈ wsA := by
    intro k hk
    match k, hk with
    | 0, _ => exact tb1 (List.mem_of_getElem? (i := 53) rfl) rfl
    | 1, _ => exact tb1 (List.mem_of_getElem? (i := 55) rfl) rfl
    | 2, _ => exact tb1 (List.mem_of_getElem? (i := 57) rfl) rfl
    | 3, _ => exact tb1 (List.mem_of_getElem? (i := 59) rfl) rfl
    | 4, _ => exact tb1 (List.mem_of_getElem? (i := 61) rfl) rfl
    | 5, _ => exact tb1 (List.mem_of_getElem? (i := 63) rfl) rfl
    | 6, _ => exact tb1 (List.mem_of_getElem? (i := 65) rfl) rfl
    | 7, _ => exact tb1 (List.mem_of_getElem? (i := 67) rfl) rfl
    | 8, _ => exact tb1 (List.mem_of_getElem? (i := 69) rfl) rfl
    | 9, _ => exact tb1 (List.mem_of_getElem? (i := 71) rfl) rfl
    | 10, _ => exact tb1 (List.mem_of_getElem? (i := 73) rfl) rfl
    | 11, _ => exact tb1 (List.mem_of_getElem? (i := 75) rfl) rfl
    | 12, _ => exact tb1 (List.mem_of_getElem? (i := 77) rfl) rfl
    | 13, _ => exact tb1 (List.mem_of_getElem? (i := 79) rfl) rfl
    | 14, _ => exact tb1 (List.mem_of_getElem? (i := 81) rfl) rfl
    | 15, _ => exact tb1 (List.mem_of_getElem? (i := 83) rfl) rfl
    | k + 16, hk => exact absurd hk (by omega)
  intro w hw
  obtain ⟨k, hk, rfl⟩ := List.mem_map.mp hw
  exact h k (List.mem_range.mp hk)
theorem inA_X8 : ∀ w ∈ u_ws RX8 TX8 45, w ∈ wsA := by
  show ∀ w ∈ (List.range 45).map (u_lay RX8 TX8), w ∈ wsA
  have h : ∀ k, k < 45 → u_lay RX8 TX8 k ∈ wsA := by
    intro k hk
    match k, hk with
    | 0, _ => exact tb6 (List.mem_of_getElem? (i := 100) rfl) rfl
    | 1, _ => exact tb6 (List.mem_of_getElem? (i := 102) rfl) rfl
    | 2, _ => exact tb6 (List.mem_of_getElem? (i := 104) rfl) rfl
    | 3, _ => exact tb6 (List.mem_of_getElem? (i := 106) rfl) rfl
    | 4, _ => exact tb6 (List.mem_of_getElem? (i := 108) rfl) rfl
    | 5, _ => exact tb6 (List.mem_of_getElem? (i := 110) rfl) rfl
    | 6, _ => exact tb6 (List.mem_of_getElem? (i := 112) rfl) rfl
    | 7, _ => exact tb6 (List.mem_of_getElem? (i := 114) rfl) rfl
    | 8, _ => exact tb6 (List.mem_of_getElem? (i := 116) rfl) rfl
    | 9, _ => exact tb6 (List.mem_of_getElem? (i := 118) rfl) rfl
    | 10, _ => exact tb6 (List.mem_of_getElem? (i := 120) rfl) rfl
    | 11, _ => exact tb6 (List.mem_of_getElem? (i := 122) rfl) rfl
    | 12, _ => exact tb6 (List.mem_of_getElem? (i := 124) rfl) rfl
    | 13, _ => exact tb6 (List.mem_of_getElem? (i := 126) rfl) rfl
    | 14, _ => exact tb6 (List.mem_of_getElem? (i := 128) rfl) rfl
    | 15, _ => exact tb6 (List.mem_of_getElem? (i := 130) rfl) rfl
    | 16, _ => exact tb6 (List.mem_of_getElem? (i := 132) rfl) rfl
    | 17, _ => exact tb6 (List.mem_of_getElem? (i := 134) rfl) rfl
    | 18, _ => exact tb6 (List.mem_of_getElem? (i := 136) rfl) rfl
    | 19, _ => exact tb6 (List.mem_of_getElem? (i := 138) rfl) rfl
    | 20, _ => exact tb6 (List.mem_of_getElem? (i := 140) rfl) rfl
    | 21, _ => exact tb6 (List.mem_of_getElem? (i := 142) rfl) rfl
    | 22, _ => exact tb6 (List.mem_of_getElem? (i := 144) rfl) rfl
    | 23, _ => exact tb6 (List.mem_of_getElem? (i := 146) rfl) rfl
    | 24, _ => exact tb6 (List.mem_of_getElem? (i := 148) rfl) rfl
    | 25, _ => exact tb6 (List.mem_of_getElem? (i := 150) rfl) rfl
    | 26, _ => exact tb6 (List.mem_of_getElem? (i := 152) rfl) rfl
    | 27, _ => exact tb6 (List.mem_of_getElem? (i := 154) rfl) rfl
    | 28, _ => exact tb6 (List.mem_of_getElem? (i := 156) rfl) rfl
    | 29, _ => exact tb6 (List.mem_of_getElem? (i := 158) rfl) rfl
    | 30, _ => exact tb6 (List.mem_of_getElem? (i := 160) rfl) rfl
    | 31, _ => exact tb6 (List.mem_of_getElem? (i := 162) rfl) rfl
    | 32, _ => exact tb6 (List.mem_of_getElem? (i := 164) rfl) rfl
    | 33, _ => exact tb6 (List.mem_of_getElem? (i := 166) rfl) rfl
    | 34, _ => exact tb6 (List.mem_of_getElem? (i := 168) rfl) rfl
    | 35, _ => exact tb6 (List.mem_of_getElem? (i := 170) rfl) rfl
    | 36, _ => exact tb6 (List.mem_of_getElem? (i := 172) rfl) rfl
    | 37, _ => exact tb6 (List.mem_of_getElem? (i := 174) rfl) rfl
    | 38, _ => exact tb6 (List.mem_of_getElem? (i := 176) rfl) rfl
    | 39, _ => exact tb6 (List.mem_of_getElem? (i := 178) rfl) rfl
    | 40, _ => exact tb6 (List.mem_of_getElem? (i := 180) rfl) rfl
    | 41, _ => exact tb6 (List.mem_of_getElem? (i := 182) rfl) rfl
    | 42, _ => exact tb6 (List.mem_of_getElem? (i := 184) rfl) rfl
    | 43, _ => exact tb6 (List.mem_of_getElem? (i := 186) rfl) rfl
    | 44, _ => exact tb6 (List.mem_of_getElem? (i := 188) rfl) rfl
    | k + 45, hk => exact absurd hk (by omega)
  intro w hw
  obtain ⟨k, hk, rfl⟩ := List.mem_map.mp hw
  exact h k (List.mem_range.mp hk)
