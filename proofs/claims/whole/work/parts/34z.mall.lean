theorem m_X2_all {l : Launch} {rm : Nat} {I : MI} {L : ML} : MFa l yX2_all cX2_all 2 (some (.object "MoveGroups$Roster")) 3 86 [.ref 6] rm I L anRA meB roA (f_X2_all rm I L) := sorry
