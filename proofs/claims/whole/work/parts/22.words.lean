/-! the words of the tables that the program uses, by their places -/
theorem am_m0 {w : Cond} (i : Nat) (h : (k2_sels lw_privs)[i]? = some w) (hw : am_wk w = true) : w ∈ am_tb := List.mem_filter.mpr ⟨List.mem_append_left _ (List.mem_of_getElem? h), hw⟩
theorem am_m1 {w : Cond} (i : Nat) (h : tables_1_1[i]? = some w) (hw : am_wk w = true) : w ∈ am_tb := List.mem_filter.mpr ⟨List.mem_append_right _ (List.mem_append_left _ (List.mem_of_getElem? h)), hw⟩
theorem am_m2 {w : Cond} (i : Nat) (h : tables_1_2[i]? = some w) (hw : am_wk w = true) : w ∈ am_tb := List.mem_filter.mpr ⟨List.mem_append_right _ (List.mem_append_right _ (List.mem_append_left _ (List.mem_of_getElem? h))), hw⟩
theorem am_m3 {w : Cond} (i : Nat) (h : tables_1_3[i]? = some w) (hw : am_wk w = true) : w ∈ am_tb := List.mem_filter.mpr ⟨List.mem_append_right _ (List.mem_append_right _ (List.mem_append_right _ (List.mem_append_left _ (List.mem_of_getElem? h)))), hw⟩
theorem am_m4 {w : Cond} (i : Nat) (h : tables_1_4[i]? = some w) (hw : am_wk w = true) : w ∈ am_tb := List.mem_filter.mpr ⟨List.mem_append_right _ (List.mem_append_right _ (List.mem_append_right _ (List.mem_append_right _ (List.mem_append_left _ (List.mem_of_getElem? h))))), hw⟩
theorem am_m5 {w : Cond} (i : Nat) (h : tables_1_5[i]? = some w) (hw : am_wk w = true) : w ∈ am_tb := List.mem_filter.mpr ⟨List.mem_append_right _ (List.mem_append_right _ (List.mem_append_right _ (List.mem_append_right _ (List.mem_append_right _ (List.mem_append_left _ (List.mem_of_getElem? h)))))), hw⟩
theorem am_m6 {w : Cond} (i : Nat) (h : tables_1_6[i]? = some w) (hw : am_wk w = true) : w ∈ am_tb := List.mem_filter.mpr ⟨List.mem_append_right _ (List.mem_append_right _ (List.mem_append_right _ (List.mem_append_right _ (List.mem_append_right _ (List.mem_append_right _ (List.mem_append_left _ (List.mem_of_getElem? h))))))), hw⟩
theorem am_m7 {w : Cond} (i : Nat) (h : tables_1_7[i]? = some w) (hw : am_wk w = true) : w ∈ am_tb := List.mem_filter.mpr ⟨List.mem_append_right _ (List.mem_append_right _ (List.mem_append_right _ (List.mem_append_right _ (List.mem_append_right _ (List.mem_append_right _ (List.mem_append_right _ (List.mem_append_left _ (List.mem_of_getElem? h)))))))), hw⟩
theorem am_m8 {w : Cond} (i : Nat) (h : tables_1_8[i]? = some w) (hw : am_wk w = true) : w ∈ am_tb := List.mem_filter.mpr ⟨List.mem_append_right _ (List.mem_append_right _ (List.mem_append_right _ (List.mem_append_right _ (List.mem_append_right _ (List.mem_append_right _ (List.mem_append_right _ (List.mem_append_right _ (List.mem_append_left _ (List.mem_of_getElem? h))))))))), hw⟩
theorem am_m9 {w : Cond} (i : Nat) (h : tables_1_9[i]? = some w) (hw : am_wk w = true) : w ∈ am_tb := List.mem_filter.mpr ⟨List.mem_append_right _ (List.mem_append_right _ (List.mem_append_right _ (List.mem_append_right _ (List.mem_append_right _ (List.mem_append_right _ (List.mem_append_right _ (List.mem_append_right _ (List.mem_append_right _ (List.mem_of_getElem? h))))))))), hw⟩
theorem wd_0 : (Cond.selects "SnorePlay" (⟨"SnorePlay", "putOnTape", "(I)V"⟩ : MethodName) (⟨"SnorePlay", "putOnTape", "(I)V"⟩ : MethodName)) ∈ am_tb := am_m0 0 rfl rfl
theorem wd_1 : (Cond.selects "SnorePlay$Reader" (⟨"SnorePlay$Reader", "readHead", "()V"⟩ : MethodName) (⟨"SnorePlay$Reader", "readHead", "()V"⟩ : MethodName)) ∈ am_tb := am_m0 1 rfl rfl
theorem wd_2 : (Cond.selects "SnorePlay$Reader" (⟨"SnorePlay$Reader", "readLine", "()V"⟩ : MethodName) (⟨"SnorePlay$Reader", "readLine", "()V"⟩ : MethodName)) ∈ am_tb := am_m0 2 rfl rfl
theorem wd_3 : (Cond.selects "SnorePlay$Reader" (⟨"SnorePlay$Reader", "readSleeper", "()V"⟩ : MethodName) (⟨"SnorePlay$Reader", "readSleeper", "()V"⟩ : MethodName)) ∈ am_tb := am_m0 3 rfl rfl
theorem wd_4 : (Cond.selects "SnorePlay$Reader" (⟨"SnorePlay$Reader", "readLaw", "()[I"⟩ : MethodName) (⟨"SnorePlay$Reader", "readLaw", "()[I"⟩ : MethodName)) ∈ am_tb := am_m0 4 rfl rfl
theorem wd_5 : (Cond.selects "SnorePlay$Reader" (⟨"SnorePlay$Reader", "readSum", "(I)V"⟩ : MethodName) (⟨"SnorePlay$Reader", "readSum", "(I)V"⟩ : MethodName)) ∈ am_tb := am_m0 5 rfl rfl
theorem wd_6 : (Cond.selects "SnorePlay$Reader" (⟨"SnorePlay$Reader", "readAtom", "(I)V"⟩ : MethodName) (⟨"SnorePlay$Reader", "readAtom", "(I)V"⟩ : MethodName)) ∈ am_tb := am_m0 6 rfl rfl
theorem wd_7 : (Cond.selects "SnorePlay$Reader" (⟨"SnorePlay$Reader", "valueNamed", "()I"⟩ : MethodName) (⟨"SnorePlay$Reader", "valueNamed", "()I"⟩ : MethodName)) ∈ am_tb := am_m0 7 rfl rfl
theorem wd_8 : (Cond.selects "SnorePlay$Reader" (⟨"SnorePlay$Reader", "append", "(I)V"⟩ : MethodName) (⟨"SnorePlay$Reader", "append", "(I)V"⟩ : MethodName)) ∈ am_tb := am_m0 8 rfl rfl
theorem wd_9 : (Cond.selects "SnorePlay$Reader" (⟨"SnorePlay$Reader", "goWithin", "(I)Z"⟩ : MethodName) (⟨"SnorePlay$Reader", "goWithin", "(I)Z"⟩ : MethodName)) ∈ am_tb := am_m0 9 rfl rfl
theorem wd_10 : (Cond.selects "SnorePlay$Reader" (⟨"SnorePlay$Reader", "readChoice", "(I)V"⟩ : MethodName) (⟨"SnorePlay$Reader", "readChoice", "(I)V"⟩ : MethodName)) ∈ am_tb := am_m0 10 rfl rfl
theorem wd_11 : (Cond.selects "SnorePlay$Reader" (⟨"SnorePlay$Reader", "readTruth", "(I)V"⟩ : MethodName) (⟨"SnorePlay$Reader", "readTruth", "(I)V"⟩ : MethodName)) ∈ am_tb := am_m0 11 rfl rfl
theorem wd_12 : (Cond.selects "SnorePlay$Reader" (⟨"SnorePlay$Reader", "readBoth", "(I)V"⟩ : MethodName) (⟨"SnorePlay$Reader", "readBoth", "(I)V"⟩ : MethodName)) ∈ am_tb := am_m0 12 rfl rfl
theorem wd_13 : (Cond.selects "SnorePlay$Reader" (⟨"SnorePlay$Reader", "readUnit", "(I)V"⟩ : MethodName) (⟨"SnorePlay$Reader", "readUnit", "(I)V"⟩ : MethodName)) ∈ am_tb := am_m0 13 rfl rfl
theorem wd_14 : (Cond.selects "SnorePlay$Reader" (⟨"SnorePlay$Reader", "readComparison", "(I)V"⟩ : MethodName) (⟨"SnorePlay$Reader", "readComparison", "(I)V"⟩ : MethodName)) ∈ am_tb := am_m0 14 rfl rfl
theorem wd_15 : (Cond.selects "SnorePlay$Reader" (⟨"SnorePlay$Reader", "aim", "(I)V"⟩ : MethodName) (⟨"SnorePlay$Reader", "aim", "(I)V"⟩ : MethodName)) ∈ am_tb := am_m0 15 rfl rfl
theorem wd_16 : (Cond.selects "SnorePlay$Stage" (⟨"SnorePlay$Stage", "setValues", "(LSnorePlay$Play;II)V"⟩ : MethodName) (⟨"SnorePlay$Stage", "setValues", "(LSnorePlay$Play;II)V"⟩ : MethodName)) ∈ am_tb := am_m0 16 rfl rfl
theorem wd_17 : (Cond.selects "SnorePlay$Stage" (⟨"SnorePlay$Stage", "tell", "([I)I"⟩ : MethodName) (⟨"SnorePlay$Stage", "tell", "([I)I"⟩ : MethodName)) ∈ am_tb := am_m0 17 rfl rfl
theorem wd_18 : (Cond.selects "SnorePlay$Stage" (⟨"SnorePlay$Stage", "tone", "(LSnorePlay$Play;I)I"⟩ : MethodName) (⟨"SnorePlay$Stage", "tone", "(LSnorePlay$Play;I)I"⟩ : MethodName)) ∈ am_tb := am_m0 18 rfl rfl
theorem wd_19 : (Cond.selects "SnorePlay" (⟨"SnorePlay", "trayRefusal", "(I)I"⟩ : MethodName) (⟨"SnorePlay", "trayRefusal", "(I)I"⟩ : MethodName)) ∈ am_tb := am_m0 19 rfl rfl
theorem wd_20 : (Cond.selects "SnorePlay" (⟨"SnorePlay", "enactAll", "(LSnorePlay$Play;LSnorePlay$Tray;)I"⟩ : MethodName) (⟨"SnorePlay", "enactAll", "(LSnorePlay$Play;LSnorePlay$Tray;)I"⟩ : MethodName)) ∈ am_tb := am_m0 20 rfl rfl
theorem wd_21 : (Cond.selects "SnorePlay" (⟨"SnorePlay", "drawDeed", "()I"⟩ : MethodName) (⟨"SnorePlay", "drawDeed", "()I"⟩ : MethodName)) ∈ am_tb := am_m0 21 rfl rfl
theorem wd_22 : (Cond.selects "SnorePlay" (⟨"SnorePlay", "draw", "(I)I"⟩ : MethodName) (⟨"SnorePlay", "draw", "(I)I"⟩ : MethodName)) ∈ am_tb := am_m0 22 rfl rfl
theorem wd_23 : (Cond.selects "SnorePlay$Graph" (⟨"SnorePlay$Graph", "reach", "(I)V"⟩ : MethodName) (⟨"SnorePlay$Graph", "reach", "(I)V"⟩ : MethodName)) ∈ am_tb := am_m0 23 rfl rfl
theorem wd_24 : (Cond.selects "SnorePlay$Graph" (⟨"SnorePlay$Graph", "workOut", "(I)V"⟩ : MethodName) (⟨"SnorePlay$Graph", "workOut", "(I)V"⟩ : MethodName)) ∈ am_tb := am_m0 24 rfl rfl
theorem wd_25 : (Cond.selects "SnorePlay$Search" (⟨"SnorePlay$Search", "clear", "([IZ)V"⟩ : MethodName) (⟨"SnorePlay$Search", "clear", "([IZ)V"⟩ : MethodName)) ∈ am_tb := am_m0 25 rfl rfl
theorem wd_26 : (Cond.selects "SnorePlay$Search" (⟨"SnorePlay$Search", "isGoal", "(IZ)Z"⟩ : MethodName) (⟨"SnorePlay$Search", "isGoal", "(IZ)Z"⟩ : MethodName)) ∈ am_tb := am_m0 26 rfl rfl
theorem wd_27 : (Cond.selects "SnorePlay$Search" (⟨"SnorePlay$Search", "deedTo", "([III)I"⟩ : MethodName) (⟨"SnorePlay$Search", "deedTo", "([III)I"⟩ : MethodName)) ∈ am_tb := am_m0 27 rfl rfl
theorem wd_28 : (Cond.selects "SnorePlay$Search" (⟨"SnorePlay$Search", "deedDownwards", "(I)I"⟩ : MethodName) (⟨"SnorePlay$Search", "deedDownwards", "(I)I"⟩ : MethodName)) ∈ am_tb := am_m0 28 rfl rfl
theorem wd_29 : (Cond.selects "SnorePlay$Tally" (⟨"SnorePlay$Tally", "begin", "()V"⟩ : MethodName) (⟨"SnorePlay$Tally", "begin", "()V"⟩ : MethodName)) ∈ am_tb := am_m0 29 rfl rfl
theorem wd_30 : (Cond.selects "SnorePlay$Tally" (⟨"SnorePlay$Tally", "endBeat", "()V"⟩ : MethodName) (⟨"SnorePlay$Tally", "endBeat", "()V"⟩ : MethodName)) ∈ am_tb := am_m0 30 rfl rfl
theorem wd_31 : (Cond.selects "SnorePlay$Search" (⟨"SnorePlay$Search", "isBoundBelow", "(II)Z"⟩ : MethodName) (⟨"SnorePlay$Search", "isBoundBelow", "(II)Z"⟩ : MethodName)) ∈ am_tb := am_m0 31 rfl rfl
theorem wd_32 : (Cond.selects "SnorePlay$Search" (⟨"SnorePlay$Search", "endlessDeed", "(I)I"⟩ : MethodName) (⟨"SnorePlay$Search", "endlessDeed", "(I)I"⟩ : MethodName)) ∈ am_tb := am_m0 32 rfl rfl
theorem wd_33 : (Cond.selects "SnorePlay$Placer" (⟨"SnorePlay$Placer", "sortBeds", "(LSnorePlay$Play;)V"⟩ : MethodName) (⟨"SnorePlay$Placer", "sortBeds", "(LSnorePlay$Play;)V"⟩ : MethodName)) ∈ am_tb := am_m0 33 rfl rfl
theorem wd_34 : (Cond.selects "SnorePlay$Placer" (⟨"SnorePlay$Placer", "nextOrder", "(I)Z"⟩ : MethodName) (⟨"SnorePlay$Placer", "nextOrder", "(I)Z"⟩ : MethodName)) ∈ am_tb := am_m0 34 rfl rfl
theorem wd_35 : (Cond.selects "SnorePlay$Placer" (⟨"SnorePlay$Placer", "swap", "(II)V"⟩ : MethodName) (⟨"SnorePlay$Placer", "swap", "(II)V"⟩ : MethodName)) ∈ am_tb := am_m0 35 rfl rfl
theorem wd_36 : (Cond.selects "SnorePlay" (⟨"SnorePlay", "heardRefusal", "(I)I"⟩ : MethodName) (⟨"SnorePlay", "heardRefusal", "(I)I"⟩ : MethodName)) ∈ am_tb := am_m0 36 rfl rfl
theorem wd_37 : (Cond.selects "SnorePlay$Tally" (⟨"SnorePlay$Tally", "isMet", "(II)Z"⟩ : MethodName) (⟨"SnorePlay$Tally", "isMet", "(II)Z"⟩ : MethodName)) ∈ am_tb := am_m0 37 rfl rfl
theorem wd_38 : (Cond.selects "SnorePlay$Tally" (⟨"SnorePlay$Tally", "meetFrom", "(IIJ)V"⟩ : MethodName) (⟨"SnorePlay$Tally", "meetFrom", "(IIJ)V"⟩ : MethodName)) ∈ am_tb := am_m0 38 rfl rfl
theorem wd_39 : (Cond.selects "SnorePlay$Tally" (⟨"SnorePlay$Tally", "fits", "(IJ)Z"⟩ : MethodName) (⟨"SnorePlay$Tally", "fits", "(IJ)Z"⟩ : MethodName)) ∈ am_tb := am_m0 39 rfl rfl
theorem wd_40 : (Cond.selects "SnorePlay$Tally" (⟨"SnorePlay$Tally", "fittingFrom", "(IIJ)J"⟩ : MethodName) (⟨"SnorePlay$Tally", "fittingFrom", "(IIJ)J"⟩ : MethodName)) ∈ am_tb := am_m0 40 rfl rfl
theorem wd_41 : (Cond.selects "SnorePlay$Tally" (⟨"SnorePlay$Tally", "fittingBehind", "(IIJ)J"⟩ : MethodName) (⟨"SnorePlay$Tally", "fittingBehind", "(IIJ)J"⟩ : MethodName)) ∈ am_tb := am_m0 41 rfl rfl
theorem wd_42 : (Cond.selects "SnorePlay$Tally" (⟨"SnorePlay$Tally", "fittingDeed", "(IIJ)I"⟩ : MethodName) (⟨"SnorePlay$Tally", "fittingDeed", "(IIJ)I"⟩ : MethodName)) ∈ am_tb := am_m0 42 rfl rfl
theorem wd_43 : (Cond.selects "SnorePlay" (⟨"SnorePlay", "saidRefusal", "(I)I"⟩ : MethodName) (⟨"SnorePlay", "saidRefusal", "(I)I"⟩ : MethodName)) ∈ am_tb := am_m0 43 rfl rfl
theorem wd_44 : (Cond.selects "SnorePlay" (⟨"SnorePlay", "hushesBy", "(LSnorePlay$Tray;)I"⟩ : MethodName) (⟨"SnorePlay", "hushesBy", "(LSnorePlay$Tray;)I"⟩ : MethodName)) ∈ am_tb := am_m0 44 rfl rfl
theorem wd_45 : (Cond.selects "SnorePlay" (⟨"SnorePlay", "largestGroup", "(II)I"⟩ : MethodName) (⟨"SnorePlay", "largestGroup", "(II)I"⟩ : MethodName)) ∈ am_tb := am_m0 45 rfl rfl
theorem wd_46 : (Cond.selects "SnorePlay$Search" (⟨"SnorePlay$Search", "forceWithin", "(II)Z"⟩ : MethodName) (⟨"SnorePlay$Search", "forceWithin", "(II)Z"⟩ : MethodName)) ∈ am_tb := am_m0 46 rfl rfl
theorem wd_47 : (Cond.selects "SnorePlay$Search" (⟨"SnorePlay$Search", "allLeadBelow", "(II)Z"⟩ : MethodName) (⟨"SnorePlay$Search", "allLeadBelow", "(II)Z"⟩ : MethodName)) ∈ am_tb := am_m0 47 rfl rfl
theorem wd_48 : (Cond.selects "SnorePlay" (⟨"SnorePlay", "portion", "(IIZ)I"⟩ : MethodName) (⟨"SnorePlay", "portion", "(IIZ)I"⟩ : MethodName)) ∈ am_tb := am_m0 48 rfl rfl
theorem wd_49 : (Cond.selects "SnorePlay$Tally" (⟨"SnorePlay$Tally", "drawLot", "(I)V"⟩ : MethodName) (⟨"SnorePlay$Tally", "drawLot", "(I)V"⟩ : MethodName)) ∈ am_tb := am_m0 49 rfl rfl
theorem wd_50 : (Cond.selects "SnorePlayModel" (⟨"SnorePlayModel", "next", "()V"⟩ : MethodName) (⟨"SnorePlayModel", "next", "()V"⟩ : MethodName)) ∈ am_tb := am_m0 50 rfl rfl
theorem wd_51 : (Cond.selects "SnorePlayModel" (⟨"SnorePlayModel", "see", "(I)I"⟩ : MethodName) (⟨"SnorePlayModel", "see", "(I)I"⟩ : MethodName)) ∈ am_tb := am_m0 51 rfl rfl
theorem wd_52 : (Cond.selects "SnorePlayModel" (⟨"SnorePlayModel", "keyAt", "()I"⟩ : MethodName) (⟨"SnorePlayModel", "keyAt", "()I"⟩ : MethodName)) ∈ am_tb := am_m0 52 rfl rfl
theorem wd_53 : (Cond.selects "SnorePlayModel" (⟨"SnorePlayModel", "eats", "(I)Z"⟩ : MethodName) (⟨"SnorePlayModel", "eats", "(I)Z"⟩ : MethodName)) ∈ am_tb := am_m0 53 rfl rfl
theorem wd_54 : (Cond.selects "SnorePlayModel" (⟨"SnorePlayModel", "is", "(I)Z"⟩ : MethodName) (⟨"SnorePlayModel", "is", "(I)Z"⟩ : MethodName)) ∈ am_tb := am_m0 54 rfl rfl
theorem wd_55 : (Cond.selects "SnorePlayModel" (⟨"SnorePlayModel", "fails", "(I)V"⟩ : MethodName) (⟨"SnorePlayModel", "fails", "(I)V"⟩ : MethodName)) ∈ am_tb := am_m0 55 rfl rfl
theorem wd_56 : (Cond.selects "SnorePlayModel" (⟨"SnorePlayModel", "named", "(III)I"⟩ : MethodName) (⟨"SnorePlayModel", "named", "(III)I"⟩ : MethodName)) ∈ am_tb := am_m0 56 rfl rfl
theorem wd_57 : (Cond.selects "SnorePlayModel" (⟨"SnorePlayModel", "takes", "(II)I"⟩ : MethodName) (⟨"SnorePlayModel", "takes", "(II)I"⟩ : MethodName)) ∈ am_tb := am_m0 57 rfl rfl
theorem wd_58 : (Cond.selects "SnorePlayModel" (⟨"SnorePlayModel", "closes", "()V"⟩ : MethodName) (⟨"SnorePlayModel", "closes", "()V"⟩ : MethodName)) ∈ am_tb := am_m0 58 rfl rfl
theorem wd_59 : (Cond.selects "SnorePlayModel" (⟨"SnorePlayModel", "readLine", "()V"⟩ : MethodName) (⟨"SnorePlayModel", "readLine", "()V"⟩ : MethodName)) ∈ am_tb := am_m0 59 rfl rfl
theorem wd_60 : (Cond.selects "SnorePlayModel" (⟨"SnorePlayModel", "readSleeper", "()V"⟩ : MethodName) (⟨"SnorePlayModel", "readSleeper", "()V"⟩ : MethodName)) ∈ am_tb := am_m0 60 rfl rfl
theorem wd_61 : (Cond.selects "SnorePlayModel" (⟨"SnorePlayModel", "isBedTold", "(I)Z"⟩ : MethodName) (⟨"SnorePlayModel", "isBedTold", "(I)Z"⟩ : MethodName)) ∈ am_tb := am_m0 61 rfl rfl
theorem wd_62 : (Cond.selects "SnorePlayModel" (⟨"SnorePlayModel", "readOpens", "()V"⟩ : MethodName) (⟨"SnorePlayModel", "readOpens", "()V"⟩ : MethodName)) ∈ am_tb := am_m0 62 rfl rfl
theorem wd_63 : (Cond.selects "SnorePlayModel" (⟨"SnorePlayModel", "readLaw", "(I)V"⟩ : MethodName) (⟨"SnorePlayModel", "readLaw", "(I)V"⟩ : MethodName)) ∈ am_tb := am_m0 63 rfl rfl
theorem wd_64 : (Cond.selects "SnorePlayModel" (⟨"SnorePlayModel", "readSum", "(I)V"⟩ : MethodName) (⟨"SnorePlayModel", "readSum", "(I)V"⟩ : MethodName)) ∈ am_tb := am_m0 64 rfl rfl
theorem wd_65 : (Cond.selects "SnorePlayModel" (⟨"SnorePlayModel", "readTerm", "(I)V"⟩ : MethodName) (⟨"SnorePlayModel", "readTerm", "(I)V"⟩ : MethodName)) ∈ am_tb := am_m0 65 rfl rfl
theorem wd_66 : (Cond.selects "SnorePlayModel" (⟨"SnorePlayModel", "readAtom", "(I)V"⟩ : MethodName) (⟨"SnorePlayModel", "readAtom", "(I)V"⟩ : MethodName)) ∈ am_tb := am_m0 66 rfl rfl
theorem wd_67 : (Cond.selects "SnorePlayModel" (⟨"SnorePlayModel", "codes", "(I)V"⟩ : MethodName) (⟨"SnorePlayModel", "codes", "(I)V"⟩ : MethodName)) ∈ am_tb := am_m0 67 rfl rfl
theorem wd_68 : (Cond.selects "SnorePlayModel" (⟨"SnorePlayModel", "wordOf", "(I)I"⟩ : MethodName) (⟨"SnorePlayModel", "wordOf", "(I)I"⟩ : MethodName)) ∈ am_tb := am_m0 68 rfl rfl
theorem wd_69 : (Cond.selects "SnorePlayModel" (⟨"SnorePlayModel", "goesIn", "(I)Z"⟩ : MethodName) (⟨"SnorePlayModel", "goesIn", "(I)Z"⟩ : MethodName)) ∈ am_tb := am_m0 69 rfl rfl
theorem wd_70 : (Cond.selects "SnorePlayModel" (⟨"SnorePlayModel", "readIf", "(I)V"⟩ : MethodName) (⟨"SnorePlayModel", "readIf", "(I)V"⟩ : MethodName)) ∈ am_tb := am_m0 70 rfl rfl
theorem wd_71 : (Cond.selects "SnorePlayModel" (⟨"SnorePlayModel", "readTruth", "(I)V"⟩ : MethodName) (⟨"SnorePlayModel", "readTruth", "(I)V"⟩ : MethodName)) ∈ am_tb := am_m0 71 rfl rfl
theorem wd_72 : (Cond.selects "SnorePlayModel" (⟨"SnorePlayModel", "readBoth", "(I)V"⟩ : MethodName) (⟨"SnorePlayModel", "readBoth", "(I)V"⟩ : MethodName)) ∈ am_tb := am_m0 72 rfl rfl
theorem wd_73 : (Cond.selects "SnorePlayModel" (⟨"SnorePlayModel", "readUnit", "(I)V"⟩ : MethodName) (⟨"SnorePlayModel", "readUnit", "(I)V"⟩ : MethodName)) ∈ am_tb := am_m0 73 rfl rfl
theorem wd_74 : (Cond.selects "SnorePlayModel" (⟨"SnorePlayModel", "isSleeper", "(J)Z"⟩ : MethodName) (⟨"SnorePlayModel", "isSleeper", "(J)Z"⟩ : MethodName)) ∈ am_tb := am_m0 74 rfl rfl
theorem wd_75 : (Cond.selects "SnorePlayModel" (⟨"SnorePlayModel", "standNow", "()I"⟩ : MethodName) (⟨"SnorePlayModel", "standNow", "()I"⟩ : MethodName)) ∈ am_tb := am_m0 75 rfl rfl
theorem wd_76 : (Cond.selects "SnorePlayModel" (⟨"SnorePlayModel", "wouldOf", "(III)I"⟩ : MethodName) (⟨"SnorePlayModel", "wouldOf", "(III)I"⟩ : MethodName)) ∈ am_tb := am_m0 76 rfl rfl
theorem wd_77 : (Cond.selects "SnorePlayModel" (⟨"SnorePlayModel", "reckons", "(IIII)I"⟩ : MethodName) (⟨"SnorePlayModel", "reckons", "(IIII)I"⟩ : MethodName)) ∈ am_tb := am_m0 77 rfl rfl
theorem wd_78 : (Cond.selects "SnorePlayModel" (⟨"SnorePlayModel", "farOf", "(II)I"⟩ : MethodName) (⟨"SnorePlayModel", "farOf", "(II)I"⟩ : MethodName)) ∈ am_tb := am_m0 78 rfl rfl
theorem wd_79 : (Cond.selects "SnorePlayModel" (⟨"SnorePlayModel", "whyBeat", "(IJ)I"⟩ : MethodName) (⟨"SnorePlayModel", "whyBeat", "(IJ)I"⟩ : MethodName)) ∈ am_tb := am_m0 79 rfl rfl
theorem wd_80 : (Cond.selects "SnorePlayModel" (⟨"SnorePlayModel", "isOver", "(I)Z"⟩ : MethodName) (⟨"SnorePlayModel", "isOver", "(I)Z"⟩ : MethodName)) ∈ am_tb := am_m0 80 rfl rfl
theorem wd_81 : (Cond.selects "SnorePlayModel" (⟨"SnorePlayModel", "hasEnded", "(I)Z"⟩ : MethodName) (⟨"SnorePlayModel", "hasEnded", "(I)Z"⟩ : MethodName)) ∈ am_tb := am_m0 81 rfl rfl
theorem wd_82 : (Cond.selects "SnorePlayModel" (⟨"SnorePlayModel", "snorer", "(III)I"⟩ : MethodName) (⟨"SnorePlayModel", "snorer", "(III)I"⟩ : MethodName)) ∈ am_tb := am_m0 82 rfl rfl
theorem wd_83 : (Cond.selects "SnorePlayModel" (⟨"SnorePlayModel", "beatTo", "(III)I"⟩ : MethodName) (⟨"SnorePlayModel", "beatTo", "(III)I"⟩ : MethodName)) ∈ am_tb := am_m0 83 rfl rfl
theorem wd_84 : (Cond.selects "SnorePlayModel" (⟨"SnorePlayModel", "stores", "()V"⟩ : MethodName) (⟨"SnorePlayModel", "stores", "()V"⟩ : MethodName)) ∈ am_tb := am_m0 84 rfl rfl
theorem wd_85 : (Cond.selects "SnorePlayModel" (⟨"SnorePlayModel", "goesBeat", "(I)V"⟩ : MethodName) (⟨"SnorePlayModel", "goesBeat", "(I)V"⟩ : MethodName)) ∈ am_tb := am_m0 85 rfl rfl
theorem wd_86 : (Cond.selects "SnorePlayModel" (⟨"SnorePlayModel", "isStand", "(I)V"⟩ : MethodName) (⟨"SnorePlayModel", "isStand", "(I)V"⟩ : MethodName)) ∈ am_tb := am_m0 86 rfl rfl
theorem wd_87 : (Cond.selects "SnorePlayModel" (⟨"SnorePlayModel", "notes", "()V"⟩ : MethodName) (⟨"SnorePlayModel", "notes", "()V"⟩ : MethodName)) ∈ am_tb := am_m0 87 rfl rfl
theorem wd_88 : (Cond.selects "SnorePlayModel" (⟨"SnorePlayModel", "areTwo", "(JJ)Z"⟩ : MethodName) (⟨"SnorePlayModel", "areTwo", "(JJ)Z"⟩ : MethodName)) ∈ am_tb := am_m0 88 rfl rfl
theorem wd_89 : (Cond.selects "SnorePlayModel" (⟨"SnorePlayModel", "changes", "(II)V"⟩ : MethodName) (⟨"SnorePlayModel", "changes", "(II)V"⟩ : MethodName)) ∈ am_tb := am_m0 89 rfl rfl
theorem wd_90 : (Cond.selects "SnorePlayModel" (⟨"SnorePlayModel", "noTray", "(I)I"⟩ : MethodName) (⟨"SnorePlayModel", "noTray", "(I)I"⟩ : MethodName)) ∈ am_tb := am_m0 90 rfl rfl
theorem wd_91 : (Cond.selects "SnorePlayModel" (⟨"SnorePlayModel", "tells", "(I)I"⟩ : MethodName) (⟨"SnorePlayModel", "tells", "(I)I"⟩ : MethodName)) ∈ am_tb := am_m0 91 rfl rfl
theorem wd_92 : (Cond.selects "SnorePlayModel" (⟨"SnorePlayModel", "whyNot", "(J)I"⟩ : MethodName) (⟨"SnorePlayModel", "whyNot", "(J)I"⟩ : MethodName)) ∈ am_tb := am_m0 92 rfl rfl
theorem wd_93 : (Cond.selects "SnorePlayModel" (⟨"SnorePlayModel", "does", "(I)V"⟩ : MethodName) (⟨"SnorePlayModel", "does", "(I)V"⟩ : MethodName)) ∈ am_tb := am_m0 93 rfl rfl
theorem wd_94 : (Cond.selects "SnorePlayModel" (⟨"SnorePlayModel", "lastNow", "()I"⟩ : MethodName) (⟨"SnorePlayModel", "lastNow", "()I"⟩ : MethodName)) ∈ am_tb := am_m0 94 rfl rfl
theorem wd_95 : (Cond.selects "SnorePlayModel" (⟨"SnorePlayModel", "isAgain", "()V"⟩ : MethodName) (⟨"SnorePlayModel", "isAgain", "()V"⟩ : MethodName)) ∈ am_tb := am_m0 95 rfl rfl
theorem wd_96 : (Cond.selects "SnorePlayModel" (⟨"SnorePlayModel", "drawn", "()I"⟩ : MethodName) (⟨"SnorePlayModel", "drawn", "()I"⟩ : MethodName)) ∈ am_tb := am_m0 96 rfl rfl
theorem wd_97 : (Cond.selects "SnorePlayModel" (⟨"SnorePlayModel", "draw", "(I)I"⟩ : MethodName) (⟨"SnorePlayModel", "draw", "(I)I"⟩ : MethodName)) ∈ am_tb := am_m0 97 rfl rfl
theorem wd_98 : (Cond.selects "SnorePlayModel" (⟨"SnorePlayModel", "goesHow", "()I"⟩ : MethodName) (⟨"SnorePlayModel", "goesHow", "()I"⟩ : MethodName)) ∈ am_tb := am_m0 98 rfl rfl
theorem wd_99 : (Cond.selects "SnorePlayModel" (⟨"SnorePlayModel", "laysLine", "()V"⟩ : MethodName) (⟨"SnorePlayModel", "laysLine", "()V"⟩ : MethodName)) ∈ am_tb := am_m0 99 rfl rfl
theorem wd_100 : (Cond.selects "SnorePlayModel" (⟨"SnorePlayModel", "laysFar", "(I)I"⟩ : MethodName) (⟨"SnorePlayModel", "laysFar", "(I)I"⟩ : MethodName)) ∈ am_tb := am_m0 100 rfl rfl
theorem wd_101 : (Cond.selects "SnorePlayModel" (⟨"SnorePlayModel", "laysStands", "()V"⟩ : MethodName) (⟨"SnorePlayModel", "laysStands", "()V"⟩ : MethodName)) ∈ am_tb := am_m0 101 rfl rfl
theorem wd_102 : (Cond.selects "SnorePlayModel" (⟨"SnorePlayModel", "adds", "(I)V"⟩ : MethodName) (⟨"SnorePlayModel", "adds", "(I)V"⟩ : MethodName)) ∈ am_tb := am_m0 102 rfl rfl
theorem wd_103 : (Cond.selects "SnorePlayModel" (⟨"SnorePlayModel", "isSo", "(II)Z"⟩ : MethodName) (⟨"SnorePlayModel", "isSo", "(II)Z"⟩ : MethodName)) ∈ am_tb := am_m0 103 rfl rfl
theorem wd_104 : (Cond.selects "SnorePlayModel" (⟨"SnorePlayModel", "farBy", "(II)I"⟩ : MethodName) (⟨"SnorePlayModel", "farBy", "(II)I"⟩ : MethodName)) ∈ am_tb := am_m0 104 rfl rfl
theorem wd_105 : (Cond.selects "SnorePlayModel" (⟨"SnorePlayModel", "beginsMany", "()V"⟩ : MethodName) (⟨"SnorePlayModel", "beginsMany", "()V"⟩ : MethodName)) ∈ am_tb := am_m0 105 rfl rfl
theorem wd_106 : (Cond.selects "SnorePlayModel" (⟨"SnorePlayModel", "isThen", "()V"⟩ : MethodName) (⟨"SnorePlayModel", "isThen", "()V"⟩ : MethodName)) ∈ am_tb := am_m0 106 rfl rfl
theorem wd_107 : (Cond.selects "SnorePlayModel" (⟨"SnorePlayModel", "laysKept", "()I"⟩ : MethodName) (⟨"SnorePlayModel", "laysKept", "()I"⟩ : MethodName)) ∈ am_tb := am_m0 107 rfl rfl
theorem wd_108 : (Cond.selects "SnorePlayModel" (⟨"SnorePlayModel", "keptBy", "(II)I"⟩ : MethodName) (⟨"SnorePlayModel", "keptBy", "(II)I"⟩ : MethodName)) ∈ am_tb := am_m0 108 rfl rfl
theorem wd_109 : (Cond.selects "SnorePlayModel" (⟨"SnorePlayModel", "goesPlace", "(II)V"⟩ : MethodName) (⟨"SnorePlayModel", "goesPlace", "(II)V"⟩ : MethodName)) ∈ am_tb := am_m0 109 rfl rfl
theorem wd_110 : (Cond.selects "SnorePlayModel" (⟨"SnorePlayModel", "isNowBed", "(I)Z"⟩ : MethodName) (⟨"SnorePlayModel", "isNowBed", "(I)Z"⟩ : MethodName)) ∈ am_tb := am_m0 110 rfl rfl
theorem wd_111 : (Cond.selects "SnorePlayModel" (⟨"SnorePlayModel", "noHeard", "(I)I"⟩ : MethodName) (⟨"SnorePlayModel", "noHeard", "(I)I"⟩ : MethodName)) ∈ am_tb := am_m0 111 rfl rfl
theorem wd_112 : (Cond.selects "SnorePlayModel" (⟨"SnorePlayModel", "laysHeard", "(I)J"⟩ : MethodName) (⟨"SnorePlayModel", "laysHeard", "(I)J"⟩ : MethodName)) ∈ am_tb := am_m0 112 rfl rfl
theorem wd_113 : (Cond.selects "SnorePlayModel" (⟨"SnorePlayModel", "isHeard", "(III)Z"⟩ : MethodName) (⟨"SnorePlayModel", "isHeard", "(III)Z"⟩ : MethodName)) ∈ am_tb := am_m0 113 rfl rfl
theorem wd_114 : (Cond.selects "SnorePlayModel" (⟨"SnorePlayModel", "noSaid", "(I)I"⟩ : MethodName) (⟨"SnorePlayModel", "noSaid", "(I)I"⟩ : MethodName)) ∈ am_tb := am_m0 114 rfl rfl
theorem wd_115 : (Cond.selects "SnorePlayModel" (⟨"SnorePlayModel", "hushesOf", "(I)I"⟩ : MethodName) (⟨"SnorePlayModel", "hushesOf", "(I)I"⟩ : MethodName)) ∈ am_tb := am_m0 115 rfl rfl
theorem wd_116 : (Cond.selects "SnorePlayModel" (⟨"SnorePlayModel", "isSaid", "(II)Z"⟩ : MethodName) (⟨"SnorePlayModel", "isSaid", "(II)Z"⟩ : MethodName)) ∈ am_tb := am_m0 116 rfl rfl
theorem wd_117 : (Cond.selects "SnorePlayModel" (⟨"SnorePlayModel", "mostAlike", "(II)I"⟩ : MethodName) (⟨"SnorePlayModel", "mostAlike", "(II)I"⟩ : MethodName)) ∈ am_tb := am_m0 117 rfl rfl
theorem wd_118 : (Cond.selects "SnorePlayModel" (⟨"SnorePlayModel", "laysForce", "()I"⟩ : MethodName) (⟨"SnorePlayModel", "laysForce", "()I"⟩ : MethodName)) ∈ am_tb := am_m0 118 rfl rfl
theorem wd_119 : (Cond.selects "SnorePlayModel" (⟨"SnorePlayModel", "firstBy", "(II)I"⟩ : MethodName) (⟨"SnorePlayModel", "firstBy", "(II)I"⟩ : MethodName)) ∈ am_tb := am_m0 119 rfl rfl
theorem wd_120 : (Cond.selects "SnorePlayModel" (⟨"SnorePlayModel", "otherAt", "(I)I"⟩ : MethodName) (⟨"SnorePlayModel", "otherAt", "(I)I"⟩ : MethodName)) ∈ am_tb := am_m0 120 rfl rfl
theorem wd_121 : (Cond.selects "SnorePlayModel" (⟨"SnorePlayModel", "noChance", "(II)I"⟩ : MethodName) (⟨"SnorePlayModel", "noChance", "(II)I"⟩ : MethodName)) ∈ am_tb := am_m0 121 rfl rfl
theorem wd_122 : (Cond.selects "SnorePlayModel" (⟨"SnorePlayModel", "laysLikely", "(I)V"⟩ : MethodName) (⟨"SnorePlayModel", "laysLikely", "(I)V"⟩ : MethodName)) ∈ am_tb := am_m0 122 rfl rfl
theorem wd_124 : (Jvm.Cond.initialized "SnorePlay") ∈ am_tb := am_m1 1 rfl rfl
theorem wd_125 : (Jvm.Cond.initialized "SnorePlay$Reader") ∈ am_tb := am_m1 2 rfl rfl
theorem wd_126 : (Jvm.Cond.initialized "SnorePlay$Tokens") ∈ am_tb := am_m1 3 rfl rfl
theorem wd_127 : (Jvm.Cond.initialized "SnorePlay$House") ∈ am_tb := am_m1 4 rfl rfl
theorem wd_128 : (Jvm.Cond.initialized "SnorePlay$Stage") ∈ am_tb := am_m1 5 rfl rfl
theorem wd_129 : (Jvm.Cond.initialized "SnorePlay$Play") ∈ am_tb := am_m1 6 rfl rfl
theorem wd_130 : (Jvm.Cond.initialized "java/lang/System") ∈ am_tb := am_m1 7 rfl rfl
theorem wd_131 : (Jvm.Cond.initialized "SnorePlay$Graph") ∈ am_tb := am_m1 8 rfl rfl
theorem wd_132 : (Jvm.Cond.initialized "SnorePlay$Search") ∈ am_tb := am_m1 9 rfl rfl
theorem wd_133 : (Jvm.Cond.initialized "SnorePlay$Tally") ∈ am_tb := am_m1 10 rfl rfl
theorem wd_134 : (Jvm.Cond.initialized "SnorePlay$Placer") ∈ am_tb := am_m1 11 rfl rfl
theorem wd_135 : (Jvm.Cond.initialized "SnorePlay$Past") ∈ am_tb := am_m1 12 rfl rfl
theorem wd_136 : (Jvm.Cond.initialized "SnorePlay$Tray") ∈ am_tb := am_m1 13 rfl rfl
theorem wd_137 : (Jvm.Cond.initialized "SnorePlayModel") ∈ am_tb := am_m1 14 rfl rfl
theorem wd_138 : (Jvm.Cond.initialized "java/lang/String") ∈ am_tb := am_m1 15 rfl rfl
theorem wd_139 : (Jvm.Cond.initialized "java/lang/StringLatin1") ∈ am_tb := am_m1 16 rfl rfl
theorem wd_140 : (Jvm.Cond.initialized "java/lang/Math") ∈ am_tb := am_m1 17 rfl rfl
theorem wd_142 : (Jvm.Cond.initialized "jdk/internal/util/Preconditions") ∈ am_tb := am_m1 19 rfl rfl
theorem wd_144 : (Jvm.Cond.initialized "java/util/Arrays") ∈ am_tb := am_m1 21 rfl rfl
theorem wd_145 : (Jvm.Cond.classLink "SnorePlayLaw" (7 : Nat) "SnorePlay") ∈ am_tb := am_m1 22 rfl rfl
theorem wd_146 : (Jvm.Cond.instantiable "SnorePlay" (19 : Nat)) ∈ am_tb := am_m1 23 rfl rfl
theorem wd_147 : (Jvm.Cond.methodLink "SnorePlayLaw" (9 : Nat) ({ cls := "SnorePlay", name := "<init>", desc := "()V" } : Jvm.MethodName)) ∈ am_tb := am_m1 24 rfl rfl
theorem wd_148 : (Jvm.Cond.instanceMethod ({ cls := "SnorePlay", name := "<init>", desc := "()V" } : Jvm.MethodName)) ∈ am_tb := am_m1 25 rfl rfl
theorem wd_149 : (Jvm.Cond.code ({ cls := "SnorePlay", name := "<init>", desc := "()V" } : Jvm.MethodName) prog_1_method_1_code (3 : Nat) (Option.none : Option Jvm.ClassFile.FieldType)) ∈ am_tb := am_m1 26 rfl rfl
theorem wd_150 : (Jvm.Cond.methodLink "SnorePlay" (3 : Nat) ({ cls := "java/lang/Object", name := "<init>", desc := "()V" } : Jvm.MethodName)) ∈ am_tb := am_m1 27 rfl rfl
theorem wd_151 : (Jvm.Cond.instanceMethod ({ cls := "java/lang/Object", name := "<init>", desc := "()V" } : Jvm.MethodName)) ∈ am_tb := am_m1 28 rfl rfl
theorem wd_152 : (Jvm.Cond.code ({ cls := "java/lang/Object", name := "<init>", desc := "()V" } : Jvm.MethodName) object_method_1_code (1 : Nat) (Option.none : Option Jvm.ClassFile.FieldType)) ∈ am_tb := am_m1 29 rfl rfl
theorem wd_153 : (Jvm.Cond.classLink "SnorePlay" (17 : Nat) "SnorePlay$Reader") ∈ am_tb := am_m1 30 rfl rfl
theorem wd_154 : (Jvm.Cond.instantiable "SnorePlay$Reader" (4 : Nat)) ∈ am_tb := am_m1 31 rfl rfl
theorem wd_155 : (Jvm.Cond.methodLinkNest "SnorePlay" (19 : Nat) ({ cls := "SnorePlay$Reader", name := "<init>", desc := "()V" } : Jvm.MethodName) "SnorePlay") ∈ am_tb := am_m1 32 rfl rfl
theorem wd_156 : (Jvm.Cond.instanceMethod ({ cls := "SnorePlay$Reader", name := "<init>", desc := "()V" } : Jvm.MethodName)) ∈ am_tb := am_m1 33 rfl rfl
theorem wd_157 : (Jvm.Cond.code ({ cls := "SnorePlay$Reader", name := "<init>", desc := "()V" } : Jvm.MethodName) prog_7_method_1_code (1 : Nat) (Option.none : Option Jvm.ClassFile.FieldType)) ∈ am_tb := am_m1 34 rfl rfl
theorem wd_158 : (Jvm.Cond.methodLink "SnorePlay$Reader" (3 : Nat) ({ cls := "java/lang/Object", name := "<init>", desc := "()V" } : Jvm.MethodName)) ∈ am_tb := am_m1 35 rfl rfl
theorem wd_159 : (Jvm.Cond.classLink "SnorePlay$Reader" (9 : Nat) "SnorePlay$Tokens") ∈ am_tb := am_m1 36 rfl rfl
theorem wd_160 : (Jvm.Cond.instantiable "SnorePlay$Tokens" (8 : Nat)) ∈ am_tb := am_m1 37 rfl rfl
theorem wd_161 : (Jvm.Cond.methodLinkNest "SnorePlay$Reader" (11 : Nat) ({ cls := "SnorePlay$Tokens", name := "<init>", desc := "()V" } : Jvm.MethodName) "SnorePlay") ∈ am_tb := am_m1 38 rfl rfl
theorem wd_162 : (Jvm.Cond.instanceMethod ({ cls := "SnorePlay$Tokens", name := "<init>", desc := "()V" } : Jvm.MethodName)) ∈ am_tb := am_m1 39 rfl rfl
theorem wd_163 : (Jvm.Cond.code ({ cls := "SnorePlay$Tokens", name := "<init>", desc := "()V" } : Jvm.MethodName) prog_11_method_1_code (1 : Nat) (Option.none : Option Jvm.ClassFile.FieldType)) ∈ am_tb := am_m1 40 rfl rfl
theorem wd_164 : (Jvm.Cond.methodLink "SnorePlay$Tokens" (3 : Nat) ({ cls := "java/lang/Object", name := "<init>", desc := "()V" } : Jvm.MethodName)) ∈ am_tb := am_m1 41 rfl rfl
theorem wd_165 : (Jvm.Cond.fieldLink "SnorePlay$Tokens" (9 : Nat) "SnorePlay$Tokens" "text" "[B") ∈ am_tb := am_m1 42 rfl rfl
theorem wd_166 : (Jvm.Cond.fieldLink "SnorePlay$Tokens" (15 : Nat) "SnorePlay$Tokens" "length" "I") ∈ am_tb := am_m1 43 rfl rfl
theorem wd_167 : (Jvm.Cond.fieldLink "SnorePlay$Tokens" (31 : Nat) "SnorePlay$Tokens" "kind" "I") ∈ am_tb := am_m1 44 rfl rfl
theorem wd_168 : (Jvm.Cond.fieldLink "SnorePlay$Tokens" (34 : Nat) "SnorePlay$Tokens" "start" "I") ∈ am_tb := am_m1 45 rfl rfl
theorem wd_169 : (Jvm.Cond.fieldLink "SnorePlay$Tokens" (19 : Nat) "SnorePlay$Tokens" "stop" "I") ∈ am_tb := am_m1 46 rfl rfl
theorem wd_170 : (Jvm.Cond.fieldLinkNest "SnorePlay$Reader" (136 : Nat) "SnorePlay$Tokens" "number" "I" "SnorePlay") ∈ am_tb := am_m1 47 rfl rfl
theorem wd_171 : (Jvm.Cond.fieldLink "SnorePlay$Tokens" (54 : Nat) "SnorePlay$Tokens" "number" "I") ∈ am_tb := am_m1 48 rfl rfl
theorem wd_172 : (Jvm.Cond.fieldLinkNest "SnorePlay$Reader" (31 : Nat) "SnorePlay$Tokens" "fault" "I" "SnorePlay") ∈ am_tb := am_m1 49 rfl rfl
theorem wd_173 : (Jvm.Cond.fieldLink "SnorePlay$Tokens" (22 : Nat) "SnorePlay$Tokens" "fault" "I") ∈ am_tb := am_m1 50 rfl rfl
theorem wd_174 : (Jvm.Cond.fieldLink "SnorePlay$Tokens" (25 : Nat) "SnorePlay$Tokens" "place" "I") ∈ am_tb := am_m1 51 rfl rfl
theorem wd_175 : (Jvm.Cond.fieldLinkNest "SnorePlay$Reader" (35 : Nat) "SnorePlay$Tokens" "place" "I" "SnorePlay") ∈ am_tb := am_m1 52 rfl rfl
theorem wd_193 : (Jvm.Cond.arrayClass Jvm.ClassFile.FieldType.byte) ∈ am_tb := am_m1 70 rfl rfl
theorem wd_194 : (Jvm.Cond.classLink "SnorePlay$Reader" (22 : Nat) "SnorePlay$House") ∈ am_tb := am_m1 71 rfl rfl
theorem wd_195 : (Jvm.Cond.instantiable "SnorePlay$House" (14 : Nat)) ∈ am_tb := am_m1 72 rfl rfl
theorem wd_196 : (Jvm.Cond.methodLink "SnorePlay$Reader" (24 : Nat) ({ cls := "SnorePlay$House", name := "<init>", desc := "(I)V" } : Jvm.MethodName)) ∈ am_tb := am_m1 73 rfl rfl
theorem wd_197 : (Jvm.Cond.instanceMethod ({ cls := "SnorePlay$House", name := "<init>", desc := "(I)V" } : Jvm.MethodName)) ∈ am_tb := am_m1 74 rfl rfl
theorem wd_198 : (Jvm.Cond.code ({ cls := "SnorePlay$House", name := "<init>", desc := "(I)V" } : Jvm.MethodName) prog_3_method_1_code (2 : Nat) (Option.none : Option Jvm.ClassFile.FieldType)) ∈ am_tb := am_m1 75 rfl rfl
theorem wd_199 : (Jvm.Cond.methodLink "SnorePlay$House" (3 : Nat) ({ cls := "java/lang/Object", name := "<init>", desc := "()V" } : Jvm.MethodName)) ∈ am_tb := am_m1 76 rfl rfl
theorem wd_200 : (Jvm.Cond.fieldLink "SnorePlay$House" (28 : Nat) "SnorePlay$House" "serial" "I") ∈ am_tb := am_m1 77 rfl rfl
theorem wd_201 : (Jvm.Cond.fieldLink "SnorePlay$Stage" (140 : Nat) "SnorePlay$House" "serial" "I") ∈ am_tb := am_m1 78 rfl rfl
theorem wd_202 : (Jvm.Cond.fieldLink "SnorePlay$Play" (79 : Nat) "SnorePlay$House" "serial" "I") ∈ am_tb := am_m1 79 rfl rfl
theorem wd_203 : (Jvm.Cond.fieldLink "SnorePlay$House" (9 : Nat) "SnorePlay$House" "beds" "I") ∈ am_tb := am_m1 80 rfl rfl
theorem wd_204 : (Jvm.Cond.fieldLink "SnorePlay$Placer" (84 : Nat) "SnorePlay$House" "beds" "I") ∈ am_tb := am_m1 81 rfl rfl
theorem wd_205 : (Jvm.Cond.fieldLink "SnorePlay$Reader" (67 : Nat) "SnorePlay$House" "beds" "I") ∈ am_tb := am_m1 82 rfl rfl
theorem wd_206 : (Jvm.Cond.fieldLink "SnorePlay" (381 : Nat) "SnorePlay$House" "beds" "I") ∈ am_tb := am_m1 83 rfl rfl
theorem wd_207 : (Jvm.Cond.fieldLink "SnorePlay$House" (15 : Nat) "SnorePlay$House" "sounds" "I") ∈ am_tb := am_m1 84 rfl rfl
theorem wd_208 : (Jvm.Cond.fieldLink "SnorePlay$Reader" (71 : Nat) "SnorePlay$House" "sounds" "I") ∈ am_tb := am_m1 85 rfl rfl
theorem wd_209 : (Jvm.Cond.fieldLink "SnorePlay$Stage" (133 : Nat) "SnorePlay$House" "sounds" "I") ∈ am_tb := am_m1 86 rfl rfl
theorem wd_210 : (Jvm.Cond.fieldLink "SnorePlay" (332 : Nat) "SnorePlay$House" "sounds" "I") ∈ am_tb := am_m1 87 rfl rfl
theorem wd_211 : (Jvm.Cond.fieldLink "SnorePlay$House" (18 : Nat) "SnorePlay$House" "acts" "I") ∈ am_tb := am_m1 88 rfl rfl
theorem wd_212 : (Jvm.Cond.fieldLink "SnorePlay$Play" (66 : Nat) "SnorePlay$House" "acts" "I") ∈ am_tb := am_m1 89 rfl rfl
theorem wd_213 : (Jvm.Cond.fieldLink "SnorePlay$Reader" (75 : Nat) "SnorePlay$House" "acts" "I") ∈ am_tb := am_m1 90 rfl rfl
theorem wd_214 : (Jvm.Cond.fieldLink "SnorePlay$Graph" (99 : Nat) "SnorePlay$House" "acts" "I") ∈ am_tb := am_m1 91 rfl rfl
theorem wd_215 : (Jvm.Cond.fieldLink "SnorePlay" (384 : Nat) "SnorePlay$House" "acts" "I") ∈ am_tb := am_m1 92 rfl rfl
theorem wd_216 : (Jvm.Cond.fieldLink "SnorePlay$House" (31 : Nat) "SnorePlay$House" "sleepers" "I") ∈ am_tb := am_m1 93 rfl rfl
theorem wd_217 : (Jvm.Cond.fieldLink "SnorePlay$Play" (41 : Nat) "SnorePlay$House" "sleepers" "I") ∈ am_tb := am_m1 94 rfl rfl
theorem wd_218 : (Jvm.Cond.fieldLink "SnorePlay$Placer" (63 : Nat) "SnorePlay$House" "sleepers" "I") ∈ am_tb := am_m1 95 rfl rfl
theorem wd_219 : (Jvm.Cond.fieldLink "SnorePlay$Stage" (47 : Nat) "SnorePlay$House" "sleepers" "I") ∈ am_tb := am_m1 96 rfl rfl
theorem wd_220 : (Jvm.Cond.fieldLink "SnorePlay$Graph" (94 : Nat) "SnorePlay$House" "sleepers" "I") ∈ am_tb := am_m1 97 rfl rfl
theorem wd_221 : (Jvm.Cond.fieldLink "SnorePlay$Reader" (96 : Nat) "SnorePlay$House" "sleepers" "I") ∈ am_tb := am_m1 98 rfl rfl
theorem wd_222 : (Jvm.Cond.fieldLink "SnorePlay" (329 : Nat) "SnorePlay$House" "sleepers" "I") ∈ am_tb := am_m1 99 rfl rfl
theorem wd_223 : (Jvm.Cond.fieldLink "SnorePlay$House" (21 : Nat) "SnorePlay$House" "bedOf" "[I") ∈ am_tb := am_m1 100 rfl rfl
theorem wd_224 : (Jvm.Cond.fieldLink "SnorePlay$Play" (26 : Nat) "SnorePlay$House" "bedOf" "[I") ∈ am_tb := am_m1 101 rfl rfl
theorem wd_225 : (Jvm.Cond.fieldLink "SnorePlay$Reader" (145 : Nat) "SnorePlay$House" "bedOf" "[I") ∈ am_tb := am_m1 102 rfl rfl
theorem wd_226 : (Jvm.Cond.fieldLink "SnorePlay$House" (25 : Nat) "SnorePlay$House" "dreamOf" "[I") ∈ am_tb := am_m1 103 rfl rfl
theorem wd_227 : (Jvm.Cond.fieldLink "SnorePlay$Play" (35 : Nat) "SnorePlay$House" "dreamOf" "[I") ∈ am_tb := am_m1 104 rfl rfl
theorem wd_228 : (Jvm.Cond.fieldLink "SnorePlay$Reader" (148 : Nat) "SnorePlay$House" "dreamOf" "[I") ∈ am_tb := am_m1 105 rfl rfl
theorem wd_229 : (Jvm.Cond.fieldLink "SnorePlay$Play" (48 : Nat) "SnorePlay$House" "openingLast" "I") ∈ am_tb := am_m1 106 rfl rfl
theorem wd_230 : (Jvm.Cond.fieldLink "SnorePlay$Reader" (99 : Nat) "SnorePlay$House" "openingLast" "I") ∈ am_tb := am_m1 107 rfl rfl
theorem wd_231 : (Jvm.Cond.fieldLink "SnorePlay$Play" (54 : Nat) "SnorePlay$House" "openingSound" "I") ∈ am_tb := am_m1 108 rfl rfl
theorem wd_232 : (Jvm.Cond.fieldLink "SnorePlay$Reader" (104 : Nat) "SnorePlay$House" "openingSound" "I") ∈ am_tb := am_m1 109 rfl rfl
theorem wd_233 : (Jvm.Cond.fieldLink "SnorePlay$Stage" (99 : Nat) "SnorePlay$House" "turningSound" "I") ∈ am_tb := am_m1 110 rfl rfl
theorem wd_234 : (Jvm.Cond.fieldLink "SnorePlay$Reader" (109 : Nat) "SnorePlay$House" "turningSound" "I") ∈ am_tb := am_m1 111 rfl rfl
theorem wd_235 : (Jvm.Cond.fieldLink "SnorePlay$Play" (36 : Nat) "SnorePlay$House" "hush" "I") ∈ am_tb := am_m1 112 rfl rfl
theorem wd_236 : (Jvm.Cond.fieldLink "SnorePlay$Reader" (114 : Nat) "SnorePlay$House" "hush" "I") ∈ am_tb := am_m1 113 rfl rfl
theorem wd_237 : (Jvm.Cond.fieldLink "SnorePlay" (135 : Nat) "SnorePlay$House" "lines" "I") ∈ am_tb := am_m1 114 rfl rfl
theorem wd_238 : (Jvm.Cond.fieldLink "SnorePlay$Reader" (79 : Nat) "SnorePlay$House" "lines" "I") ∈ am_tb := am_m1 115 rfl rfl
theorem wd_239 : (Jvm.Cond.fieldLink "SnorePlay$Stage" (112 : Nat) "SnorePlay$House" "answers" "[I") ∈ am_tb := am_m1 116 rfl rfl
theorem wd_240 : (Jvm.Cond.fieldLink "SnorePlay$Reader" (122 : Nat) "SnorePlay$House" "answers" "[I") ∈ am_tb := am_m1 117 rfl rfl
theorem wd_241 : (Jvm.Cond.fieldLink "SnorePlay$Reader" (126 : Nat) "SnorePlay$House" "says" "[I") ∈ am_tb := am_m1 118 rfl rfl
theorem wd_242 : (Jvm.Cond.fieldLink "SnorePlay$Stage" (130 : Nat) "SnorePlay$House" "says" "[I") ∈ am_tb := am_m1 119 rfl rfl
theorem wd_272 : (Jvm.Cond.arrayClass Jvm.ClassFile.FieldType.int) ∈ am_tb := am_m1 149 rfl rfl
theorem wd_273 : (Jvm.Cond.fieldLink "SnorePlay$Reader" (12 : Nat) "SnorePlay$Reader" "tokens" "LSnorePlay$Tokens;") ∈ am_tb := am_m1 150 rfl rfl
theorem wd_274 : (Jvm.Cond.fieldLink "SnorePlay$Reader" (18 : Nat) "SnorePlay$Reader" "codes" "[I") ∈ am_tb := am_m1 151 rfl rfl
theorem wd_275 : (Jvm.Cond.fieldLink "SnorePlay$Reader" (153 : Nat) "SnorePlay$Reader" "size" "I") ∈ am_tb := am_m1 152 rfl rfl
theorem wd_276 : (Jvm.Cond.fieldLink "SnorePlay$Reader" (27 : Nat) "SnorePlay$Reader" "draft" "LSnorePlay$House;") ∈ am_tb := am_m1 153 rfl rfl
theorem wd_286 : (Jvm.Cond.classLink "SnorePlay" (24 : Nat) "SnorePlay$Stage") ∈ am_tb := am_m1 163 rfl rfl
theorem wd_287 : (Jvm.Cond.instantiable "SnorePlay$Stage" (8 : Nat)) ∈ am_tb := am_m1 164 rfl rfl
theorem wd_288 : (Jvm.Cond.methodLinkNest "SnorePlay" (26 : Nat) ({ cls := "SnorePlay$Stage", name := "<init>", desc := "()V" } : Jvm.MethodName) "SnorePlay") ∈ am_tb := am_m1 165 rfl rfl
theorem wd_289 : (Jvm.Cond.instanceMethod ({ cls := "SnorePlay$Stage", name := "<init>", desc := "()V" } : Jvm.MethodName)) ∈ am_tb := am_m1 166 rfl rfl
theorem wd_290 : (Jvm.Cond.code ({ cls := "SnorePlay$Stage", name := "<init>", desc := "()V" } : Jvm.MethodName) prog_9_method_1_code (1 : Nat) (Option.none : Option Jvm.ClassFile.FieldType)) ∈ am_tb := am_m1 167 rfl rfl
theorem wd_291 : (Jvm.Cond.methodLink "SnorePlay$Stage" (3 : Nat) ({ cls := "java/lang/Object", name := "<init>", desc := "()V" } : Jvm.MethodName)) ∈ am_tb := am_m1 168 rfl rfl
theorem wd_292 : (Jvm.Cond.fieldLink "SnorePlay$Stage" (11 : Nat) "SnorePlay$Stage" "amounts" "[I") ∈ am_tb := am_m1 169 rfl rfl
theorem wd_293 : (Jvm.Cond.fieldLink "SnorePlay$Stage" (15 : Nat) "SnorePlay$Stage" "amountMarks" "[I") ∈ am_tb := am_m1 170 rfl rfl
theorem wd_294 : (Jvm.Cond.fieldLink "SnorePlay$Stage" (18 : Nat) "SnorePlay$Stage" "tones" "[I") ∈ am_tb := am_m1 171 rfl rfl
theorem wd_295 : (Jvm.Cond.fieldLink "SnorePlay$Stage" (21 : Nat) "SnorePlay$Stage" "toneMarks" "[I") ∈ am_tb := am_m1 172 rfl rfl
theorem wd_296 : (Jvm.Cond.fieldLink "SnorePlay$Stage" (26 : Nat) "SnorePlay$Stage" "values" "[I") ∈ am_tb := am_m1 173 rfl rfl
theorem wd_297 : (Jvm.Cond.fieldLink "SnorePlay$Stage" (29 : Nat) "SnorePlay$Stage" "stack" "[I") ∈ am_tb := am_m1 174 rfl rfl
theorem wd_298 : (Jvm.Cond.fieldLink "SnorePlay$Stage" (32 : Nat) "SnorePlay$Stage" "seen" "[I") ∈ am_tb := am_m1 175 rfl rfl
theorem wd_299 : (Jvm.Cond.fieldLink "SnorePlay$Stage" (153 : Nat) "SnorePlay$Stage" "walks" "I") ∈ am_tb := am_m1 176 rfl rfl
theorem wd_317 : (Jvm.Cond.classLink "SnorePlay" (31 : Nat) "SnorePlay$Tray") ∈ am_tb := am_m1 194 rfl rfl
theorem wd_318 : (Jvm.Cond.arrayOver (Jvm.ClassFile.FieldType.object "SnorePlay$Tray")) ∈ am_tb := am_m1 195 rfl rfl
theorem wd_319 : (Jvm.Cond.classLink "SnorePlay" (37 : Nat) "SnorePlay$Play") ∈ am_tb := am_m1 196 rfl rfl
theorem wd_320 : (Jvm.Cond.arrayOver (Jvm.ClassFile.FieldType.object "SnorePlay$Play")) ∈ am_tb := am_m1 197 rfl rfl
theorem wd_321 : (Jvm.Cond.classLink "SnorePlay" (51 : Nat) "SnorePlay$House") ∈ am_tb := am_m1 198 rfl rfl
theorem wd_322 : (Jvm.Cond.methodLink "SnorePlay" (53 : Nat) ({ cls := "SnorePlay$House", name := "<init>", desc := "(I)V" } : Jvm.MethodName)) ∈ am_tb := am_m1 199 rfl rfl
theorem wd_323 : (Jvm.Cond.instantiable "SnorePlay$Play" (9 : Nat)) ∈ am_tb := am_m1 200 rfl rfl
theorem wd_324 : (Jvm.Cond.methodLink "SnorePlay" (56 : Nat) ({ cls := "SnorePlay$Play", name := "<init>", desc := "(LSnorePlay$House;)V" } : Jvm.MethodName)) ∈ am_tb := am_m1 201 rfl rfl
theorem wd_325 : (Jvm.Cond.instanceMethod ({ cls := "SnorePlay$Play", name := "<init>", desc := "(LSnorePlay$House;)V" } : Jvm.MethodName)) ∈ am_tb := am_m1 202 rfl rfl
theorem wd_326 : (Jvm.Cond.code ({ cls := "SnorePlay$Play", name := "<init>", desc := "(LSnorePlay$House;)V" } : Jvm.MethodName) prog_6_method_1_code (2 : Nat) (Option.none : Option Jvm.ClassFile.FieldType)) ∈ am_tb := am_m1 203 rfl rfl
theorem wd_327 : (Jvm.Cond.methodLink "SnorePlay$Play" (3 : Nat) ({ cls := "java/lang/Object", name := "<init>", desc := "()V" } : Jvm.MethodName)) ∈ am_tb := am_m1 204 rfl rfl
theorem wd_328 : (Jvm.Cond.methodLink "SnorePlay$Play" (18 : Nat) ({ cls := "SnorePlay$Play", name := "open", desc := "(LSnorePlay$House;)V" } : Jvm.MethodName)) ∈ am_tb := am_m1 205 rfl rfl
theorem wd_329 : (Jvm.Cond.instanceMethod ({ cls := "SnorePlay$Play", name := "open", desc := "(LSnorePlay$House;)V" } : Jvm.MethodName)) ∈ am_tb := am_m1 206 rfl rfl
theorem wd_330 : (Jvm.Cond.selects "SnorePlay$Play" ({ cls := "SnorePlay$Play", name := "open", desc := "(LSnorePlay$House;)V" } : Jvm.MethodName) ({ cls := "SnorePlay$Play", name := "open", desc := "(LSnorePlay$House;)V" } : Jvm.MethodName)) ∈ am_tb := am_m1 207 rfl rfl
theorem wd_331 : (Jvm.Cond.code ({ cls := "SnorePlay$Play", name := "open", desc := "(LSnorePlay$House;)V" } : Jvm.MethodName) prog_6_method_2_code (2 : Nat) (Option.none : Option Jvm.ClassFile.FieldType)) ∈ am_tb := am_m1 208 rfl rfl
theorem wd_332 : (Jvm.Cond.methodLink "SnorePlay$Play" (29 : Nat) ({ cls := "java/lang/System", name := "arraycopy", desc := "(Ljava/lang/Object;ILjava/lang/Object;II)V" } : Jvm.MethodName)) ∈ am_tb := am_m1 209 rfl rfl
theorem wd_333 : (Jvm.Cond.static ({ cls := "java/lang/System", name := "arraycopy", desc := "(Ljava/lang/Object;ILjava/lang/Object;II)V" } : Jvm.MethodName)) ∈ am_tb := am_m1 210 rfl rfl
theorem wd_334 : (Jvm.Cond.native ({ cls := "java/lang/System", name := "arraycopy", desc := "(Ljava/lang/Object;ILjava/lang/Object;II)V" } : Jvm.MethodName)) ∈ am_tb := am_m1 211 rfl rfl
theorem wd_335 : (Jvm.Cond.fieldLink "SnorePlay$Play" (22 : Nat) "SnorePlay$Play" "house" "LSnorePlay$House;") ∈ am_tb := am_m1 212 rfl rfl
theorem wd_336 : (Jvm.Cond.fieldLink "SnorePlay$Placer" (59 : Nat) "SnorePlay$Play" "house" "LSnorePlay$House;") ∈ am_tb := am_m1 213 rfl rfl
theorem wd_337 : (Jvm.Cond.fieldLink "SnorePlay$Stage" (41 : Nat) "SnorePlay$Play" "house" "LSnorePlay$House;") ∈ am_tb := am_m1 214 rfl rfl
theorem wd_338 : (Jvm.Cond.fieldLink "SnorePlay$Graph" (90 : Nat) "SnorePlay$Play" "house" "LSnorePlay$House;") ∈ am_tb := am_m1 215 rfl rfl
theorem wd_339 : (Jvm.Cond.fieldLink "SnorePlay" (325 : Nat) "SnorePlay$Play" "house" "LSnorePlay$House;") ∈ am_tb := am_m1 216 rfl rfl
theorem wd_340 : (Jvm.Cond.fieldLink "SnorePlay$Play" (9 : Nat) "SnorePlay$Play" "bedOf" "[I") ∈ am_tb := am_m1 217 rfl rfl
theorem wd_341 : (Jvm.Cond.fieldLink "SnorePlay$Placer" (56 : Nat) "SnorePlay$Play" "bedOf" "[I") ∈ am_tb := am_m1 218 rfl rfl
theorem wd_342 : (Jvm.Cond.fieldLink "SnorePlay" (142 : Nat) "SnorePlay$Play" "bedOf" "[I") ∈ am_tb := am_m1 219 rfl rfl
theorem wd_343 : (Jvm.Cond.fieldLink "SnorePlay$Play" (15 : Nat) "SnorePlay$Play" "dreamOf" "[I") ∈ am_tb := am_m1 220 rfl rfl
theorem wd_344 : (Jvm.Cond.fieldLink "SnorePlay$Stage" (80 : Nat) "SnorePlay$Play" "dreamOf" "[I") ∈ am_tb := am_m1 221 rfl rfl
theorem wd_345 : (Jvm.Cond.fieldLink "SnorePlay" (145 : Nat) "SnorePlay$Play" "dreamOf" "[I") ∈ am_tb := am_m1 222 rfl rfl
theorem wd_346 : (Jvm.Cond.fieldLink "SnorePlay$Play" (40 : Nat) "SnorePlay$Play" "hush" "I") ∈ am_tb := am_m1 223 rfl rfl
theorem wd_347 : (Jvm.Cond.fieldLink "SnorePlay$Stage" (73 : Nat) "SnorePlay$Play" "hush" "I") ∈ am_tb := am_m1 224 rfl rfl
theorem wd_348 : (Jvm.Cond.fieldLink "SnorePlay" (185 : Nat) "SnorePlay$Play" "hush" "I") ∈ am_tb := am_m1 225 rfl rfl
theorem wd_349 : (Jvm.Cond.fieldLink "SnorePlay$Play" (51 : Nat) "SnorePlay$Play" "last" "I") ∈ am_tb := am_m1 226 rfl rfl
theorem wd_350 : (Jvm.Cond.fieldLink "SnorePlay$Stage" (83 : Nat) "SnorePlay$Play" "last" "I") ∈ am_tb := am_m1 227 rfl rfl
theorem wd_351 : (Jvm.Cond.fieldLink "SnorePlay" (210 : Nat) "SnorePlay$Play" "last" "I") ∈ am_tb := am_m1 228 rfl rfl
theorem wd_352 : (Jvm.Cond.fieldLink "SnorePlay$Play" (57 : Nat) "SnorePlay$Play" "sound" "I") ∈ am_tb := am_m1 229 rfl rfl
theorem wd_353 : (Jvm.Cond.fieldLink "SnorePlay$Stage" (96 : Nat) "SnorePlay$Play" "sound" "I") ∈ am_tb := am_m1 230 rfl rfl
theorem wd_354 : (Jvm.Cond.fieldLink "SnorePlay" (168 : Nat) "SnorePlay$Play" "sound" "I") ∈ am_tb := am_m1 231 rfl rfl
theorem wd_355 : (Jvm.Cond.fieldLink "SnorePlay$Play" (60 : Nat) "SnorePlay$Play" "act" "I") ∈ am_tb := am_m1 232 rfl rfl
theorem wd_356 : (Jvm.Cond.fieldLink "SnorePlay$Stage" (102 : Nat) "SnorePlay$Play" "act" "I") ∈ am_tb := am_m1 233 rfl rfl
theorem wd_357 : (Jvm.Cond.fieldLink "SnorePlay" (171 : Nat) "SnorePlay$Play" "act" "I") ∈ am_tb := am_m1 234 rfl rfl
theorem wd_358 : (Jvm.Cond.fieldLink "SnorePlay$Play" (63 : Nat) "SnorePlay$Play" "snored" "I") ∈ am_tb := am_m1 235 rfl rfl
theorem wd_359 : (Jvm.Cond.fieldLink "SnorePlay$Stage" (105 : Nat) "SnorePlay$Play" "snored" "I") ∈ am_tb := am_m1 236 rfl rfl
theorem wd_360 : (Jvm.Cond.fieldLink "SnorePlay" (390 : Nat) "SnorePlay$Play" "snored" "I") ∈ am_tb := am_m1 237 rfl rfl
theorem wd_361 : (Jvm.Cond.fieldLink "SnorePlay$Play" (44 : Nat) "SnorePlay$Play" "still" "Z") ∈ am_tb := am_m1 238 rfl rfl
theorem wd_362 : (Jvm.Cond.fieldLink "SnorePlay$Stage" (89 : Nat) "SnorePlay$Play" "still" "Z") ∈ am_tb := am_m1 239 rfl rfl
theorem wd_363 : (Jvm.Cond.fieldLink "SnorePlay" (387 : Nat) "SnorePlay$Play" "still" "Z") ∈ am_tb := am_m2 0 rfl rfl
theorem wd_383 : (Jvm.Cond.arrayClass Jvm.ClassFile.FieldType.boolean) ∈ am_tb := am_m2 20 rfl rfl
theorem wd_384 : (Jvm.Cond.classLink "SnorePlay" (66 : Nat) "SnorePlay$Graph") ∈ am_tb := am_m2 21 rfl rfl
theorem wd_385 : (Jvm.Cond.instantiable "SnorePlay$Graph" (13 : Nat)) ∈ am_tb := am_m2 22 rfl rfl
theorem wd_386 : (Jvm.Cond.methodLink "SnorePlay" (68 : Nat) ({ cls := "SnorePlay$Graph", name := "<init>", desc := "(LSnorePlay$Stage;LSnorePlay$Play;)V" } : Jvm.MethodName)) ∈ am_tb := am_m2 23 rfl rfl
theorem wd_387 : (Jvm.Cond.instanceMethod ({ cls := "SnorePlay$Graph", name := "<init>", desc := "(LSnorePlay$Stage;LSnorePlay$Play;)V" } : Jvm.MethodName)) ∈ am_tb := am_m2 24 rfl rfl
theorem wd_388 : (Jvm.Cond.code ({ cls := "SnorePlay$Graph", name := "<init>", desc := "(LSnorePlay$Stage;LSnorePlay$Play;)V" } : Jvm.MethodName) prog_2_method_1_code (3 : Nat) (Option.none : Option Jvm.ClassFile.FieldType)) ∈ am_tb := am_m2 25 rfl rfl
theorem wd_389 : (Jvm.Cond.methodLink "SnorePlay$Graph" (3 : Nat) ({ cls := "java/lang/Object", name := "<init>", desc := "()V" } : Jvm.MethodName)) ∈ am_tb := am_m2 26 rfl rfl
theorem wd_390 : (Jvm.Cond.constantLong "SnorePlay$Graph" (18 : Nat) (-1 : Int64)) ∈ am_tb := am_m2 27 rfl rfl
theorem wd_391 : (Jvm.Cond.fieldLink "SnorePlay$Graph" (40 : Nat) "SnorePlay$Graph" "stage" "LSnorePlay$Stage;") ∈ am_tb := am_m2 28 rfl rfl
theorem wd_392 : (Jvm.Cond.fieldLink "SnorePlay$Graph" (44 : Nat) "SnorePlay$Graph" "trial" "LSnorePlay$Play;") ∈ am_tb := am_m2 29 rfl rfl
theorem wd_393 : (Jvm.Cond.fieldLink "SnorePlay$Graph" (9 : Nat) "SnorePlay$Graph" "next" "[I") ∈ am_tb := am_m2 30 rfl rfl
theorem wd_394 : (Jvm.Cond.fieldLink "SnorePlay$Graph" (15 : Nat) "SnorePlay$Graph" "nextIfWoken" "[I") ∈ am_tb := am_m2 31 rfl rfl
theorem wd_395 : (Jvm.Cond.fieldLink "SnorePlay$Graph" (20 : Nat) "SnorePlay$Graph" "setting" "J") ∈ am_tb := am_m2 32 rfl rfl
theorem wd_396 : (Jvm.Cond.fieldLink "SnorePlay$Graph" (24 : Nat) "SnorePlay$Graph" "now" "I") ∈ am_tb := am_m2 33 rfl rfl
theorem wd_397 : (Jvm.Cond.fieldLink "SnorePlay$Tally" (37 : Nat) "SnorePlay$Graph" "now" "I") ∈ am_tb := am_m2 34 rfl rfl
theorem wd_398 : (Jvm.Cond.fieldLink "SnorePlay$Search" (39 : Nat) "SnorePlay$Graph" "now" "I") ∈ am_tb := am_m2 35 rfl rfl
theorem wd_399 : (Jvm.Cond.fieldLink "SnorePlay$Graph" (28 : Nat) "SnorePlay$Graph" "reached" "[I") ∈ am_tb := am_m2 36 rfl rfl
theorem wd_400 : (Jvm.Cond.fieldLink "SnorePlay$Search" (46 : Nat) "SnorePlay$Graph" "reached" "[I") ∈ am_tb := am_m2 37 rfl rfl
theorem wd_401 : (Jvm.Cond.fieldLink "SnorePlay$Graph" (67 : Nat) "SnorePlay$Graph" "reachedCount" "I") ∈ am_tb := am_m2 38 rfl rfl
theorem wd_402 : (Jvm.Cond.fieldLink "SnorePlay$Search" (43 : Nat) "SnorePlay$Graph" "reachedCount" "I") ∈ am_tb := am_m2 39 rfl rfl
theorem wd_403 : (Jvm.Cond.fieldLink "SnorePlay$Graph" (31 : Nat) "SnorePlay$Graph" "reachedMarks" "[I") ∈ am_tb := am_m2 40 rfl rfl
theorem wd_404 : (Jvm.Cond.fieldLink "SnorePlay$Graph" (34 : Nat) "SnorePlay$Graph" "path" "[I") ∈ am_tb := am_m2 41 rfl rfl
theorem wd_405 : (Jvm.Cond.fieldLink "SnorePlay" (251 : Nat) "SnorePlay$Graph" "path" "[I") ∈ am_tb := am_m2 42 rfl rfl
theorem wd_406 : (Jvm.Cond.fieldLink "SnorePlay$Graph" (37 : Nat) "SnorePlay$Graph" "placeOnPath" "[I") ∈ am_tb := am_m2 43 rfl rfl
theorem wd_407 : (Jvm.Cond.fieldLink "SnorePlay$Graph" (112 : Nat) "SnorePlay$Graph" "steps" "I") ∈ am_tb := am_m2 44 rfl rfl
theorem wd_408 : (Jvm.Cond.fieldLink "SnorePlay" (248 : Nat) "SnorePlay$Graph" "steps" "I") ∈ am_tb := am_m2 45 rfl rfl
theorem wd_409 : (Jvm.Cond.fieldLink "SnorePlay$Graph" (115 : Nat) "SnorePlay$Graph" "loop" "I") ∈ am_tb := am_m2 46 rfl rfl
theorem wd_410 : (Jvm.Cond.fieldLink "SnorePlay" (245 : Nat) "SnorePlay$Graph" "loop" "I") ∈ am_tb := am_m2 47 rfl rfl
theorem wd_438 : (Jvm.Cond.classLink "SnorePlay" (75 : Nat) "SnorePlay$Search") ∈ am_tb := am_m2 75 rfl rfl
theorem wd_439 : (Jvm.Cond.instantiable "SnorePlay$Search" (3 : Nat)) ∈ am_tb := am_m2 76 rfl rfl
theorem wd_440 : (Jvm.Cond.methodLink "SnorePlay" (77 : Nat) ({ cls := "SnorePlay$Search", name := "<init>", desc := "(LSnorePlay$Graph;)V" } : Jvm.MethodName)) ∈ am_tb := am_m2 77 rfl rfl
theorem wd_441 : (Jvm.Cond.instanceMethod ({ cls := "SnorePlay$Search", name := "<init>", desc := "(LSnorePlay$Graph;)V" } : Jvm.MethodName)) ∈ am_tb := am_m2 78 rfl rfl
theorem wd_442 : (Jvm.Cond.code ({ cls := "SnorePlay$Search", name := "<init>", desc := "(LSnorePlay$Graph;)V" } : Jvm.MethodName) prog_8_method_1_code (2 : Nat) (Option.none : Option Jvm.ClassFile.FieldType)) ∈ am_tb := am_m2 79 rfl rfl
theorem wd_443 : (Jvm.Cond.methodLink "SnorePlay$Search" (3 : Nat) ({ cls := "java/lang/Object", name := "<init>", desc := "()V" } : Jvm.MethodName)) ∈ am_tb := am_m2 80 rfl rfl
theorem wd_444 : (Jvm.Cond.fieldLink "SnorePlay$Search" (18 : Nat) "SnorePlay$Search" "graph" "LSnorePlay$Graph;") ∈ am_tb := am_m2 81 rfl rfl
theorem wd_445 : (Jvm.Cond.fieldLink "SnorePlay$Search" (9 : Nat) "SnorePlay$Search" "rank" "[I") ∈ am_tb := am_m2 82 rfl rfl
theorem wd_446 : (Jvm.Cond.fieldLink "SnorePlay$Search" (15 : Nat) "SnorePlay$Search" "otherRank" "[I") ∈ am_tb := am_m2 83 rfl rfl
theorem wd_454 : (Jvm.Cond.classLink "SnorePlay" (84 : Nat) "SnorePlay$Tally") ∈ am_tb := am_m2 91 rfl rfl
theorem wd_455 : (Jvm.Cond.instantiable "SnorePlay$Tally" (5 : Nat)) ∈ am_tb := am_m2 92 rfl rfl
theorem wd_456 : (Jvm.Cond.methodLink "SnorePlay" (86 : Nat) ({ cls := "SnorePlay$Tally", name := "<init>", desc := "(LSnorePlay$Graph;)V" } : Jvm.MethodName)) ∈ am_tb := am_m2 93 rfl rfl
theorem wd_457 : (Jvm.Cond.instanceMethod ({ cls := "SnorePlay$Tally", name := "<init>", desc := "(LSnorePlay$Graph;)V" } : Jvm.MethodName)) ∈ am_tb := am_m2 94 rfl rfl
theorem wd_458 : (Jvm.Cond.code ({ cls := "SnorePlay$Tally", name := "<init>", desc := "(LSnorePlay$Graph;)V" } : Jvm.MethodName) prog_10_method_1_code (2 : Nat) (Option.none : Option Jvm.ClassFile.FieldType)) ∈ am_tb := am_m2 95 rfl rfl
theorem wd_459 : (Jvm.Cond.methodLink "SnorePlay$Tally" (3 : Nat) ({ cls := "java/lang/Object", name := "<init>", desc := "()V" } : Jvm.MethodName)) ∈ am_tb := am_m2 96 rfl rfl
theorem wd_460 : (Jvm.Cond.classLink "SnorePlay$Tally" (22 : Nat) "[[J") ∈ am_tb := am_m2 97 rfl rfl
theorem wd_461 : (Jvm.Cond.arrayOver (Jvm.ClassFile.FieldType.array Jvm.ClassFile.FieldType.long)) ∈ am_tb := am_m2 98 rfl rfl
theorem wd_462 : (Jvm.Cond.fieldLink "SnorePlay$Tally" (27 : Nat) "SnorePlay$Tally" "graph" "LSnorePlay$Graph;") ∈ am_tb := am_m2 99 rfl rfl
theorem wd_463 : (Jvm.Cond.fieldLink "SnorePlay$Tally" (9 : Nat) "SnorePlay$Tally" "ways" "[J") ∈ am_tb := am_m2 100 rfl rfl
theorem wd_464 : (Jvm.Cond.fieldLink "SnorePlay$Tally" (15 : Nat) "SnorePlay$Tally" "waysThen" "[J") ∈ am_tb := am_m2 101 rfl rfl
theorem wd_465 : (Jvm.Cond.fieldLink "SnorePlay$Tally" (18 : Nat) "SnorePlay$Tally" "metAt" "[I") ∈ am_tb := am_m2 102 rfl rfl
theorem wd_466 : (Jvm.Cond.fieldLink "SnorePlay$Tally" (24 : Nat) "SnorePlay$Tally" "fitting" "[[J") ∈ am_tb := am_m2 103 rfl rfl
theorem wd_478 : (Jvm.Cond.arrayClass Jvm.ClassFile.FieldType.long) ∈ am_tb := am_m2 115 rfl rfl
theorem wd_479 : (Jvm.Cond.classLink "SnorePlay" (91 : Nat) "SnorePlay$Placer") ∈ am_tb := am_m2 116 rfl rfl
theorem wd_480 : (Jvm.Cond.instantiable "SnorePlay$Placer" (7 : Nat)) ∈ am_tb := am_m2 117 rfl rfl
theorem wd_481 : (Jvm.Cond.methodLink "SnorePlay" (93 : Nat) ({ cls := "SnorePlay$Placer", name := "<init>", desc := "(LSnorePlay$Stage;LSnorePlay$Play;)V" } : Jvm.MethodName)) ∈ am_tb := am_m2 118 rfl rfl
theorem wd_482 : (Jvm.Cond.instanceMethod ({ cls := "SnorePlay$Placer", name := "<init>", desc := "(LSnorePlay$Stage;LSnorePlay$Play;)V" } : Jvm.MethodName)) ∈ am_tb := am_m2 119 rfl rfl
theorem wd_483 : (Jvm.Cond.code ({ cls := "SnorePlay$Placer", name := "<init>", desc := "(LSnorePlay$Stage;LSnorePlay$Play;)V" } : Jvm.MethodName) prog_5_method_1_code (3 : Nat) (Option.none : Option Jvm.ClassFile.FieldType)) ∈ am_tb := am_m2 120 rfl rfl
theorem wd_484 : (Jvm.Cond.methodLink "SnorePlay$Placer" (3 : Nat) ({ cls := "java/lang/Object", name := "<init>", desc := "()V" } : Jvm.MethodName)) ∈ am_tb := am_m2 121 rfl rfl
theorem wd_485 : (Jvm.Cond.constantLong "SnorePlay$Placer" (22 : Nat) (-1 : Int64)) ∈ am_tb := am_m2 122 rfl rfl
theorem wd_486 : (Jvm.Cond.fieldLink "SnorePlay$Placer" (31 : Nat) "SnorePlay$Placer" "stage" "LSnorePlay$Stage;") ∈ am_tb := am_m2 123 rfl rfl
theorem wd_487 : (Jvm.Cond.fieldLink "SnorePlay$Placer" (35 : Nat) "SnorePlay$Placer" "trial" "LSnorePlay$Play;") ∈ am_tb := am_m2 124 rfl rfl
theorem wd_488 : (Jvm.Cond.fieldLink "SnorePlay$Placer" (9 : Nat) "SnorePlay$Placer" "order" "[I") ∈ am_tb := am_m2 125 rfl rfl
theorem wd_489 : (Jvm.Cond.fieldLink "SnorePlay$Placer" (15 : Nat) "SnorePlay$Placer" "firstOrder" "[I") ∈ am_tb := am_m2 126 rfl rfl
theorem wd_490 : (Jvm.Cond.fieldLink "SnorePlay" (291 : Nat) "SnorePlay$Placer" "firstOrder" "[I") ∈ am_tb := am_m2 127 rfl rfl
theorem wd_491 : (Jvm.Cond.fieldLink "SnorePlay$Placer" (18 : Nat) "SnorePlay$Placer" "fewest" "I") ∈ am_tb := am_m2 128 rfl rfl
theorem wd_492 : (Jvm.Cond.fieldLink "SnorePlay" (289 : Nat) "SnorePlay$Placer" "fewest" "I") ∈ am_tb := am_m2 129 rfl rfl
theorem wd_493 : (Jvm.Cond.fieldLink "SnorePlay$Placer" (24 : Nat) "SnorePlay$Placer" "placedSetting" "J") ∈ am_tb := am_m2 130 rfl rfl
theorem wd_494 : (Jvm.Cond.fieldLink "SnorePlay$Placer" (28 : Nat) "SnorePlay$Placer" "placedNode" "I") ∈ am_tb := am_m2 131 rfl rfl
theorem wd_510 : (Jvm.Cond.classLink "SnorePlay" (98 : Nat) "SnorePlay$Past") ∈ am_tb := am_m2 147 rfl rfl
theorem wd_511 : (Jvm.Cond.instantiable "SnorePlay$Past" (3 : Nat)) ∈ am_tb := am_m2 148 rfl rfl
theorem wd_512 : (Jvm.Cond.methodLink "SnorePlay" (100 : Nat) ({ cls := "SnorePlay$Past", name := "<init>", desc := "(LSnorePlay$House;)V" } : Jvm.MethodName)) ∈ am_tb := am_m2 149 rfl rfl
theorem wd_513 : (Jvm.Cond.instanceMethod ({ cls := "SnorePlay$Past", name := "<init>", desc := "(LSnorePlay$House;)V" } : Jvm.MethodName)) ∈ am_tb := am_m2 150 rfl rfl
theorem wd_514 : (Jvm.Cond.code ({ cls := "SnorePlay$Past", name := "<init>", desc := "(LSnorePlay$House;)V" } : Jvm.MethodName) prog_4_method_1_code (3 : Nat) (Option.none : Option Jvm.ClassFile.FieldType)) ∈ am_tb := am_m2 151 rfl rfl
theorem wd_515 : (Jvm.Cond.methodLink "SnorePlay$Past" (1 : Nat) ({ cls := "java/lang/Object", name := "<init>", desc := "()V" } : Jvm.MethodName)) ∈ am_tb := am_m2 152 rfl rfl
theorem wd_516 : (Jvm.Cond.classLink "SnorePlay$Past" (7 : Nat) "SnorePlay$Play") ∈ am_tb := am_m2 153 rfl rfl
theorem wd_517 : (Jvm.Cond.methodLink "SnorePlay$Past" (15 : Nat) ({ cls := "SnorePlay$Play", name := "<init>", desc := "(LSnorePlay$House;)V" } : Jvm.MethodName)) ∈ am_tb := am_m2 154 rfl rfl
theorem wd_518 : (Jvm.Cond.fieldLink "SnorePlay$Past" (9 : Nat) "SnorePlay$Past" "ring" "[LSnorePlay$Play;") ∈ am_tb := am_m2 155 rfl rfl
theorem wd_519 : (Jvm.Cond.fieldLink "SnorePlay$Past" (22 : Nat) "SnorePlay$Past" "next" "I") ∈ am_tb := am_m2 156 rfl rfl
theorem wd_520 : (Jvm.Cond.fieldLink "SnorePlay$Past" (18 : Nat) "SnorePlay$Past" "kept" "I") ∈ am_tb := am_m2 157 rfl rfl
theorem wd_521 : (Jvm.Cond.fieldLink "SnorePlay" (188 : Nat) "SnorePlay$Past" "kept" "I") ∈ am_tb := am_m2 158 rfl rfl
theorem wd_529 : (Jvm.Cond.instantiable "SnorePlay$Tray" (4 : Nat)) ∈ am_tb := am_m2 166 rfl rfl
theorem wd_530 : (Jvm.Cond.methodLinkNest "SnorePlay" (105 : Nat) ({ cls := "SnorePlay$Tray", name := "<init>", desc := "()V" } : Jvm.MethodName) "SnorePlay") ∈ am_tb := am_m2 167 rfl rfl
theorem wd_531 : (Jvm.Cond.instanceMethod ({ cls := "SnorePlay$Tray", name := "<init>", desc := "()V" } : Jvm.MethodName)) ∈ am_tb := am_m2 168 rfl rfl
theorem wd_532 : (Jvm.Cond.code ({ cls := "SnorePlay$Tray", name := "<init>", desc := "()V" } : Jvm.MethodName) prog_12_method_1_code (1 : Nat) (Option.none : Option Jvm.ClassFile.FieldType)) ∈ am_tb := am_m2 169 rfl rfl
theorem wd_533 : (Jvm.Cond.methodLink "SnorePlay$Tray" (3 : Nat) ({ cls := "java/lang/Object", name := "<init>", desc := "()V" } : Jvm.MethodName)) ∈ am_tb := am_m2 170 rfl rfl
theorem wd_534 : (Jvm.Cond.fieldLink "SnorePlay$Tray" (9 : Nat) "SnorePlay$Tray" "missing" "Z") ∈ am_tb := am_m2 171 rfl rfl
theorem wd_535 : (Jvm.Cond.fieldLink "SnorePlay" (235 : Nat) "SnorePlay$Tray" "missing" "Z") ∈ am_tb := am_m2 172 rfl rfl
theorem wd_536 : (Jvm.Cond.fieldLink "SnorePlay$Tray" (19 : Nat) "SnorePlay$Tray" "sort" "I") ∈ am_tb := am_m2 173 rfl rfl
theorem wd_537 : (Jvm.Cond.fieldLink "SnorePlay$Tray" (23 : Nat) "SnorePlay$Tray" "size" "I") ∈ am_tb := am_m2 174 rfl rfl
theorem wd_538 : (Jvm.Cond.fieldLink "SnorePlay$Tally" (85 : Nat) "SnorePlay$Tray" "size" "I") ∈ am_tb := am_m2 175 rfl rfl
theorem wd_539 : (Jvm.Cond.fieldLink "SnorePlay" (203 : Nat) "SnorePlay$Tray" "size" "I") ∈ am_tb := am_m2 176 rfl rfl
theorem wd_540 : (Jvm.Cond.fieldLink "SnorePlay$Tray" (15 : Nat) "SnorePlay$Tray" "held" "[J") ∈ am_tb := am_m2 177 rfl rfl
theorem wd_541 : (Jvm.Cond.fieldLink "SnorePlay$Tally" (94 : Nat) "SnorePlay$Tray" "held" "[J") ∈ am_tb := am_m2 178 rfl rfl
theorem wd_542 : (Jvm.Cond.fieldLink "SnorePlay" (206 : Nat) "SnorePlay$Tray" "held" "[J") ∈ am_tb := am_m2 179 rfl rfl
theorem wd_552 : (Jvm.Cond.fieldLink "SnorePlay" (9 : Nat) "SnorePlay" "tape" "[B") ∈ am_tb := am_m2 189 rfl rfl
theorem wd_553 : (Jvm.Cond.fieldLink "SnorePlay" (106 : Nat) "SnorePlay" "taped" "I") ∈ am_tb := am_m2 190 rfl rfl
theorem wd_554 : (Jvm.Cond.fieldLink "SnorePlay" (123 : Nat) "SnorePlay" "latestFault" "I") ∈ am_tb := am_m2 191 rfl rfl
theorem wd_555 : (Jvm.Cond.fieldLink "SnorePlay" (13 : Nat) "SnorePlay" "latestPlace" "I") ∈ am_tb := am_m2 192 rfl rfl
theorem wd_556 : (Jvm.Cond.fieldLink "SnorePlay" (112 : Nat) "SnorePlay" "housesRead" "I") ∈ am_tb := am_m2 193 rfl rfl
theorem wd_557 : (Jvm.Cond.fieldLink "SnorePlay" (213 : Nat) "SnorePlay" "drawn" "I") ∈ am_tb := am_m2 194 rfl rfl
theorem wd_558 : (Jvm.Cond.fieldLink "SnorePlay" (20 : Nat) "SnorePlay" "reader" "LSnorePlay$Reader;") ∈ am_tb := am_m2 195 rfl rfl
theorem wd_559 : (Jvm.Cond.fieldLink "SnorePlay" (27 : Nat) "SnorePlay" "stage" "LSnorePlay$Stage;") ∈ am_tb := am_m2 196 rfl rfl
theorem wd_560 : (Jvm.Cond.fieldLink "SnorePlay" (71 : Nat) "SnorePlay" "graph" "LSnorePlay$Graph;") ∈ am_tb := am_m2 197 rfl rfl
theorem wd_561 : (Jvm.Cond.fieldLink "SnorePlay" (80 : Nat) "SnorePlay" "search" "LSnorePlay$Search;") ∈ am_tb := am_m2 198 rfl rfl
theorem wd_562 : (Jvm.Cond.fieldLink "SnorePlay" (87 : Nat) "SnorePlay" "tally" "LSnorePlay$Tally;") ∈ am_tb := am_m2 199 rfl rfl
theorem wd_563 : (Jvm.Cond.fieldLink "SnorePlay" (94 : Nat) "SnorePlay" "placer" "LSnorePlay$Placer;") ∈ am_tb := am_m2 200 rfl rfl
theorem wd_564 : (Jvm.Cond.fieldLink "SnorePlay" (59 : Nat) "SnorePlay" "play" "LSnorePlay$Play;") ∈ am_tb := am_m2 201 rfl rfl
theorem wd_565 : (Jvm.Cond.fieldLink "SnorePlay" (63 : Nat) "SnorePlay" "trial" "LSnorePlay$Play;") ∈ am_tb := am_m2 202 rfl rfl
theorem wd_566 : (Jvm.Cond.fieldLink "SnorePlay" (101 : Nat) "SnorePlay" "past" "LSnorePlay$Past;") ∈ am_tb := am_m2 203 rfl rfl
theorem wd_567 : (Jvm.Cond.fieldLink "SnorePlay" (33 : Nat) "SnorePlay" "trays" "[LSnorePlay$Tray;") ∈ am_tb := am_m2 204 rfl rfl
theorem wd_568 : (Jvm.Cond.fieldLink "SnorePlay" (39 : Nat) "SnorePlay" "images" "[LSnorePlay$Play;") ∈ am_tb := am_m2 205 rfl rfl
theorem wd_569 : (Jvm.Cond.fieldLink "SnorePlay" (43 : Nat) "SnorePlay" "imageMade" "[Z") ∈ am_tb := am_m2 206 rfl rfl
theorem wd_570 : (Jvm.Cond.fieldLink "SnorePlay" (47 : Nat) "SnorePlay" "groupSizes" "[I") ∈ am_tb := am_m2 207 rfl rfl
theorem wd_610 : (Jvm.Cond.methodLink "SnorePlayLaw" (13 : Nat) ({ cls := "SnorePlay", name := "feed", desc := "(IIIII)I" } : Jvm.MethodName)) ∈ am_tb := am_m3 7 rfl rfl
theorem wd_611 : (Jvm.Cond.instanceMethod ({ cls := "SnorePlay", name := "feed", desc := "(IIIII)I" } : Jvm.MethodName)) ∈ am_tb := am_m3 8 rfl rfl
theorem wd_612 : (Jvm.Cond.selects "SnorePlay" ({ cls := "SnorePlay", name := "feed", desc := "(IIIII)I" } : Jvm.MethodName) ({ cls := "SnorePlay", name := "feed", desc := "(IIIII)I" } : Jvm.MethodName)) ∈ am_tb := am_m3 9 rfl rfl
theorem wd_613 : (Jvm.Cond.code ({ cls := "SnorePlay", name := "feed", desc := "(IIIII)I" } : Jvm.MethodName) prog_1_method_2_code (6 : Nat) (Option.some Jvm.ClassFile.FieldType.int)) ∈ am_tb := am_m3 10 rfl rfl
theorem wd_614 : (Jvm.Cond.methodLink "SnorePlay" (109 : Nat) ({ cls := "SnorePlay", name := "putOnTape", desc := "(I)V" } : Jvm.MethodName)) ∈ am_tb := am_m3 11 rfl rfl
theorem wd_616 : (Jvm.Cond.instanceMethod ({ cls := "SnorePlay", name := "putOnTape", desc := "(I)V" } : Jvm.MethodName)) ∈ am_tb := am_m3 13 rfl rfl
theorem wd_617 : (Jvm.Cond.code ({ cls := "SnorePlay", name := "putOnTape", desc := "(I)V" } : Jvm.MethodName) prog_1_method_3_code (3 : Nat) (Option.none : Option Jvm.ClassFile.FieldType)) ∈ am_tb := am_m3 14 rfl rfl
theorem wd_618 : (Jvm.Cond.methodLink "SnorePlayLaw" (18 : Nat) ({ cls := "SnorePlay", name := "house", desc := "(I)I" } : Jvm.MethodName)) ∈ am_tb := am_m3 15 rfl rfl
theorem wd_619 : (Jvm.Cond.instanceMethod ({ cls := "SnorePlay", name := "house", desc := "(I)I" } : Jvm.MethodName)) ∈ am_tb := am_m3 16 rfl rfl
theorem wd_620 : (Jvm.Cond.selects "SnorePlay" ({ cls := "SnorePlay", name := "house", desc := "(I)I" } : Jvm.MethodName) ({ cls := "SnorePlay", name := "house", desc := "(I)I" } : Jvm.MethodName)) ∈ am_tb := am_m3 17 rfl rfl
theorem wd_621 : (Jvm.Cond.code ({ cls := "SnorePlay", name := "house", desc := "(I)I" } : Jvm.MethodName) prog_1_method_4_code (3 : Nat) (Option.some Jvm.ClassFile.FieldType.int)) ∈ am_tb := am_m3 18 rfl rfl
theorem wd_622 : (Jvm.Cond.methodLink "SnorePlay" (115 : Nat) ({ cls := "SnorePlay$Reader", name := "readText", desc := "([BII)LSnorePlay$House;" } : Jvm.MethodName)) ∈ am_tb := am_m3 19 rfl rfl
theorem wd_623 : (Jvm.Cond.instanceMethod ({ cls := "SnorePlay$Reader", name := "readText", desc := "([BII)LSnorePlay$House;" } : Jvm.MethodName)) ∈ am_tb := am_m3 20 rfl rfl
theorem wd_624 : (Jvm.Cond.selects "SnorePlay$Reader" ({ cls := "SnorePlay$Reader", name := "readText", desc := "([BII)LSnorePlay$House;" } : Jvm.MethodName) ({ cls := "SnorePlay$Reader", name := "readText", desc := "([BII)LSnorePlay$House;" } : Jvm.MethodName)) ∈ am_tb := am_m3 21 rfl rfl
theorem wd_625 : (Jvm.Cond.code ({ cls := "SnorePlay$Reader", name := "readText", desc := "([BII)LSnorePlay$House;" } : Jvm.MethodName) prog_7_method_4_code (5 : Nat) (Option.some (Jvm.ClassFile.FieldType.object "SnorePlay$House"))) ∈ am_tb := am_m3 22 rfl rfl
theorem wd_626 : (Jvm.Cond.methodLink "SnorePlay$Reader" (38 : Nat) ({ cls := "SnorePlay$Tokens", name := "begin", desc := "([BI)V" } : Jvm.MethodName)) ∈ am_tb := am_m3 23 rfl rfl
theorem wd_627 : (Jvm.Cond.instanceMethod ({ cls := "SnorePlay$Tokens", name := "begin", desc := "([BI)V" } : Jvm.MethodName)) ∈ am_tb := am_m3 24 rfl rfl
theorem wd_628 : (Jvm.Cond.selects "SnorePlay$Tokens" ({ cls := "SnorePlay$Tokens", name := "begin", desc := "([BI)V" } : Jvm.MethodName) ({ cls := "SnorePlay$Tokens", name := "begin", desc := "([BI)V" } : Jvm.MethodName)) ∈ am_tb := am_m3 25 rfl rfl
theorem wd_629 : (Jvm.Cond.code ({ cls := "SnorePlay$Tokens", name := "begin", desc := "([BI)V" } : Jvm.MethodName) prog_11_method_2_code (3 : Nat) (Option.none : Option Jvm.ClassFile.FieldType)) ∈ am_tb := am_m3 26 rfl rfl
theorem wd_630 : (Jvm.Cond.methodLink "SnorePlay$Tokens" (28 : Nat) ({ cls := "SnorePlay$Tokens", name := "advance", desc := "()V" } : Jvm.MethodName)) ∈ am_tb := am_m3 27 rfl rfl
theorem wd_631 : (Jvm.Cond.instanceMethod ({ cls := "SnorePlay$Tokens", name := "advance", desc := "()V" } : Jvm.MethodName)) ∈ am_tb := am_m3 28 rfl rfl
theorem wd_632 : (Jvm.Cond.selects "SnorePlay$Tokens" ({ cls := "SnorePlay$Tokens", name := "advance", desc := "()V" } : Jvm.MethodName) ({ cls := "SnorePlay$Tokens", name := "advance", desc := "()V" } : Jvm.MethodName)) ∈ am_tb := am_m3 29 rfl rfl
theorem wd_633 : (Jvm.Cond.code ({ cls := "SnorePlay$Tokens", name := "advance", desc := "()V" } : Jvm.MethodName) prog_11_method_10_code (2 : Nat) (Option.none : Option Jvm.ClassFile.FieldType)) ∈ am_tb := am_m3 30 rfl rfl
theorem wd_635 : (Jvm.Cond.methodLink "SnorePlay$Tokens" (59 : Nat) ({ cls := "java/lang/String", name := "indexOf", desc := "(I)I" } : Jvm.MethodName)) ∈ am_tb := am_m3 32 rfl rfl
theorem wd_636 : (Jvm.Cond.instanceMethod ({ cls := "java/lang/String", name := "indexOf", desc := "(I)I" } : Jvm.MethodName)) ∈ am_tb := am_m3 33 rfl rfl
theorem wd_637 : (Jvm.Cond.selects "java/lang/String" ({ cls := "java/lang/String", name := "indexOf", desc := "(I)I" } : Jvm.MethodName) ({ cls := "java/lang/String", name := "indexOf", desc := "(I)I" } : Jvm.MethodName)) ∈ am_tb := am_m3 34 rfl rfl
theorem wd_638 : (Jvm.Cond.code ({ cls := "java/lang/String", name := "indexOf", desc := "(I)I" } : Jvm.MethodName) prog_18_method_79_code (2 : Nat) (Option.some Jvm.ClassFile.FieldType.int)) ∈ am_tb := am_m3 35 rfl rfl
theorem wd_639 : (Jvm.Cond.methodLink "java/lang/String" (633 : Nat) ({ cls := "java/lang/String", name := "indexOf", desc := "(II)I" } : Jvm.MethodName)) ∈ am_tb := am_m3 36 rfl rfl
theorem wd_640 : (Jvm.Cond.instanceMethod ({ cls := "java/lang/String", name := "indexOf", desc := "(II)I" } : Jvm.MethodName)) ∈ am_tb := am_m3 37 rfl rfl
theorem wd_641 : (Jvm.Cond.selects "java/lang/String" ({ cls := "java/lang/String", name := "indexOf", desc := "(II)I" } : Jvm.MethodName) ({ cls := "java/lang/String", name := "indexOf", desc := "(II)I" } : Jvm.MethodName)) ∈ am_tb := am_m3 38 rfl rfl
theorem wd_642 : (Jvm.Cond.code ({ cls := "java/lang/String", name := "indexOf", desc := "(II)I" } : Jvm.MethodName) prog_18_method_80_code (3 : Nat) (Option.some Jvm.ClassFile.FieldType.int)) ∈ am_tb := am_m3 39 rfl rfl
theorem wd_643 : (Jvm.Cond.methodLink "java/lang/String" (492 : Nat) ({ cls := "java/lang/String", name := "isLatin1", desc := "()Z" } : Jvm.MethodName)) ∈ am_tb := am_m3 40 rfl rfl
theorem wd_644 : (Jvm.Cond.instanceMethod ({ cls := "java/lang/String", name := "isLatin1", desc := "()Z" } : Jvm.MethodName)) ∈ am_tb := am_m3 41 rfl rfl
theorem wd_645 : (Jvm.Cond.selects "java/lang/String" ({ cls := "java/lang/String", name := "isLatin1", desc := "()Z" } : Jvm.MethodName) ({ cls := "java/lang/String", name := "isLatin1", desc := "()Z" } : Jvm.MethodName)) ∈ am_tb := am_m3 42 rfl rfl
theorem wd_646 : (Jvm.Cond.code ({ cls := "java/lang/String", name := "isLatin1", desc := "()Z" } : Jvm.MethodName) prog_18_method_154_code (1 : Nat) (Option.some Jvm.ClassFile.FieldType.boolean)) ∈ am_tb := am_m3 43 rfl rfl
theorem wd_647 : (Jvm.Cond.fieldLink "java/lang/String" (38 : Nat) "java/lang/String" "COMPACT_STRINGS" "Z") ∈ am_tb := am_m3 44 rfl rfl
theorem wd_649 : (Jvm.Cond.methodLink "java/lang/String" (505 : Nat) ({ cls := "java/lang/String", name := "length", desc := "()I" } : Jvm.MethodName)) ∈ am_tb := am_m3 46 rfl rfl
theorem wd_650 : (Jvm.Cond.instanceMethod ({ cls := "java/lang/String", name := "length", desc := "()I" } : Jvm.MethodName)) ∈ am_tb := am_m3 47 rfl rfl
theorem wd_651 : (Jvm.Cond.selects "java/lang/String" ({ cls := "java/lang/String", name := "length", desc := "()I" } : Jvm.MethodName) ({ cls := "java/lang/String", name := "length", desc := "()I" } : Jvm.MethodName)) ∈ am_tb := am_m3 48 rfl rfl
theorem wd_652 : (Jvm.Cond.code ({ cls := "java/lang/String", name := "length", desc := "()I" } : Jvm.MethodName) prog_18_method_54_code (1 : Nat) (Option.some Jvm.ClassFile.FieldType.int)) ∈ am_tb := am_m3 49 rfl rfl
theorem wd_653 : (Jvm.Cond.methodLink "java/lang/String" (335 : Nat) ({ cls := "java/lang/String", name := "coder", desc := "()B" } : Jvm.MethodName)) ∈ am_tb := am_m3 50 rfl rfl
theorem wd_654 : (Jvm.Cond.instanceMethod ({ cls := "java/lang/String", name := "coder", desc := "()B" } : Jvm.MethodName)) ∈ am_tb := am_m3 51 rfl rfl
theorem wd_655 : (Jvm.Cond.selects "java/lang/String" ({ cls := "java/lang/String", name := "coder", desc := "()B" } : Jvm.MethodName) ({ cls := "java/lang/String", name := "coder", desc := "()B" } : Jvm.MethodName)) ∈ am_tb := am_m3 52 rfl rfl
theorem wd_656 : (Jvm.Cond.code ({ cls := "java/lang/String", name := "coder", desc := "()B" } : Jvm.MethodName) prog_18_method_152_code (1 : Nat) (Option.some Jvm.ClassFile.FieldType.byte)) ∈ am_tb := am_m3 53 rfl rfl
theorem wd_657 : (Jvm.Cond.methodLink "java/lang/String" (637 : Nat) ({ cls := "java/lang/StringLatin1", name := "indexOf", desc := "([BIII)I" } : Jvm.MethodName)) ∈ am_tb := am_m3 54 rfl rfl
theorem wd_658 : (Jvm.Cond.static ({ cls := "java/lang/StringLatin1", name := "indexOf", desc := "([BIII)I" } : Jvm.MethodName)) ∈ am_tb := am_m3 55 rfl rfl
theorem wd_659 : (Jvm.Cond.code ({ cls := "java/lang/StringLatin1", name := "indexOf", desc := "([BIII)I" } : Jvm.MethodName) prog_19_method_22_code (4 : Nat) (Option.some Jvm.ClassFile.FieldType.int)) ∈ am_tb := am_m3 56 rfl rfl
theorem wd_660 : (Jvm.Cond.methodLink "java/lang/StringLatin1" (88 : Nat) ({ cls := "java/lang/StringLatin1", name := "canEncode", desc := "(I)Z" } : Jvm.MethodName)) ∈ am_tb := am_m3 57 rfl rfl
theorem wd_661 : (Jvm.Cond.static ({ cls := "java/lang/StringLatin1", name := "canEncode", desc := "(I)Z" } : Jvm.MethodName)) ∈ am_tb := am_m3 58 rfl rfl
theorem wd_662 : (Jvm.Cond.code ({ cls := "java/lang/StringLatin1", name := "canEncode", desc := "(I)Z" } : Jvm.MethodName) prog_19_method_4_code (1 : Nat) (Option.some Jvm.ClassFile.FieldType.boolean)) ∈ am_tb := am_m3 59 rfl rfl
theorem wd_663 : (Jvm.Cond.methodLink "java/lang/StringLatin1" (92 : Nat) ({ cls := "java/lang/Math", name := "max", desc := "(II)I" } : Jvm.MethodName)) ∈ am_tb := am_m3 60 rfl rfl
theorem wd_664 : (Jvm.Cond.static ({ cls := "java/lang/Math", name := "max", desc := "(II)I" } : Jvm.MethodName)) ∈ am_tb := am_m3 61 rfl rfl
theorem wd_665 : (Jvm.Cond.code ({ cls := "java/lang/Math", name := "max", desc := "(II)I" } : Jvm.MethodName) prog_17_method_65_code (2 : Nat) (Option.some Jvm.ClassFile.FieldType.int)) ∈ am_tb := am_m3 62 rfl rfl
theorem wd_666 : (Jvm.Cond.methodLink "java/lang/StringLatin1" (38 : Nat) ({ cls := "java/lang/Math", name := "min", desc := "(II)I" } : Jvm.MethodName)) ∈ am_tb := am_m3 63 rfl rfl
theorem wd_667 : (Jvm.Cond.static ({ cls := "java/lang/Math", name := "min", desc := "(II)I" } : Jvm.MethodName)) ∈ am_tb := am_m3 64 rfl rfl
theorem wd_668 : (Jvm.Cond.code ({ cls := "java/lang/Math", name := "min", desc := "(II)I" } : Jvm.MethodName) prog_17_method_69_code (2 : Nat) (Option.some Jvm.ClassFile.FieldType.int)) ∈ am_tb := am_m3 65 rfl rfl
theorem wd_669 : (Jvm.Cond.methodLink "java/lang/StringLatin1" (95 : Nat) ({ cls := "java/lang/StringLatin1", name := "indexOfChar", desc := "([BIII)I" } : Jvm.MethodName)) ∈ am_tb := am_m3 66 rfl rfl
theorem wd_670 : (Jvm.Cond.static ({ cls := "java/lang/StringLatin1", name := "indexOfChar", desc := "([BIII)I" } : Jvm.MethodName)) ∈ am_tb := am_m3 67 rfl rfl
theorem wd_671 : (Jvm.Cond.code ({ cls := "java/lang/StringLatin1", name := "indexOfChar", desc := "([BIII)I" } : Jvm.MethodName) prog_19_method_23_code (6 : Nat) (Option.some Jvm.ClassFile.FieldType.int)) ∈ am_tb := am_m3 68 rfl rfl
theorem wd_690 : (Jvm.Cond.fieldLink "java/lang/String" (1053 : Nat) "jdk/internal/util/Preconditions" "SIOOBE_FORMATTER" "Ljava/util/function/BiFunction;") ∈ am_tb := am_m3 87 rfl rfl
theorem wd_692 : (Jvm.Cond.methodLink "java/lang/String" (1062 : Nat) ({ cls := "jdk/internal/util/Preconditions", name := "checkFromToIndex", desc := "(IIILjava/util/function/BiFunction;)I" } : Jvm.MethodName)) ∈ am_tb := am_m3 89 rfl rfl
theorem wd_693 : (Jvm.Cond.static ({ cls := "jdk/internal/util/Preconditions", name := "checkFromToIndex", desc := "(IIILjava/util/function/BiFunction;)I" } : Jvm.MethodName)) ∈ am_tb := am_m3 90 rfl rfl
theorem wd_694 : (Jvm.Cond.code ({ cls := "jdk/internal/util/Preconditions", name := "checkFromToIndex", desc := "(IIILjava/util/function/BiFunction;)I" } : Jvm.MethodName) prog_23_method_12_code (4 : Nat) (Option.some Jvm.ClassFile.FieldType.int)) ∈ am_tb := am_m3 91 rfl rfl
theorem wd_721 : (Jvm.Cond.methodLink "SnorePlay$Reader" (42 : Nat) ({ cls := "SnorePlay$Reader", name := "readHead", desc := "()V" } : Jvm.MethodName)) ∈ am_tb := am_m3 118 rfl rfl
theorem wd_723 : (Jvm.Cond.instanceMethod ({ cls := "SnorePlay$Reader", name := "readHead", desc := "()V" } : Jvm.MethodName)) ∈ am_tb := am_m3 120 rfl rfl
theorem wd_724 : (Jvm.Cond.code ({ cls := "SnorePlay$Reader", name := "readHead", desc := "()V" } : Jvm.MethodName) prog_7_method_5_code (1 : Nat) (Option.none : Option Jvm.ClassFile.FieldType)) ∈ am_tb := am_m3 121 rfl rfl
theorem wd_726 : (Jvm.Cond.methodLink "SnorePlay$Reader" (57 : Nat) ({ cls := "SnorePlay$Tokens", name := "want", desc := "(Ljava/lang/String;)V" } : Jvm.MethodName)) ∈ am_tb := am_m3 123 rfl rfl
theorem wd_727 : (Jvm.Cond.instanceMethod ({ cls := "SnorePlay$Tokens", name := "want", desc := "(Ljava/lang/String;)V" } : Jvm.MethodName)) ∈ am_tb := am_m3 124 rfl rfl
theorem wd_728 : (Jvm.Cond.selects "SnorePlay$Tokens" ({ cls := "SnorePlay$Tokens", name := "want", desc := "(Ljava/lang/String;)V" } : Jvm.MethodName) ({ cls := "SnorePlay$Tokens", name := "want", desc := "(Ljava/lang/String;)V" } : Jvm.MethodName)) ∈ am_tb := am_m3 125 rfl rfl
theorem wd_729 : (Jvm.Cond.code ({ cls := "SnorePlay$Tokens", name := "want", desc := "(Ljava/lang/String;)V" } : Jvm.MethodName) prog_11_method_8_code (2 : Nat) (Option.none : Option Jvm.ClassFile.FieldType)) ∈ am_tb := am_m3 126 rfl rfl
theorem wd_730 : (Jvm.Cond.methodLink "SnorePlay$Tokens" (46 : Nat) ({ cls := "SnorePlay$Tokens", name := "is", desc := "(Ljava/lang/String;)Z" } : Jvm.MethodName)) ∈ am_tb := am_m3 127 rfl rfl
theorem wd_731 : (Jvm.Cond.instanceMethod ({ cls := "SnorePlay$Tokens", name := "is", desc := "(Ljava/lang/String;)Z" } : Jvm.MethodName)) ∈ am_tb := am_m3 128 rfl rfl
theorem wd_732 : (Jvm.Cond.selects "SnorePlay$Tokens" ({ cls := "SnorePlay$Tokens", name := "is", desc := "(Ljava/lang/String;)Z" } : Jvm.MethodName) ({ cls := "SnorePlay$Tokens", name := "is", desc := "(Ljava/lang/String;)Z" } : Jvm.MethodName)) ∈ am_tb := am_m3 129 rfl rfl
theorem wd_733 : (Jvm.Cond.code ({ cls := "SnorePlay$Tokens", name := "is", desc := "(Ljava/lang/String;)Z" } : Jvm.MethodName) prog_11_method_6_code (3 : Nat) (Option.some Jvm.ClassFile.FieldType.boolean)) ∈ am_tb := am_m3 130 rfl rfl
theorem wd_734 : (Jvm.Cond.methodLink "SnorePlay$Tokens" (37 : Nat) ({ cls := "java/lang/String", name := "length", desc := "()I" } : Jvm.MethodName)) ∈ am_tb := am_m3 131 rfl rfl
theorem wd_735 : (Jvm.Cond.methodLink "SnorePlay$Tokens" (42 : Nat) ({ cls := "java/lang/String", name := "charAt", desc := "(I)C" } : Jvm.MethodName)) ∈ am_tb := am_m3 132 rfl rfl
theorem wd_736 : (Jvm.Cond.instanceMethod ({ cls := "java/lang/String", name := "charAt", desc := "(I)C" } : Jvm.MethodName)) ∈ am_tb := am_m3 133 rfl rfl
theorem wd_737 : (Jvm.Cond.selects "java/lang/String" ({ cls := "java/lang/String", name := "charAt", desc := "(I)C" } : Jvm.MethodName) ({ cls := "java/lang/String", name := "charAt", desc := "(I)C" } : Jvm.MethodName)) ∈ am_tb := am_m3 134 rfl rfl
theorem wd_738 : (Jvm.Cond.code ({ cls := "java/lang/String", name := "charAt", desc := "(I)C" } : Jvm.MethodName) prog_18_method_56_code (2 : Nat) (Option.some Jvm.ClassFile.FieldType.char)) ∈ am_tb := am_m3 135 rfl rfl
theorem wd_739 : (Jvm.Cond.methodLink "java/lang/String" (495 : Nat) ({ cls := "java/lang/StringLatin1", name := "charAt", desc := "([BI)C" } : Jvm.MethodName)) ∈ am_tb := am_m3 136 rfl rfl
theorem wd_740 : (Jvm.Cond.static ({ cls := "java/lang/StringLatin1", name := "charAt", desc := "([BI)C" } : Jvm.MethodName)) ∈ am_tb := am_m3 137 rfl rfl
theorem wd_741 : (Jvm.Cond.code ({ cls := "java/lang/StringLatin1", name := "charAt", desc := "([BI)C" } : Jvm.MethodName) prog_19_method_2_code (2 : Nat) (Option.some Jvm.ClassFile.FieldType.char)) ∈ am_tb := am_m3 138 rfl rfl
theorem wd_742 : (Jvm.Cond.methodLink "java/lang/StringLatin1" (9 : Nat) ({ cls := "java/lang/String", name := "checkIndex", desc := "(II)V" } : Jvm.MethodName)) ∈ am_tb := am_m3 139 rfl rfl
theorem wd_743 : (Jvm.Cond.static ({ cls := "java/lang/String", name := "checkIndex", desc := "(II)V" } : Jvm.MethodName)) ∈ am_tb := am_m3 140 rfl rfl
theorem wd_744 : (Jvm.Cond.code ({ cls := "java/lang/String", name := "checkIndex", desc := "(II)V" } : Jvm.MethodName) prog_18_method_155_code (2 : Nat) (Option.none : Option Jvm.ClassFile.FieldType)) ∈ am_tb := am_m3 141 rfl rfl
theorem wd_745 : (Jvm.Cond.methodLink "java/lang/String" (1059 : Nat) ({ cls := "jdk/internal/util/Preconditions", name := "checkIndex", desc := "(IILjava/util/function/BiFunction;)I" } : Jvm.MethodName)) ∈ am_tb := am_m3 142 rfl rfl
theorem wd_746 : (Jvm.Cond.static ({ cls := "jdk/internal/util/Preconditions", name := "checkIndex", desc := "(IILjava/util/function/BiFunction;)I" } : Jvm.MethodName)) ∈ am_tb := am_m3 143 rfl rfl
theorem wd_747 : (Jvm.Cond.code ({ cls := "jdk/internal/util/Preconditions", name := "checkIndex", desc := "(IILjava/util/function/BiFunction;)I" } : Jvm.MethodName) prog_23_method_11_code (3 : Nat) (Option.some Jvm.ClassFile.FieldType.int)) ∈ am_tb := am_m3 144 rfl rfl
theorem wd_755 : (Jvm.Cond.methodLink "SnorePlay$Tokens" (50 : Nat) ({ cls := "SnorePlay$Tokens", name := "refuse", desc := "(I)V" } : Jvm.MethodName)) ∈ am_tb := am_m3 152 rfl rfl
theorem wd_756 : (Jvm.Cond.instanceMethod ({ cls := "SnorePlay$Tokens", name := "refuse", desc := "(I)V" } : Jvm.MethodName)) ∈ am_tb := am_m3 153 rfl rfl
theorem wd_757 : (Jvm.Cond.selects "SnorePlay$Tokens" ({ cls := "SnorePlay$Tokens", name := "refuse", desc := "(I)V" } : Jvm.MethodName) ({ cls := "SnorePlay$Tokens", name := "refuse", desc := "(I)V" } : Jvm.MethodName)) ∈ am_tb := am_m3 154 rfl rfl
theorem wd_758 : (Jvm.Cond.code ({ cls := "SnorePlay$Tokens", name := "refuse", desc := "(I)V" } : Jvm.MethodName) prog_11_method_7_code (2 : Nat) (Option.none : Option Jvm.ClassFile.FieldType)) ∈ am_tb := am_m3 155 rfl rfl
theorem wd_760 : (Jvm.Cond.methodLink "SnorePlay$Reader" (63 : Nat) ({ cls := "SnorePlay$Tokens", name := "wantNumber", desc := "(II)I" } : Jvm.MethodName)) ∈ am_tb := am_m3 157 rfl rfl
theorem wd_761 : (Jvm.Cond.instanceMethod ({ cls := "SnorePlay$Tokens", name := "wantNumber", desc := "(II)I" } : Jvm.MethodName)) ∈ am_tb := am_m3 158 rfl rfl
theorem wd_762 : (Jvm.Cond.selects "SnorePlay$Tokens" ({ cls := "SnorePlay$Tokens", name := "wantNumber", desc := "(II)I" } : Jvm.MethodName) ({ cls := "SnorePlay$Tokens", name := "wantNumber", desc := "(II)I" } : Jvm.MethodName)) ∈ am_tb := am_m3 159 rfl rfl
theorem wd_763 : (Jvm.Cond.code ({ cls := "SnorePlay$Tokens", name := "wantNumber", desc := "(II)I" } : Jvm.MethodName) prog_11_method_9_code (4 : Nat) (Option.some Jvm.ClassFile.FieldType.int)) ∈ am_tb := am_m3 160 rfl rfl
theorem wd_767 : (Jvm.Cond.methodLink "SnorePlay$Reader" (45 : Nat) ({ cls := "SnorePlay$Tokens", name := "isFaultless", desc := "()Z" } : Jvm.MethodName)) ∈ am_tb := am_m3 164 rfl rfl
theorem wd_768 : (Jvm.Cond.instanceMethod ({ cls := "SnorePlay$Tokens", name := "isFaultless", desc := "()Z" } : Jvm.MethodName)) ∈ am_tb := am_m3 165 rfl rfl
theorem wd_769 : (Jvm.Cond.selects "SnorePlay$Tokens" ({ cls := "SnorePlay$Tokens", name := "isFaultless", desc := "()Z" } : Jvm.MethodName) ({ cls := "SnorePlay$Tokens", name := "isFaultless", desc := "()Z" } : Jvm.MethodName)) ∈ am_tb := am_m3 166 rfl rfl
theorem wd_770 : (Jvm.Cond.code ({ cls := "SnorePlay$Tokens", name := "isFaultless", desc := "()Z" } : Jvm.MethodName) prog_11_method_3_code (1 : Nat) (Option.some Jvm.ClassFile.FieldType.boolean)) ∈ am_tb := am_m3 167 rfl rfl
theorem wd_771 : (Jvm.Cond.methodLink "SnorePlay$Reader" (49 : Nat) ({ cls := "SnorePlay$Tokens", name := "atEnd", desc := "()Z" } : Jvm.MethodName)) ∈ am_tb := am_m3 168 rfl rfl
theorem wd_772 : (Jvm.Cond.instanceMethod ({ cls := "SnorePlay$Tokens", name := "atEnd", desc := "()Z" } : Jvm.MethodName)) ∈ am_tb := am_m3 169 rfl rfl
theorem wd_773 : (Jvm.Cond.selects "SnorePlay$Tokens" ({ cls := "SnorePlay$Tokens", name := "atEnd", desc := "()Z" } : Jvm.MethodName) ({ cls := "SnorePlay$Tokens", name := "atEnd", desc := "()Z" } : Jvm.MethodName)) ∈ am_tb := am_m3 170 rfl rfl
theorem wd_774 : (Jvm.Cond.code ({ cls := "SnorePlay$Tokens", name := "atEnd", desc := "()Z" } : Jvm.MethodName) prog_11_method_4_code (1 : Nat) (Option.some Jvm.ClassFile.FieldType.boolean)) ∈ am_tb := am_m3 171 rfl rfl
theorem wd_775 : (Jvm.Cond.methodLink "SnorePlay$Reader" (52 : Nat) ({ cls := "SnorePlay$Reader", name := "readLine", desc := "()V" } : Jvm.MethodName)) ∈ am_tb := am_m3 172 rfl rfl
theorem wd_777 : (Jvm.Cond.instanceMethod ({ cls := "SnorePlay$Reader", name := "readLine", desc := "()V" } : Jvm.MethodName)) ∈ am_tb := am_m3 174 rfl rfl
theorem wd_778 : (Jvm.Cond.code ({ cls := "SnorePlay$Reader", name := "readLine", desc := "()V" } : Jvm.MethodName) prog_7_method_6_code (1 : Nat) (Option.none : Option Jvm.ClassFile.FieldType)) ∈ am_tb := am_m3 175 rfl rfl
theorem wd_780 : (Jvm.Cond.methodLink "SnorePlay$Reader" (84 : Nat) ({ cls := "SnorePlay$Tokens", name := "is", desc := "(Ljava/lang/String;)Z" } : Jvm.MethodName)) ∈ am_tb := am_m3 177 rfl rfl
theorem wd_781 : (Jvm.Cond.methodLink "SnorePlay$Reader" (88 : Nat) ({ cls := "SnorePlay$Reader", name := "readSleeper", desc := "()V" } : Jvm.MethodName)) ∈ am_tb := am_m3 178 rfl rfl
theorem wd_783 : (Jvm.Cond.instanceMethod ({ cls := "SnorePlay$Reader", name := "readSleeper", desc := "()V" } : Jvm.MethodName)) ∈ am_tb := am_m3 180 rfl rfl
theorem wd_784 : (Jvm.Cond.code ({ cls := "SnorePlay$Reader", name := "readSleeper", desc := "()V" } : Jvm.MethodName) prog_7_method_7_code (3 : Nat) (Option.none : Option Jvm.ClassFile.FieldType)) ∈ am_tb := am_m3 181 rfl rfl
theorem wd_785 : (Jvm.Cond.methodLink "SnorePlay$Reader" (128 : Nat) ({ cls := "SnorePlay$Tokens", name := "refuse", desc := "(I)V" } : Jvm.MethodName)) ∈ am_tb := am_m3 182 rfl rfl
theorem wd_786 : (Jvm.Cond.methodLink "SnorePlay$Reader" (93 : Nat) ({ cls := "SnorePlay$Tokens", name := "advance", desc := "()V" } : Jvm.MethodName)) ∈ am_tb := am_m3 183 rfl rfl
theorem wd_788 : (Jvm.Cond.methodLink "SnorePlay$Reader" (133 : Nat) ({ cls := "SnorePlay$Tokens", name := "isNumber", desc := "()Z" } : Jvm.MethodName)) ∈ am_tb := am_m3 185 rfl rfl
theorem wd_789 : (Jvm.Cond.instanceMethod ({ cls := "SnorePlay$Tokens", name := "isNumber", desc := "()Z" } : Jvm.MethodName)) ∈ am_tb := am_m3 186 rfl rfl
theorem wd_790 : (Jvm.Cond.selects "SnorePlay$Tokens" ({ cls := "SnorePlay$Tokens", name := "isNumber", desc := "()Z" } : Jvm.MethodName) ({ cls := "SnorePlay$Tokens", name := "isNumber", desc := "()Z" } : Jvm.MethodName)) ∈ am_tb := am_m3 187 rfl rfl
theorem wd_791 : (Jvm.Cond.code ({ cls := "SnorePlay$Tokens", name := "isNumber", desc := "()Z" } : Jvm.MethodName) prog_11_method_5_code (1 : Nat) (Option.some Jvm.ClassFile.FieldType.boolean)) ∈ am_tb := am_m3 188 rfl rfl
theorem wd_792 : (Jvm.Cond.methodLink "SnorePlay$Reader" (139 : Nat) ({ cls := "SnorePlay$House", name := "hasTold", desc := "(I)Z" } : Jvm.MethodName)) ∈ am_tb := am_m3 189 rfl rfl
theorem wd_793 : (Jvm.Cond.instanceMethod ({ cls := "SnorePlay$House", name := "hasTold", desc := "(I)Z" } : Jvm.MethodName)) ∈ am_tb := am_m3 190 rfl rfl
theorem wd_794 : (Jvm.Cond.selects "SnorePlay$House" ({ cls := "SnorePlay$House", name := "hasTold", desc := "(I)Z" } : Jvm.MethodName) ({ cls := "SnorePlay$House", name := "hasTold", desc := "(I)Z" } : Jvm.MethodName)) ∈ am_tb := am_m3 191 rfl rfl
theorem wd_795 : (Jvm.Cond.code ({ cls := "SnorePlay$House", name := "hasTold", desc := "(I)Z" } : Jvm.MethodName) prog_3_method_2_code (3 : Nat) (Option.some Jvm.ClassFile.FieldType.boolean)) ∈ am_tb := am_m3 192 rfl rfl
theorem wd_802 : (Jvm.Cond.methodLink "SnorePlay$Reader" (118 : Nat) ({ cls := "SnorePlay$Reader", name := "readLaw", desc := "()[I" } : Jvm.MethodName)) ∈ am_tb := am_m3 199 rfl rfl
theorem wd_804 : (Jvm.Cond.instanceMethod ({ cls := "SnorePlay$Reader", name := "readLaw", desc := "()[I" } : Jvm.MethodName)) ∈ am_tb := am_m3 201 rfl rfl
theorem wd_805 : (Jvm.Cond.code ({ cls := "SnorePlay$Reader", name := "readLaw", desc := "()[I" } : Jvm.MethodName) prog_7_method_8_code (1 : Nat) (Option.some (Jvm.ClassFile.FieldType.array Jvm.ClassFile.FieldType.int))) ∈ am_tb := am_m3 202 rfl rfl
theorem wd_807 : (Jvm.Cond.methodLink "SnorePlay$Reader" (156 : Nat) ({ cls := "SnorePlay$Reader", name := "readSum", desc := "(I)V" } : Jvm.MethodName)) ∈ am_tb := am_m3 204 rfl rfl
theorem wd_809 : (Jvm.Cond.instanceMethod ({ cls := "SnorePlay$Reader", name := "readSum", desc := "(I)V" } : Jvm.MethodName)) ∈ am_tb := am_m3 206 rfl rfl
theorem wd_810 : (Jvm.Cond.code ({ cls := "SnorePlay$Reader", name := "readSum", desc := "(I)V" } : Jvm.MethodName) prog_7_method_9_code (6 : Nat) (Option.none : Option Jvm.ClassFile.FieldType)) ∈ am_tb := am_m3 207 rfl rfl
theorem wd_811 : (Jvm.Cond.methodLink "SnorePlay$Reader" (165 : Nat) ({ cls := "SnorePlay$Reader", name := "readAtom", desc := "(I)V" } : Jvm.MethodName)) ∈ am_tb := am_m3 208 rfl rfl
theorem wd_813 : (Jvm.Cond.instanceMethod ({ cls := "SnorePlay$Reader", name := "readAtom", desc := "(I)V" } : Jvm.MethodName)) ∈ am_tb := am_m3 210 rfl rfl
theorem wd_814 : (Jvm.Cond.code ({ cls := "SnorePlay$Reader", name := "readAtom", desc := "(I)V" } : Jvm.MethodName) prog_7_method_10_code (3 : Nat) (Option.none : Option Jvm.ClassFile.FieldType)) ∈ am_tb := am_m3 211 rfl rfl
theorem wd_815 : (Jvm.Cond.methodLink "SnorePlay$Reader" (177 : Nat) ({ cls := "SnorePlay$Reader", name := "valueNamed", desc := "()I" } : Jvm.MethodName)) ∈ am_tb := am_m3 212 rfl rfl
theorem wd_817 : (Jvm.Cond.instanceMethod ({ cls := "SnorePlay$Reader", name := "valueNamed", desc := "()I" } : Jvm.MethodName)) ∈ am_tb := am_m3 214 rfl rfl
theorem wd_818 : (Jvm.Cond.code ({ cls := "SnorePlay$Reader", name := "valueNamed", desc := "()I" } : Jvm.MethodName) prog_7_method_11_code (1 : Nat) (Option.some Jvm.ClassFile.FieldType.int)) ∈ am_tb := am_m3 215 rfl rfl
theorem wd_823 : (Jvm.Cond.methodLink "SnorePlay$Reader" (170 : Nat) ({ cls := "SnorePlay$Reader", name := "append", desc := "(I)V" } : Jvm.MethodName)) ∈ am_tb := am_m3 220 rfl rfl
theorem wd_825 : (Jvm.Cond.instanceMethod ({ cls := "SnorePlay$Reader", name := "append", desc := "(I)V" } : Jvm.MethodName)) ∈ am_tb := am_m3 222 rfl rfl
theorem wd_826 : (Jvm.Cond.code ({ cls := "SnorePlay$Reader", name := "append", desc := "(I)V" } : Jvm.MethodName) prog_7_method_18_code (2 : Nat) (Option.none : Option Jvm.ClassFile.FieldType)) ∈ am_tb := am_m3 223 rfl rfl
theorem wd_828 : (Jvm.Cond.methodLink "SnorePlay$Reader" (183 : Nat) ({ cls := "SnorePlay$Reader", name := "goWithin", desc := "(I)Z" } : Jvm.MethodName)) ∈ am_tb := am_m3 225 rfl rfl
theorem wd_830 : (Jvm.Cond.instanceMethod ({ cls := "SnorePlay$Reader", name := "goWithin", desc := "(I)Z" } : Jvm.MethodName)) ∈ am_tb := am_m3 227 rfl rfl
theorem wd_831 : (Jvm.Cond.code ({ cls := "SnorePlay$Reader", name := "goWithin", desc := "(I)Z" } : Jvm.MethodName) prog_7_method_12_code (2 : Nat) (Option.some Jvm.ClassFile.FieldType.boolean)) ∈ am_tb := am_m3 228 rfl rfl
theorem wd_834 : (Jvm.Cond.methodLink "SnorePlay$Reader" (190 : Nat) ({ cls := "SnorePlay$Reader", name := "readChoice", desc := "(I)V" } : Jvm.MethodName)) ∈ am_tb := am_m3 231 rfl rfl
theorem wd_836 : (Jvm.Cond.instanceMethod ({ cls := "SnorePlay$Reader", name := "readChoice", desc := "(I)V" } : Jvm.MethodName)) ∈ am_tb := am_m3 233 rfl rfl
theorem wd_837 : (Jvm.Cond.code ({ cls := "SnorePlay$Reader", name := "readChoice", desc := "(I)V" } : Jvm.MethodName) prog_7_method_13_code (4 : Nat) (Option.none : Option Jvm.ClassFile.FieldType)) ∈ am_tb := am_m3 234 rfl rfl
theorem wd_838 : (Jvm.Cond.methodLink "SnorePlay$Reader" (201 : Nat) ({ cls := "SnorePlay$Reader", name := "readTruth", desc := "(I)V" } : Jvm.MethodName)) ∈ am_tb := am_m3 235 rfl rfl
theorem wd_840 : (Jvm.Cond.instanceMethod ({ cls := "SnorePlay$Reader", name := "readTruth", desc := "(I)V" } : Jvm.MethodName)) ∈ am_tb := am_m3 237 rfl rfl
theorem wd_841 : (Jvm.Cond.code ({ cls := "SnorePlay$Reader", name := "readTruth", desc := "(I)V" } : Jvm.MethodName) prog_7_method_14_code (3 : Nat) (Option.none : Option Jvm.ClassFile.FieldType)) ∈ am_tb := am_m3 238 rfl rfl
theorem wd_842 : (Jvm.Cond.methodLink "SnorePlay$Reader" (213 : Nat) ({ cls := "SnorePlay$Reader", name := "readBoth", desc := "(I)V" } : Jvm.MethodName)) ∈ am_tb := am_m3 239 rfl rfl
theorem wd_844 : (Jvm.Cond.instanceMethod ({ cls := "SnorePlay$Reader", name := "readBoth", desc := "(I)V" } : Jvm.MethodName)) ∈ am_tb := am_m4 1 rfl rfl
theorem wd_845 : (Jvm.Cond.code ({ cls := "SnorePlay$Reader", name := "readBoth", desc := "(I)V" } : Jvm.MethodName) prog_7_method_15_code (3 : Nat) (Option.none : Option Jvm.ClassFile.FieldType)) ∈ am_tb := am_m4 2 rfl rfl
theorem wd_846 : (Jvm.Cond.methodLink "SnorePlay$Reader" (218 : Nat) ({ cls := "SnorePlay$Reader", name := "readUnit", desc := "(I)V" } : Jvm.MethodName)) ∈ am_tb := am_m4 3 rfl rfl
theorem wd_848 : (Jvm.Cond.instanceMethod ({ cls := "SnorePlay$Reader", name := "readUnit", desc := "(I)V" } : Jvm.MethodName)) ∈ am_tb := am_m4 5 rfl rfl
theorem wd_849 : (Jvm.Cond.code ({ cls := "SnorePlay$Reader", name := "readUnit", desc := "(I)V" } : Jvm.MethodName) prog_7_method_16_code (2 : Nat) (Option.none : Option Jvm.ClassFile.FieldType)) ∈ am_tb := am_m4 6 rfl rfl
theorem wd_853 : (Jvm.Cond.methodLink "SnorePlay$Reader" (229 : Nat) ({ cls := "SnorePlay$Reader", name := "readComparison", desc := "(I)V" } : Jvm.MethodName)) ∈ am_tb := am_m4 10 rfl rfl
theorem wd_855 : (Jvm.Cond.instanceMethod ({ cls := "SnorePlay$Reader", name := "readComparison", desc := "(I)V" } : Jvm.MethodName)) ∈ am_tb := am_m4 12 rfl rfl
theorem wd_856 : (Jvm.Cond.code ({ cls := "SnorePlay$Reader", name := "readComparison", desc := "(I)V" } : Jvm.MethodName) prog_7_method_17_code (3 : Nat) (Option.none : Option Jvm.ClassFile.FieldType)) ∈ am_tb := am_m4 13 rfl rfl
theorem wd_864 : (Jvm.Cond.methodLink "SnorePlay$Reader" (208 : Nat) ({ cls := "SnorePlay$Reader", name := "aim", desc := "(I)V" } : Jvm.MethodName)) ∈ am_tb := am_m4 21 rfl rfl
theorem wd_866 : (Jvm.Cond.instanceMethod ({ cls := "SnorePlay$Reader", name := "aim", desc := "(I)V" } : Jvm.MethodName)) ∈ am_tb := am_m4 23 rfl rfl
theorem wd_867 : (Jvm.Cond.code ({ cls := "SnorePlay$Reader", name := "aim", desc := "(I)V" } : Jvm.MethodName) prog_7_method_19_code (2 : Nat) (Option.none : Option Jvm.ClassFile.FieldType)) ∈ am_tb := am_m4 24 rfl rfl
theorem wd_872 : (Jvm.Cond.methodLink "SnorePlay$Reader" (159 : Nat) ({ cls := "java/util/Arrays", name := "copyOf", desc := "([II)[I" } : Jvm.MethodName)) ∈ am_tb := am_m4 29 rfl rfl
theorem wd_873 : (Jvm.Cond.static ({ cls := "java/util/Arrays", name := "copyOf", desc := "([II)[I" } : Jvm.MethodName)) ∈ am_tb := am_m4 30 rfl rfl
theorem wd_874 : (Jvm.Cond.code ({ cls := "java/util/Arrays", name := "copyOf", desc := "([II)[I" } : Jvm.MethodName) prog_22_method_123_code (3 : Nat) (Option.some (Jvm.ClassFile.FieldType.array Jvm.ClassFile.FieldType.int))) ∈ am_tb := am_m4 31 rfl rfl
theorem wd_882 : (Jvm.Cond.methodLink "java/util/Arrays" (304 : Nat) ({ cls := "java/lang/Math", name := "min", desc := "(II)I" } : Jvm.MethodName)) ∈ am_tb := am_m4 39 rfl rfl
theorem wd_883 : (Jvm.Cond.methodLink "java/util/Arrays" (150 : Nat) ({ cls := "java/lang/System", name := "arraycopy", desc := "(Ljava/lang/Object;ILjava/lang/Object;II)V" } : Jvm.MethodName)) ∈ am_tb := am_m4 40 rfl rfl
theorem wd_885 : (Jvm.Cond.methodLink "SnorePlay" (119 : Nat) ({ cls := "SnorePlay$Reader", name := "faultKind", desc := "()I" } : Jvm.MethodName)) ∈ am_tb := am_m4 42 rfl rfl
theorem wd_886 : (Jvm.Cond.instanceMethod ({ cls := "SnorePlay$Reader", name := "faultKind", desc := "()I" } : Jvm.MethodName)) ∈ am_tb := am_m4 43 rfl rfl
theorem wd_887 : (Jvm.Cond.selects "SnorePlay$Reader" ({ cls := "SnorePlay$Reader", name := "faultKind", desc := "()I" } : Jvm.MethodName) ({ cls := "SnorePlay$Reader", name := "faultKind", desc := "()I" } : Jvm.MethodName)) ∈ am_tb := am_m4 44 rfl rfl
theorem wd_888 : (Jvm.Cond.code ({ cls := "SnorePlay$Reader", name := "faultKind", desc := "()I" } : Jvm.MethodName) prog_7_method_2_code (1 : Nat) (Option.some Jvm.ClassFile.FieldType.int)) ∈ am_tb := am_m4 45 rfl rfl
theorem wd_889 : (Jvm.Cond.methodLink "SnorePlay" (126 : Nat) ({ cls := "SnorePlay$Reader", name := "faultPlace", desc := "()I" } : Jvm.MethodName)) ∈ am_tb := am_m4 46 rfl rfl
theorem wd_890 : (Jvm.Cond.instanceMethod ({ cls := "SnorePlay$Reader", name := "faultPlace", desc := "()I" } : Jvm.MethodName)) ∈ am_tb := am_m4 47 rfl rfl
theorem wd_891 : (Jvm.Cond.selects "SnorePlay$Reader" ({ cls := "SnorePlay$Reader", name := "faultPlace", desc := "()I" } : Jvm.MethodName) ({ cls := "SnorePlay$Reader", name := "faultPlace", desc := "()I" } : Jvm.MethodName)) ∈ am_tb := am_m4 48 rfl rfl
theorem wd_892 : (Jvm.Cond.code ({ cls := "SnorePlay$Reader", name := "faultPlace", desc := "()I" } : Jvm.MethodName) prog_7_method_3_code (1 : Nat) (Option.some Jvm.ClassFile.FieldType.int)) ∈ am_tb := am_m4 49 rfl rfl
theorem wd_893 : (Jvm.Cond.methodLink "SnorePlay" (129 : Nat) ({ cls := "SnorePlay$Play", name := "open", desc := "(LSnorePlay$House;)V" } : Jvm.MethodName)) ∈ am_tb := am_m4 50 rfl rfl
theorem wd_894 : (Jvm.Cond.methodLink "SnorePlay" (132 : Nat) ({ cls := "SnorePlay$Past", name := "forget", desc := "()V" } : Jvm.MethodName)) ∈ am_tb := am_m4 51 rfl rfl
theorem wd_895 : (Jvm.Cond.instanceMethod ({ cls := "SnorePlay$Past", name := "forget", desc := "()V" } : Jvm.MethodName)) ∈ am_tb := am_m4 52 rfl rfl
theorem wd_896 : (Jvm.Cond.selects "SnorePlay$Past" ({ cls := "SnorePlay$Past", name := "forget", desc := "()V" } : Jvm.MethodName) ({ cls := "SnorePlay$Past", name := "forget", desc := "()V" } : Jvm.MethodName)) ∈ am_tb := am_m4 53 rfl rfl
theorem wd_897 : (Jvm.Cond.code ({ cls := "SnorePlay$Past", name := "forget", desc := "()V" } : Jvm.MethodName) prog_4_method_2_code (1 : Nat) (Option.none : Option Jvm.ClassFile.FieldType)) ∈ am_tb := am_m4 54 rfl rfl
theorem wd_898 : (Jvm.Cond.methodLink "SnorePlayLaw" (23 : Nat) ({ cls := "SnorePlay", name := "fault", desc := "(I)I" } : Jvm.MethodName)) ∈ am_tb := am_m4 55 rfl rfl
theorem wd_899 : (Jvm.Cond.instanceMethod ({ cls := "SnorePlay", name := "fault", desc := "(I)I" } : Jvm.MethodName)) ∈ am_tb := am_m4 56 rfl rfl
theorem wd_900 : (Jvm.Cond.selects "SnorePlay" ({ cls := "SnorePlay", name := "fault", desc := "(I)I" } : Jvm.MethodName) ({ cls := "SnorePlay", name := "fault", desc := "(I)I" } : Jvm.MethodName)) ∈ am_tb := am_m4 57 rfl rfl
theorem wd_901 : (Jvm.Cond.code ({ cls := "SnorePlay", name := "fault", desc := "(I)I" } : Jvm.MethodName) prog_1_method_5_code (2 : Nat) (Option.some Jvm.ClassFile.FieldType.int)) ∈ am_tb := am_m4 58 rfl rfl
theorem wd_902 : (Jvm.Cond.methodLink "SnorePlayLaw" (27 : Nat) ({ cls := "SnorePlay", name := "sleeper", desc := "(II)I" } : Jvm.MethodName)) ∈ am_tb := am_m4 59 rfl rfl
theorem wd_903 : (Jvm.Cond.instanceMethod ({ cls := "SnorePlay", name := "sleeper", desc := "(II)I" } : Jvm.MethodName)) ∈ am_tb := am_m4 60 rfl rfl
theorem wd_904 : (Jvm.Cond.selects "SnorePlay" ({ cls := "SnorePlay", name := "sleeper", desc := "(II)I" } : Jvm.MethodName) ({ cls := "SnorePlay", name := "sleeper", desc := "(II)I" } : Jvm.MethodName)) ∈ am_tb := am_m4 61 rfl rfl
theorem wd_905 : (Jvm.Cond.code ({ cls := "SnorePlay", name := "sleeper", desc := "(II)I" } : Jvm.MethodName) prog_1_method_6_code (3 : Nat) (Option.some Jvm.ClassFile.FieldType.int)) ∈ am_tb := am_m4 62 rfl rfl
theorem wd_906 : (Jvm.Cond.methodLink "SnorePlay" (138 : Nat) ({ cls := "SnorePlay$Play", name := "has", desc := "(I)Z" } : Jvm.MethodName)) ∈ am_tb := am_m4 63 rfl rfl
theorem wd_907 : (Jvm.Cond.instanceMethod ({ cls := "SnorePlay$Play", name := "has", desc := "(I)Z" } : Jvm.MethodName)) ∈ am_tb := am_m4 64 rfl rfl
theorem wd_908 : (Jvm.Cond.selects "SnorePlay$Play" ({ cls := "SnorePlay$Play", name := "has", desc := "(I)Z" } : Jvm.MethodName) ({ cls := "SnorePlay$Play", name := "has", desc := "(I)Z" } : Jvm.MethodName)) ∈ am_tb := am_m4 65 rfl rfl
theorem wd_909 : (Jvm.Cond.code ({ cls := "SnorePlay$Play", name := "has", desc := "(I)Z" } : Jvm.MethodName) prog_6_method_4_code (2 : Nat) (Option.some Jvm.ClassFile.FieldType.boolean)) ∈ am_tb := am_m4 66 rfl rfl
theorem wd_910 : (Jvm.Cond.methodLink "SnorePlayLaw" (32 : Nat) ({ cls := "SnorePlay", name := "would", desc := "(I)I" } : Jvm.MethodName)) ∈ am_tb := am_m4 67 rfl rfl
theorem wd_911 : (Jvm.Cond.instanceMethod ({ cls := "SnorePlay", name := "would", desc := "(I)I" } : Jvm.MethodName)) ∈ am_tb := am_m4 68 rfl rfl
theorem wd_912 : (Jvm.Cond.selects "SnorePlay" ({ cls := "SnorePlay", name := "would", desc := "(I)I" } : Jvm.MethodName) ({ cls := "SnorePlay", name := "would", desc := "(I)I" } : Jvm.MethodName)) ∈ am_tb := am_m4 69 rfl rfl
theorem wd_913 : (Jvm.Cond.code ({ cls := "SnorePlay", name := "would", desc := "(I)I" } : Jvm.MethodName) prog_1_method_7_code (2 : Nat) (Option.some Jvm.ClassFile.FieldType.int)) ∈ am_tb := am_m4 70 rfl rfl
theorem wd_914 : (Jvm.Cond.methodLink "SnorePlay" (148 : Nat) ({ cls := "SnorePlay$Stage", name := "amount", desc := "(LSnorePlay$Play;I)I" } : Jvm.MethodName)) ∈ am_tb := am_m4 71 rfl rfl
theorem wd_915 : (Jvm.Cond.instanceMethod ({ cls := "SnorePlay$Stage", name := "amount", desc := "(LSnorePlay$Play;I)I" } : Jvm.MethodName)) ∈ am_tb := am_m4 72 rfl rfl
theorem wd_916 : (Jvm.Cond.selects "SnorePlay$Stage" ({ cls := "SnorePlay$Stage", name := "amount", desc := "(LSnorePlay$Play;I)I" } : Jvm.MethodName) ({ cls := "SnorePlay$Stage", name := "amount", desc := "(LSnorePlay$Play;I)I" } : Jvm.MethodName)) ∈ am_tb := am_m4 73 rfl rfl
theorem wd_917 : (Jvm.Cond.code ({ cls := "SnorePlay$Stage", name := "amount", desc := "(LSnorePlay$Play;I)I" } : Jvm.MethodName) prog_9_method_6_code (6 : Nat) (Option.some Jvm.ClassFile.FieldType.int)) ∈ am_tb := am_m4 74 rfl rfl
theorem wd_918 : (Jvm.Cond.methodLink "SnorePlay$Stage" (108 : Nat) ({ cls := "SnorePlay$Play", name := "far", desc := "(I)I" } : Jvm.MethodName)) ∈ am_tb := am_m4 75 rfl rfl
theorem wd_919 : (Jvm.Cond.instanceMethod ({ cls := "SnorePlay$Play", name := "far", desc := "(I)I" } : Jvm.MethodName)) ∈ am_tb := am_m4 76 rfl rfl
theorem wd_920 : (Jvm.Cond.selects "SnorePlay$Play" ({ cls := "SnorePlay$Play", name := "far", desc := "(I)I" } : Jvm.MethodName) ({ cls := "SnorePlay$Play", name := "far", desc := "(I)I" } : Jvm.MethodName)) ∈ am_tb := am_m4 77 rfl rfl
theorem wd_921 : (Jvm.Cond.code ({ cls := "SnorePlay$Play", name := "far", desc := "(I)I" } : Jvm.MethodName) prog_6_method_7_code (2 : Nat) (Option.some Jvm.ClassFile.FieldType.int)) ∈ am_tb := am_m4 78 rfl rfl
theorem wd_922 : (Jvm.Cond.methodLink "SnorePlay$Play" (73 : Nat) ({ cls := "java/lang/Math", name := "abs", desc := "(I)I" } : Jvm.MethodName)) ∈ am_tb := am_m4 79 rfl rfl
theorem wd_923 : (Jvm.Cond.static ({ cls := "java/lang/Math", name := "abs", desc := "(I)I" } : Jvm.MethodName)) ∈ am_tb := am_m4 80 rfl rfl
theorem wd_924 : (Jvm.Cond.code ({ cls := "java/lang/Math", name := "abs", desc := "(I)I" } : Jvm.MethodName) prog_17_method_59_code (1 : Nat) (Option.some Jvm.ClassFile.FieldType.int)) ∈ am_tb := am_m4 81 rfl rfl
theorem wd_925 : (Jvm.Cond.methodLink "SnorePlay$Stage" (115 : Nat) ({ cls := "SnorePlay$Stage", name := "slot", desc := "(LSnorePlay$Play;II)I" } : Jvm.MethodName)) ∈ am_tb := am_m4 82 rfl rfl
theorem wd_926 : (Jvm.Cond.static ({ cls := "SnorePlay$Stage", name := "slot", desc := "(LSnorePlay$Play;II)I" } : Jvm.MethodName)) ∈ am_tb := am_m4 83 rfl rfl
theorem wd_927 : (Jvm.Cond.code ({ cls := "SnorePlay$Stage", name := "slot", desc := "(LSnorePlay$Play;II)I" } : Jvm.MethodName) prog_9_method_8_code (4 : Nat) (Option.some Jvm.ClassFile.FieldType.int)) ∈ am_tb := am_m4 84 rfl rfl
theorem wd_928 : (Jvm.Cond.methodLink "SnorePlay$Stage" (119 : Nat) ({ cls := "SnorePlay$Stage", name := "mark", desc := "(LSnorePlay$Play;I)I" } : Jvm.MethodName)) ∈ am_tb := am_m4 85 rfl rfl
theorem wd_929 : (Jvm.Cond.static ({ cls := "SnorePlay$Stage", name := "mark", desc := "(LSnorePlay$Play;I)I" } : Jvm.MethodName)) ∈ am_tb := am_m4 86 rfl rfl
theorem wd_930 : (Jvm.Cond.code ({ cls := "SnorePlay$Stage", name := "mark", desc := "(LSnorePlay$Play;I)I" } : Jvm.MethodName) prog_9_method_9_code (2 : Nat) (Option.some Jvm.ClassFile.FieldType.int)) ∈ am_tb := am_m4 87 rfl rfl
theorem wd_931 : (Jvm.Cond.methodLink "SnorePlay$Stage" (122 : Nat) ({ cls := "SnorePlay$Stage", name := "setValues", desc := "(LSnorePlay$Play;II)V" } : Jvm.MethodName)) ∈ am_tb := am_m4 88 rfl rfl
theorem wd_933 : (Jvm.Cond.instanceMethod ({ cls := "SnorePlay$Stage", name := "setValues", desc := "(LSnorePlay$Play;II)V" } : Jvm.MethodName)) ∈ am_tb := am_m4 90 rfl rfl
theorem wd_934 : (Jvm.Cond.code ({ cls := "SnorePlay$Stage", name := "setValues", desc := "(LSnorePlay$Play;II)V" } : Jvm.MethodName) prog_9_method_10_code (4 : Nat) (Option.none : Option Jvm.ClassFile.FieldType)) ∈ am_tb := am_m4 91 rfl rfl
theorem wd_935 : (Jvm.Cond.methodLink "SnorePlay$Stage" (126 : Nat) ({ cls := "SnorePlay$Stage", name := "tell", desc := "([I)I" } : Jvm.MethodName)) ∈ am_tb := am_m4 92 rfl rfl
theorem wd_937 : (Jvm.Cond.instanceMethod ({ cls := "SnorePlay$Stage", name := "tell", desc := "([I)I" } : Jvm.MethodName)) ∈ am_tb := am_m4 94 rfl rfl
theorem wd_938 : (Jvm.Cond.code ({ cls := "SnorePlay$Stage", name := "tell", desc := "([I)I" } : Jvm.MethodName) prog_9_method_11_code (7 : Nat) (Option.some Jvm.ClassFile.FieldType.int)) ∈ am_tb := am_m4 95 rfl rfl
theorem wd_939 : (Jvm.Cond.methodLink "SnorePlay$Stage" (143 : Nat) ({ cls := "SnorePlay$Stage", name := "combined", desc := "(IJJ)I" } : Jvm.MethodName)) ∈ am_tb := am_m4 96 rfl rfl
theorem wd_940 : (Jvm.Cond.static ({ cls := "SnorePlay$Stage", name := "combined", desc := "(IJJ)I" } : Jvm.MethodName)) ∈ am_tb := am_m4 97 rfl rfl
theorem wd_941 : (Jvm.Cond.code ({ cls := "SnorePlay$Stage", name := "combined", desc := "(IJJ)I" } : Jvm.MethodName) prog_9_method_12_code (7 : Nat) (Option.some Jvm.ClassFile.FieldType.int)) ∈ am_tb := am_m4 98 rfl rfl
theorem wd_942 : (Jvm.Cond.constantLong "SnorePlay$Stage" (147 : Nat) (-1000000 : Int64)) ∈ am_tb := am_m4 99 rfl rfl
theorem wd_943 : (Jvm.Cond.constant "SnorePlay$Stage" (149 : Nat) (-1000000 : Int32)) ∈ am_tb := am_m4 100 rfl rfl
theorem wd_944 : (Jvm.Cond.constantLong "SnorePlay$Stage" (150 : Nat) (1000000 : Int64)) ∈ am_tb := am_m4 101 rfl rfl
theorem wd_945 : (Jvm.Cond.constant "SnorePlay$Stage" (152 : Nat) (1000000 : Int32)) ∈ am_tb := am_m4 102 rfl rfl
theorem wd_946 : (Jvm.Cond.constant "SnorePlay" (152 : Nat) (-99000002 : Int32)) ∈ am_tb := am_m4 103 rfl rfl
theorem wd_947 : (Jvm.Cond.methodLink "SnorePlayLaw" (36 : Nat) ({ cls := "SnorePlay", name := "by", desc := "(II)I" } : Jvm.MethodName)) ∈ am_tb := am_m4 104 rfl rfl
theorem wd_948 : (Jvm.Cond.instanceMethod ({ cls := "SnorePlay", name := "by", desc := "(II)I" } : Jvm.MethodName)) ∈ am_tb := am_m4 105 rfl rfl
theorem wd_949 : (Jvm.Cond.selects "SnorePlay" ({ cls := "SnorePlay", name := "by", desc := "(II)I" } : Jvm.MethodName) ({ cls := "SnorePlay", name := "by", desc := "(II)I" } : Jvm.MethodName)) ∈ am_tb := am_m4 106 rfl rfl
theorem wd_950 : (Jvm.Cond.code ({ cls := "SnorePlay", name := "by", desc := "(II)I" } : Jvm.MethodName) prog_1_method_8_code (4 : Nat) (Option.some Jvm.ClassFile.FieldType.int)) ∈ am_tb := am_m4 107 rfl rfl
theorem wd_951 : (Jvm.Cond.methodLink "SnorePlay" (153 : Nat) ({ cls := "SnorePlay$Stage", name := "isBeat", desc := "(J)Z" } : Jvm.MethodName)) ∈ am_tb := am_m4 108 rfl rfl
theorem wd_952 : (Jvm.Cond.static ({ cls := "SnorePlay$Stage", name := "isBeat", desc := "(J)Z" } : Jvm.MethodName)) ∈ am_tb := am_m4 109 rfl rfl
theorem wd_953 : (Jvm.Cond.code ({ cls := "SnorePlay$Stage", name := "isBeat", desc := "(J)Z" } : Jvm.MethodName) prog_9_method_2_code (2 : Nat) (Option.some Jvm.ClassFile.FieldType.boolean)) ∈ am_tb := am_m4 110 rfl rfl
theorem wd_954 : (Jvm.Cond.constantLong "SnorePlay$Stage" (35 : Nat) (10 : Int64)) ∈ am_tb := am_m4 111 rfl rfl
theorem wd_955 : (Jvm.Cond.methodLink "SnorePlay" (157 : Nat) ({ cls := "SnorePlay$Stage", name := "whyNot", desc := "(LSnorePlay$Play;J)I" } : Jvm.MethodName)) ∈ am_tb := am_m4 112 rfl rfl
theorem wd_956 : (Jvm.Cond.instanceMethod ({ cls := "SnorePlay$Stage", name := "whyNot", desc := "(LSnorePlay$Play;J)I" } : Jvm.MethodName)) ∈ am_tb := am_m4 113 rfl rfl
theorem wd_957 : (Jvm.Cond.selects "SnorePlay$Stage" ({ cls := "SnorePlay$Stage", name := "whyNot", desc := "(LSnorePlay$Play;J)I" } : Jvm.MethodName) ({ cls := "SnorePlay$Stage", name := "whyNot", desc := "(LSnorePlay$Play;J)I" } : Jvm.MethodName)) ∈ am_tb := am_m4 114 rfl rfl
theorem wd_958 : (Jvm.Cond.code ({ cls := "SnorePlay$Stage", name := "whyNot", desc := "(LSnorePlay$Play;J)I" } : Jvm.MethodName) prog_9_method_3_code (6 : Nat) (Option.some Jvm.ClassFile.FieldType.int)) ∈ am_tb := am_m4 115 rfl rfl
theorem wd_959 : (Jvm.Cond.methodLink "SnorePlay$Stage" (37 : Nat) ({ cls := "SnorePlay$Stage", name := "isBeat", desc := "(J)Z" } : Jvm.MethodName)) ∈ am_tb := am_m4 116 rfl rfl
theorem wd_960 : (Jvm.Cond.methodLink "SnorePlay$Stage" (53 : Nat) ({ cls := "SnorePlay$Play", name := "goesOn", desc := "()Z" } : Jvm.MethodName)) ∈ am_tb := am_m4 117 rfl rfl
theorem wd_961 : (Jvm.Cond.instanceMethod ({ cls := "SnorePlay$Play", name := "goesOn", desc := "()Z" } : Jvm.MethodName)) ∈ am_tb := am_m4 118 rfl rfl
theorem wd_962 : (Jvm.Cond.selects "SnorePlay$Play" ({ cls := "SnorePlay$Play", name := "goesOn", desc := "()Z" } : Jvm.MethodName) ({ cls := "SnorePlay$Play", name := "goesOn", desc := "()Z" } : Jvm.MethodName)) ∈ am_tb := am_m4 119 rfl rfl
theorem wd_963 : (Jvm.Cond.code ({ cls := "SnorePlay$Play", name := "goesOn", desc := "()Z" } : Jvm.MethodName) prog_6_method_6_code (1 : Nat) (Option.some Jvm.ClassFile.FieldType.boolean)) ∈ am_tb := am_m4 120 rfl rfl
theorem wd_964 : (Jvm.Cond.methodLink "SnorePlay$Play" (69 : Nat) ({ cls := "SnorePlay$Play", name := "hasEnded", desc := "()Z" } : Jvm.MethodName)) ∈ am_tb := am_m4 121 rfl rfl
theorem wd_965 : (Jvm.Cond.instanceMethod ({ cls := "SnorePlay$Play", name := "hasEnded", desc := "()Z" } : Jvm.MethodName)) ∈ am_tb := am_m4 122 rfl rfl
theorem wd_966 : (Jvm.Cond.selects "SnorePlay$Play" ({ cls := "SnorePlay$Play", name := "hasEnded", desc := "()Z" } : Jvm.MethodName) ({ cls := "SnorePlay$Play", name := "hasEnded", desc := "()Z" } : Jvm.MethodName)) ∈ am_tb := am_m4 123 rfl rfl
theorem wd_967 : (Jvm.Cond.code ({ cls := "SnorePlay$Play", name := "hasEnded", desc := "()Z" } : Jvm.MethodName) prog_6_method_5_code (1 : Nat) (Option.some Jvm.ClassFile.FieldType.boolean)) ∈ am_tb := am_m4 124 rfl rfl
theorem wd_968 : (Jvm.Cond.constantLong "SnorePlay$Stage" (57 : Nat) (20 : Int64)) ∈ am_tb := am_m4 125 rfl rfl
theorem wd_969 : (Jvm.Cond.constantLong "SnorePlay$Stage" (59 : Nat) (100 : Int64)) ∈ am_tb := am_m4 126 rfl rfl
theorem wd_970 : (Jvm.Cond.constantLong "SnorePlay$Stage" (61 : Nat) (300 : Int64)) ∈ am_tb := am_m4 127 rfl rfl
theorem wd_971 : (Jvm.Cond.methodLink "SnorePlay$Stage" (63 : Nat) ({ cls := "SnorePlay$Play", name := "has", desc := "(I)Z" } : Jvm.MethodName)) ∈ am_tb := am_m4 128 rfl rfl
theorem wd_972 : (Jvm.Cond.constantLong "SnorePlay$Stage" (67 : Nat) (200 : Int64)) ∈ am_tb := am_m4 129 rfl rfl
theorem wd_973 : (Jvm.Cond.methodLink "SnorePlay" (161 : Nat) ({ cls := "SnorePlay$Play", name := "takeFrom", desc := "(LSnorePlay$Play;)V" } : Jvm.MethodName)) ∈ am_tb := am_m4 130 rfl rfl
theorem wd_974 : (Jvm.Cond.instanceMethod ({ cls := "SnorePlay$Play", name := "takeFrom", desc := "(LSnorePlay$Play;)V" } : Jvm.MethodName)) ∈ am_tb := am_m4 131 rfl rfl
theorem wd_975 : (Jvm.Cond.selects "SnorePlay$Play" ({ cls := "SnorePlay$Play", name := "takeFrom", desc := "(LSnorePlay$Play;)V" } : Jvm.MethodName) ({ cls := "SnorePlay$Play", name := "takeFrom", desc := "(LSnorePlay$Play;)V" } : Jvm.MethodName)) ∈ am_tb := am_m4 132 rfl rfl
theorem wd_976 : (Jvm.Cond.code ({ cls := "SnorePlay$Play", name := "takeFrom", desc := "(LSnorePlay$Play;)V" } : Jvm.MethodName) prog_6_method_3_code (2 : Nat) (Option.none : Option Jvm.ClassFile.FieldType)) ∈ am_tb := am_m4 133 rfl rfl
theorem wd_977 : (Jvm.Cond.methodLink "SnorePlay" (165 : Nat) ({ cls := "SnorePlay$Stage", name := "step", desc := "(LSnorePlay$Play;I)I" } : Jvm.MethodName)) ∈ am_tb := am_m4 134 rfl rfl
theorem wd_978 : (Jvm.Cond.instanceMethod ({ cls := "SnorePlay$Stage", name := "step", desc := "(LSnorePlay$Play;I)I" } : Jvm.MethodName)) ∈ am_tb := am_m4 135 rfl rfl
theorem wd_979 : (Jvm.Cond.selects "SnorePlay$Stage" ({ cls := "SnorePlay$Stage", name := "step", desc := "(LSnorePlay$Play;I)I" } : Jvm.MethodName) ({ cls := "SnorePlay$Stage", name := "step", desc := "(LSnorePlay$Play;I)I" } : Jvm.MethodName)) ∈ am_tb := am_m4 136 rfl rfl
theorem wd_980 : (Jvm.Cond.code ({ cls := "SnorePlay$Stage", name := "step", desc := "(LSnorePlay$Play;I)I" } : Jvm.MethodName) prog_9_method_5_code (7 : Nat) (Option.some Jvm.ClassFile.FieldType.int)) ∈ am_tb := am_m4 137 rfl rfl
theorem wd_981 : (Jvm.Cond.methodLink "SnorePlay$Stage" (86 : Nat) ({ cls := "SnorePlay$Stage", name := "amount", desc := "(LSnorePlay$Play;I)I" } : Jvm.MethodName)) ∈ am_tb := am_m4 138 rfl rfl
theorem wd_982 : (Jvm.Cond.methodLink "SnorePlay$Stage" (93 : Nat) ({ cls := "SnorePlay$Stage", name := "tone", desc := "(LSnorePlay$Play;I)I" } : Jvm.MethodName)) ∈ am_tb := am_m4 139 rfl rfl
theorem wd_984 : (Jvm.Cond.instanceMethod ({ cls := "SnorePlay$Stage", name := "tone", desc := "(LSnorePlay$Play;I)I" } : Jvm.MethodName)) ∈ am_tb := am_m4 141 rfl rfl
theorem wd_985 : (Jvm.Cond.code ({ cls := "SnorePlay$Stage", name := "tone", desc := "(LSnorePlay$Play;I)I" } : Jvm.MethodName) prog_9_method_7_code (6 : Nat) (Option.some Jvm.ClassFile.FieldType.int)) ∈ am_tb := am_m4 142 rfl rfl
theorem wd_986 : (Jvm.Cond.methodLinkNest "SnorePlay$Stage" (136 : Nat) ({ cls := "SnorePlay", name := "rest", desc := "(II)I" } : Jvm.MethodName) "SnorePlay") ∈ am_tb := am_m4 143 rfl rfl
theorem wd_987 : (Jvm.Cond.static ({ cls := "SnorePlay", name := "rest", desc := "(II)I" } : Jvm.MethodName)) ∈ am_tb := am_m4 144 rfl rfl
theorem wd_988 : (Jvm.Cond.code ({ cls := "SnorePlay", name := "rest", desc := "(II)I" } : Jvm.MethodName) prog_1_method_20_code (2 : Nat) (Option.some Jvm.ClassFile.FieldType.int)) ∈ am_tb := am_m4 145 rfl rfl
theorem wd_989 : (Jvm.Cond.methodLink "SnorePlay" (230 : Nat) ({ cls := "java/lang/Math", name := "floorMod", desc := "(II)I" } : Jvm.MethodName)) ∈ am_tb := am_m4 146 rfl rfl
theorem wd_990 : (Jvm.Cond.static ({ cls := "java/lang/Math", name := "floorMod", desc := "(II)I" } : Jvm.MethodName)) ∈ am_tb := am_m4 147 rfl rfl
theorem wd_991 : (Jvm.Cond.code ({ cls := "java/lang/Math", name := "floorMod", desc := "(II)I" } : Jvm.MethodName) prog_17_method_50_code (3 : Nat) (Option.some Jvm.ClassFile.FieldType.int)) ∈ am_tb := am_m4 148 rfl rfl
theorem wd_992 : (Jvm.Cond.methodLink "SnorePlayLaw" (40 : Nat) ({ cls := "SnorePlay", name := "beat", desc := "(I)I" } : Jvm.MethodName)) ∈ am_tb := am_m4 149 rfl rfl
theorem wd_993 : (Jvm.Cond.instanceMethod ({ cls := "SnorePlay", name := "beat", desc := "(I)I" } : Jvm.MethodName)) ∈ am_tb := am_m4 150 rfl rfl
theorem wd_994 : (Jvm.Cond.selects "SnorePlay" ({ cls := "SnorePlay", name := "beat", desc := "(I)I" } : Jvm.MethodName) ({ cls := "SnorePlay", name := "beat", desc := "(I)I" } : Jvm.MethodName)) ∈ am_tb := am_m4 151 rfl rfl
theorem wd_995 : (Jvm.Cond.code ({ cls := "SnorePlay", name := "beat", desc := "(I)I" } : Jvm.MethodName) prog_1_method_9_code (3 : Nat) (Option.some Jvm.ClassFile.FieldType.int)) ∈ am_tb := am_m4 152 rfl rfl
theorem wd_996 : (Jvm.Cond.methodLink "SnorePlay" (174 : Nat) ({ cls := "SnorePlay$Past", name := "keep", desc := "(LSnorePlay$Play;)V" } : Jvm.MethodName)) ∈ am_tb := am_m4 153 rfl rfl
theorem wd_997 : (Jvm.Cond.instanceMethod ({ cls := "SnorePlay$Past", name := "keep", desc := "(LSnorePlay$Play;)V" } : Jvm.MethodName)) ∈ am_tb := am_m4 154 rfl rfl
theorem wd_998 : (Jvm.Cond.selects "SnorePlay$Past" ({ cls := "SnorePlay$Past", name := "keep", desc := "(LSnorePlay$Play;)V" } : Jvm.MethodName) ({ cls := "SnorePlay$Past", name := "keep", desc := "(LSnorePlay$Play;)V" } : Jvm.MethodName)) ∈ am_tb := am_m4 155 rfl rfl
theorem wd_999 : (Jvm.Cond.code ({ cls := "SnorePlay$Past", name := "keep", desc := "(LSnorePlay$Play;)V" } : Jvm.MethodName) prog_4_method_3_code (2 : Nat) (Option.none : Option Jvm.ClassFile.FieldType)) ∈ am_tb := am_m4 156 rfl rfl
theorem wd_1000 : (Jvm.Cond.methodLink "SnorePlay$Past" (25 : Nat) ({ cls := "SnorePlay$Play", name := "takeFrom", desc := "(LSnorePlay$Play;)V" } : Jvm.MethodName)) ∈ am_tb := am_m4 157 rfl rfl
theorem wd_1001 : (Jvm.Cond.methodLink "SnorePlay$Past" (29 : Nat) ({ cls := "java/lang/Math", name := "min", desc := "(II)I" } : Jvm.MethodName)) ∈ am_tb := am_m4 158 rfl rfl
theorem wd_1002 : (Jvm.Cond.methodLink "SnorePlayLaw" (44 : Nat) ({ cls := "SnorePlay", name := "beats", desc := "(I)I" } : Jvm.MethodName)) ∈ am_tb := am_m4 159 rfl rfl
theorem wd_1003 : (Jvm.Cond.instanceMethod ({ cls := "SnorePlay", name := "beats", desc := "(I)I" } : Jvm.MethodName)) ∈ am_tb := am_m4 160 rfl rfl
theorem wd_1004 : (Jvm.Cond.selects "SnorePlay" ({ cls := "SnorePlay", name := "beats", desc := "(I)I" } : Jvm.MethodName) ({ cls := "SnorePlay", name := "beats", desc := "(I)I" } : Jvm.MethodName)) ∈ am_tb := am_m4 161 rfl rfl
theorem wd_1005 : (Jvm.Cond.code ({ cls := "SnorePlay", name := "beats", desc := "(I)I" } : Jvm.MethodName) prog_1_method_10_code (4 : Nat) (Option.some Jvm.ClassFile.FieldType.int)) ∈ am_tb := am_m4 162 rfl rfl
theorem wd_1006 : (Jvm.Cond.methodLink "SnorePlay" (177 : Nat) ({ cls := "SnorePlay$Play", name := "goesOn", desc := "()Z" } : Jvm.MethodName)) ∈ am_tb := am_m4 163 rfl rfl
theorem wd_1007 : (Jvm.Cond.methodLink "SnorePlayLaw" (48 : Nat) ({ cls := "SnorePlay", name := "change", desc := "(II)I" } : Jvm.MethodName)) ∈ am_tb := am_m4 164 rfl rfl
theorem wd_1008 : (Jvm.Cond.instanceMethod ({ cls := "SnorePlay", name := "change", desc := "(II)I" } : Jvm.MethodName)) ∈ am_tb := am_m4 165 rfl rfl
theorem wd_1009 : (Jvm.Cond.selects "SnorePlay" ({ cls := "SnorePlay", name := "change", desc := "(II)I" } : Jvm.MethodName) ({ cls := "SnorePlay", name := "change", desc := "(II)I" } : Jvm.MethodName)) ∈ am_tb := am_m4 166 rfl rfl
theorem wd_1010 : (Jvm.Cond.code ({ cls := "SnorePlay", name := "change", desc := "(II)I" } : Jvm.MethodName) prog_1_method_11_code (3 : Nat) (Option.some Jvm.ClassFile.FieldType.int)) ∈ am_tb := am_m4 167 rfl rfl
theorem wd_1011 : (Jvm.Cond.methodLink "SnorePlay" (181 : Nat) ({ cls := "SnorePlay$Play", name := "swapBeds", desc := "(II)V" } : Jvm.MethodName)) ∈ am_tb := am_m4 168 rfl rfl
theorem wd_1012 : (Jvm.Cond.instanceMethod ({ cls := "SnorePlay$Play", name := "swapBeds", desc := "(II)V" } : Jvm.MethodName)) ∈ am_tb := am_m4 169 rfl rfl
theorem wd_1013 : (Jvm.Cond.selects "SnorePlay$Play" ({ cls := "SnorePlay$Play", name := "swapBeds", desc := "(II)V" } : Jvm.MethodName) ({ cls := "SnorePlay$Play", name := "swapBeds", desc := "(II)V" } : Jvm.MethodName)) ∈ am_tb := am_m4 170 rfl rfl
theorem wd_1014 : (Jvm.Cond.code ({ cls := "SnorePlay$Play", name := "swapBeds", desc := "(II)V" } : Jvm.MethodName) prog_6_method_8_code (4 : Nat) (Option.none : Option Jvm.ClassFile.FieldType)) ∈ am_tb := am_m4 171 rfl rfl
theorem wd_1015 : (Jvm.Cond.methodLink "SnorePlayLaw" (52 : Nat) ({ cls := "SnorePlay", name := "dream", desc := "(II)I" } : Jvm.MethodName)) ∈ am_tb := am_m4 172 rfl rfl
theorem wd_1016 : (Jvm.Cond.instanceMethod ({ cls := "SnorePlay", name := "dream", desc := "(II)I" } : Jvm.MethodName)) ∈ am_tb := am_m4 173 rfl rfl
theorem wd_1017 : (Jvm.Cond.selects "SnorePlay" ({ cls := "SnorePlay", name := "dream", desc := "(II)I" } : Jvm.MethodName) ({ cls := "SnorePlay", name := "dream", desc := "(II)I" } : Jvm.MethodName)) ∈ am_tb := am_m4 174 rfl rfl
theorem wd_1018 : (Jvm.Cond.code ({ cls := "SnorePlay", name := "dream", desc := "(II)I" } : Jvm.MethodName) prog_1_method_12_code (4 : Nat) (Option.some Jvm.ClassFile.FieldType.int)) ∈ am_tb := am_m4 175 rfl rfl
theorem wd_1019 : (Jvm.Cond.methodLink "SnorePlayLaw" (56 : Nat) ({ cls := "SnorePlay", name := "hush", desc := "(I)I" } : Jvm.MethodName)) ∈ am_tb := am_m4 176 rfl rfl
theorem wd_1020 : (Jvm.Cond.instanceMethod ({ cls := "SnorePlay", name := "hush", desc := "(I)I" } : Jvm.MethodName)) ∈ am_tb := am_m4 177 rfl rfl
theorem wd_1021 : (Jvm.Cond.selects "SnorePlay" ({ cls := "SnorePlay", name := "hush", desc := "(I)I" } : Jvm.MethodName) ({ cls := "SnorePlay", name := "hush", desc := "(I)I" } : Jvm.MethodName)) ∈ am_tb := am_m4 178 rfl rfl
theorem wd_1022 : (Jvm.Cond.code ({ cls := "SnorePlay", name := "hush", desc := "(I)I" } : Jvm.MethodName) prog_1_method_13_code (3 : Nat) (Option.some Jvm.ClassFile.FieldType.int)) ∈ am_tb := am_m4 179 rfl rfl
theorem wd_1023 : (Jvm.Cond.methodLink "SnorePlayLaw" (60 : Nat) ({ cls := "SnorePlay", name := "undo", desc := "(I)I" } : Jvm.MethodName)) ∈ am_tb := am_m4 180 rfl rfl
theorem wd_1024 : (Jvm.Cond.instanceMethod ({ cls := "SnorePlay", name := "undo", desc := "(I)I" } : Jvm.MethodName)) ∈ am_tb := am_m4 181 rfl rfl
theorem wd_1025 : (Jvm.Cond.selects "SnorePlay" ({ cls := "SnorePlay", name := "undo", desc := "(I)I" } : Jvm.MethodName) ({ cls := "SnorePlay", name := "undo", desc := "(I)I" } : Jvm.MethodName)) ∈ am_tb := am_m4 182 rfl rfl
theorem wd_1026 : (Jvm.Cond.code ({ cls := "SnorePlay", name := "undo", desc := "(I)I" } : Jvm.MethodName) prog_1_method_14_code (2 : Nat) (Option.some Jvm.ClassFile.FieldType.int)) ∈ am_tb := am_m4 183 rfl rfl
theorem wd_1027 : (Jvm.Cond.methodLink "SnorePlay" (191 : Nat) ({ cls := "SnorePlay$Past", name := "bringBack", desc := "(LSnorePlay$Play;I)V" } : Jvm.MethodName)) ∈ am_tb := am_m4 184 rfl rfl
theorem wd_1028 : (Jvm.Cond.instanceMethod ({ cls := "SnorePlay$Past", name := "bringBack", desc := "(LSnorePlay$Play;I)V" } : Jvm.MethodName)) ∈ am_tb := am_m4 185 rfl rfl
theorem wd_1029 : (Jvm.Cond.selects "SnorePlay$Past" ({ cls := "SnorePlay$Past", name := "bringBack", desc := "(LSnorePlay$Play;I)V" } : Jvm.MethodName) ({ cls := "SnorePlay$Past", name := "bringBack", desc := "(LSnorePlay$Play;I)V" } : Jvm.MethodName)) ∈ am_tb := am_m4 186 rfl rfl
theorem wd_1030 : (Jvm.Cond.code ({ cls := "SnorePlay$Past", name := "bringBack", desc := "(LSnorePlay$Play;I)V" } : Jvm.MethodName) prog_4_method_4_code (3 : Nat) (Option.none : Option Jvm.ClassFile.FieldType)) ∈ am_tb := am_m4 187 rfl rfl
theorem wd_1031 : (Jvm.Cond.methodLink "SnorePlay$Past" (35 : Nat) ({ cls := "java/lang/Math", name := "floorMod", desc := "(II)I" } : Jvm.MethodName)) ∈ am_tb := am_m4 188 rfl rfl
theorem wd_1032 : (Jvm.Cond.methodLink "SnorePlayLaw" (64 : Nat) ({ cls := "SnorePlay", name := "judge", desc := "(II)I" } : Jvm.MethodName)) ∈ am_tb := am_m4 189 rfl rfl
theorem wd_1033 : (Jvm.Cond.instanceMethod ({ cls := "SnorePlay", name := "judge", desc := "(II)I" } : Jvm.MethodName)) ∈ am_tb := am_m4 190 rfl rfl
theorem wd_1034 : (Jvm.Cond.selects "SnorePlay" ({ cls := "SnorePlay", name := "judge", desc := "(II)I" } : Jvm.MethodName) ({ cls := "SnorePlay", name := "judge", desc := "(II)I" } : Jvm.MethodName)) ∈ am_tb := am_m4 191 rfl rfl
theorem wd_1035 : (Jvm.Cond.code ({ cls := "SnorePlay", name := "judge", desc := "(II)I" } : Jvm.MethodName) prog_1_method_15_code (6 : Nat) (Option.some Jvm.ClassFile.FieldType.int)) ∈ am_tb := am_m4 192 rfl rfl
theorem wd_1036 : (Jvm.Cond.methodLink "SnorePlay" (195 : Nat) ({ cls := "SnorePlay", name := "trayRefusal", desc := "(I)I" } : Jvm.MethodName)) ∈ am_tb := am_m4 193 rfl rfl
theorem wd_1038 : (Jvm.Cond.instanceMethod ({ cls := "SnorePlay", name := "trayRefusal", desc := "(I)I" } : Jvm.MethodName)) ∈ am_tb := am_m4 195 rfl rfl
theorem wd_1039 : (Jvm.Cond.code ({ cls := "SnorePlay", name := "trayRefusal", desc := "(I)I" } : Jvm.MethodName) prog_1_method_22_code (2 : Nat) (Option.some Jvm.ClassFile.FieldType.int)) ∈ am_tb := am_m4 196 rfl rfl
theorem wd_1040 : (Jvm.Cond.methodLink "SnorePlay" (199 : Nat) ({ cls := "SnorePlay", name := "enactAll", desc := "(LSnorePlay$Play;LSnorePlay$Tray;)I" } : Jvm.MethodName)) ∈ am_tb := am_m4 197 rfl rfl
theorem wd_1042 : (Jvm.Cond.instanceMethod ({ cls := "SnorePlay", name := "enactAll", desc := "(LSnorePlay$Play;LSnorePlay$Tray;)I" } : Jvm.MethodName)) ∈ am_tb := am_m4 199 rfl rfl
theorem wd_1043 : (Jvm.Cond.code ({ cls := "SnorePlay", name := "enactAll", desc := "(LSnorePlay$Play;LSnorePlay$Tray;)I" } : Jvm.MethodName) prog_1_method_21_code (4 : Nat) (Option.some Jvm.ClassFile.FieldType.int)) ∈ am_tb := am_m4 200 rfl rfl
theorem wd_1044 : (Jvm.Cond.methodLink "SnorePlay" (219 : Nat) ({ cls := "SnorePlay$Stage", name := "enact", desc := "(LSnorePlay$Play;I)V" } : Jvm.MethodName)) ∈ am_tb := am_m4 201 rfl rfl
theorem wd_1045 : (Jvm.Cond.instanceMethod ({ cls := "SnorePlay$Stage", name := "enact", desc := "(LSnorePlay$Play;I)V" } : Jvm.MethodName)) ∈ am_tb := am_m4 202 rfl rfl
theorem wd_1046 : (Jvm.Cond.selects "SnorePlay$Stage" ({ cls := "SnorePlay$Stage", name := "enact", desc := "(LSnorePlay$Play;I)V" } : Jvm.MethodName) ({ cls := "SnorePlay$Stage", name := "enact", desc := "(LSnorePlay$Play;I)V" } : Jvm.MethodName)) ∈ am_tb := am_m4 203 rfl rfl
theorem wd_1047 : (Jvm.Cond.code ({ cls := "SnorePlay$Stage", name := "enact", desc := "(LSnorePlay$Play;I)V" } : Jvm.MethodName) prog_9_method_4_code (3 : Nat) (Option.none : Option Jvm.ClassFile.FieldType)) ∈ am_tb := am_m4 204 rfl rfl
theorem wd_1048 : (Jvm.Cond.methodLink "SnorePlay$Stage" (69 : Nat) ({ cls := "SnorePlay$Stage", name := "step", desc := "(LSnorePlay$Play;I)I" } : Jvm.MethodName)) ∈ am_tb := am_m4 205 rfl rfl
theorem wd_1049 : (Jvm.Cond.methodLink "SnorePlay$Stage" (76 : Nat) ({ cls := "SnorePlay$Play", name := "swapBeds", desc := "(II)V" } : Jvm.MethodName)) ∈ am_tb := am_m4 206 rfl rfl
theorem wd_1050 : (Jvm.Cond.methodLink "SnorePlayLaw" (68 : Nat) ({ cls := "SnorePlay", name := "perform", desc := "(I)I" } : Jvm.MethodName)) ∈ am_tb := am_m4 207 rfl rfl
theorem wd_1051 : (Jvm.Cond.instanceMethod ({ cls := "SnorePlay", name := "perform", desc := "(I)I" } : Jvm.MethodName)) ∈ am_tb := am_m4 208 rfl rfl
theorem wd_1052 : (Jvm.Cond.selects "SnorePlay" ({ cls := "SnorePlay", name := "perform", desc := "(I)I" } : Jvm.MethodName) ({ cls := "SnorePlay", name := "perform", desc := "(I)I" } : Jvm.MethodName)) ∈ am_tb := am_m4 209 rfl rfl
theorem wd_1053 : (Jvm.Cond.code ({ cls := "SnorePlay", name := "perform", desc := "(I)I" } : Jvm.MethodName) prog_1_method_16_code (4 : Nat) (Option.some Jvm.ClassFile.FieldType.int)) ∈ am_tb := am_m4 210 rfl rfl
theorem wd_1054 : (Jvm.Cond.methodLink "SnorePlayLaw" (72 : Nat) ({ cls := "SnorePlay", name := "night", desc := "(II)I" } : Jvm.MethodName)) ∈ am_tb := am_m4 211 rfl rfl
theorem wd_1055 : (Jvm.Cond.instanceMethod ({ cls := "SnorePlay", name := "night", desc := "(II)I" } : Jvm.MethodName)) ∈ am_tb := am_m4 212 rfl rfl
theorem wd_1056 : (Jvm.Cond.selects "SnorePlay" ({ cls := "SnorePlay", name := "night", desc := "(II)I" } : Jvm.MethodName) ({ cls := "SnorePlay", name := "night", desc := "(II)I" } : Jvm.MethodName)) ∈ am_tb := am_m4 213 rfl rfl
theorem wd_1057 : (Jvm.Cond.code ({ cls := "SnorePlay", name := "night", desc := "(II)I" } : Jvm.MethodName) prog_1_method_17_code (6 : Nat) (Option.some Jvm.ClassFile.FieldType.int)) ∈ am_tb := am_m4 214 rfl rfl
theorem wd_1058 : (Jvm.Cond.methodLink "SnorePlay" (216 : Nat) ({ cls := "SnorePlay", name := "drawDeed", desc := "()I" } : Jvm.MethodName)) ∈ am_tb := am_m4 215 rfl rfl
theorem wd_1060 : (Jvm.Cond.instanceMethod ({ cls := "SnorePlay", name := "drawDeed", desc := "()I" } : Jvm.MethodName)) ∈ am_tb := am_m4 217 rfl rfl
theorem wd_1061 : (Jvm.Cond.code ({ cls := "SnorePlay", name := "drawDeed", desc := "()I" } : Jvm.MethodName) prog_1_method_19_code (3 : Nat) (Option.some Jvm.ClassFile.FieldType.int)) ∈ am_tb := am_m4 218 rfl rfl
theorem wd_1062 : (Jvm.Cond.methodLink "SnorePlay" (227 : Nat) ({ cls := "SnorePlay", name := "draw", desc := "(I)I" } : Jvm.MethodName)) ∈ am_tb := am_m4 219 rfl rfl
theorem wd_1064 : (Jvm.Cond.instanceMethod ({ cls := "SnorePlay", name := "draw", desc := "(I)I" } : Jvm.MethodName)) ∈ am_tb := am_m4 221 rfl rfl
theorem wd_1065 : (Jvm.Cond.code ({ cls := "SnorePlay", name := "draw", desc := "(I)I" } : Jvm.MethodName) prog_1_method_18_code (2 : Nat) (Option.some Jvm.ClassFile.FieldType.int)) ∈ am_tb := am_m4 222 rfl rfl
theorem wd_1066 : (Jvm.Cond.constant "SnorePlay" (222 : Nat) (1103515245 : Int32)) ∈ am_tb := am_m4 223 rfl rfl
theorem wd_1067 : (Jvm.Cond.methodLink "SnorePlay" (223 : Nat) ({ cls := "SnorePlay", name := "rest", desc := "(II)I" } : Jvm.MethodName)) ∈ am_tb := am_m4 224 rfl rfl
theorem wd_1068 : (Jvm.Cond.methodLink "SnorePlayLaw" (76 : Nat) ({ cls := "SnorePlay", name := "goes", desc := "(I)I" } : Jvm.MethodName)) ∈ am_tb := am_m4 225 rfl rfl
theorem wd_1069 : (Jvm.Cond.instanceMethod ({ cls := "SnorePlay", name := "goes", desc := "(I)I" } : Jvm.MethodName)) ∈ am_tb := am_m4 226 rfl rfl
theorem wd_1070 : (Jvm.Cond.selects "SnorePlay" ({ cls := "SnorePlay", name := "goes", desc := "(I)I" } : Jvm.MethodName) ({ cls := "SnorePlay", name := "goes", desc := "(I)I" } : Jvm.MethodName)) ∈ am_tb := am_m4 227 rfl rfl
theorem wd_1071 : (Jvm.Cond.code ({ cls := "SnorePlay", name := "goes", desc := "(I)I" } : Jvm.MethodName) prog_1_method_23_code (3 : Nat) (Option.some Jvm.ClassFile.FieldType.int)) ∈ am_tb := am_m4 228 rfl rfl
theorem wd_1072 : (Jvm.Cond.methodLink "SnorePlay" (239 : Nat) ({ cls := "SnorePlay$Graph", name := "prepare", desc := "(LSnorePlay$Play;)V" } : Jvm.MethodName)) ∈ am_tb := am_m4 229 rfl rfl
theorem wd_1073 : (Jvm.Cond.instanceMethod ({ cls := "SnorePlay$Graph", name := "prepare", desc := "(LSnorePlay$Play;)V" } : Jvm.MethodName)) ∈ am_tb := am_m4 230 rfl rfl
theorem wd_1074 : (Jvm.Cond.selects "SnorePlay$Graph" ({ cls := "SnorePlay$Graph", name := "prepare", desc := "(LSnorePlay$Play;)V" } : Jvm.MethodName) ({ cls := "SnorePlay$Graph", name := "prepare", desc := "(LSnorePlay$Play;)V" } : Jvm.MethodName)) ∈ am_tb := am_m4 231 rfl rfl
theorem wd_1075 : (Jvm.Cond.code ({ cls := "SnorePlay$Graph", name := "prepare", desc := "(LSnorePlay$Play;)V" } : Jvm.MethodName) prog_2_method_2_code (5 : Nat) (Option.none : Option Jvm.ClassFile.FieldType)) ∈ am_tb := am_m4 232 rfl rfl
theorem wd_1076 : (Jvm.Cond.methodLink "SnorePlay$Graph" (48 : Nat) ({ cls := "SnorePlay$Play", name := "setting", desc := "()J" } : Jvm.MethodName)) ∈ am_tb := am_m4 233 rfl rfl
theorem wd_1077 : (Jvm.Cond.instanceMethod ({ cls := "SnorePlay$Play", name := "setting", desc := "()J" } : Jvm.MethodName)) ∈ am_tb := am_m4 234 rfl rfl
theorem wd_1078 : (Jvm.Cond.selects "SnorePlay$Play" ({ cls := "SnorePlay$Play", name := "setting", desc := "()J" } : Jvm.MethodName) ({ cls := "SnorePlay$Play", name := "setting", desc := "()J" } : Jvm.MethodName)) ∈ am_tb := am_m4 235 rfl rfl
theorem wd_1079 : (Jvm.Cond.code ({ cls := "SnorePlay$Play", name := "setting", desc := "()J" } : Jvm.MethodName) prog_6_method_11_code (4 : Nat) (Option.some Jvm.ClassFile.FieldType.long)) ∈ am_tb := am_m4 236 rfl rfl
theorem wd_1080 : (Jvm.Cond.methodLink "SnorePlay$Graph" (53 : Nat) ({ cls := "SnorePlay$Play", name := "node", desc := "()I" } : Jvm.MethodName)) ∈ am_tb := am_m4 237 rfl rfl
theorem wd_1081 : (Jvm.Cond.instanceMethod ({ cls := "SnorePlay$Play", name := "node", desc := "()I" } : Jvm.MethodName)) ∈ am_tb := am_m4 238 rfl rfl
theorem wd_1082 : (Jvm.Cond.selects "SnorePlay$Play" ({ cls := "SnorePlay$Play", name := "node", desc := "()I" } : Jvm.MethodName) ({ cls := "SnorePlay$Play", name := "node", desc := "()I" } : Jvm.MethodName)) ∈ am_tb := am_m4 239 rfl rfl
theorem wd_1083 : (Jvm.Cond.code ({ cls := "SnorePlay$Play", name := "node", desc := "()I" } : Jvm.MethodName) prog_6_method_9_code (1 : Nat) (Option.some Jvm.ClassFile.FieldType.int)) ∈ am_tb := am_m5 0 rfl rfl
theorem wd_1084 : (Jvm.Cond.methodLink "SnorePlay$Graph" (57 : Nat) ({ cls := "SnorePlay$Play", name := "takeFrom", desc := "(LSnorePlay$Play;)V" } : Jvm.MethodName)) ∈ am_tb := am_m5 1 rfl rfl
theorem wd_1085 : (Jvm.Cond.methodLink "SnorePlay$Graph" (61 : Nat) ({ cls := "java/util/Arrays", name := "fill", desc := "([II)V" } : Jvm.MethodName)) ∈ am_tb := am_m5 2 rfl rfl
theorem wd_1086 : (Jvm.Cond.static ({ cls := "java/util/Arrays", name := "fill", desc := "([II)V" } : Jvm.MethodName)) ∈ am_tb := am_m5 3 rfl rfl
theorem wd_1087 : (Jvm.Cond.code ({ cls := "java/util/Arrays", name := "fill", desc := "([II)V" } : Jvm.MethodName) prog_22_method_103_code (4 : Nat) (Option.none : Option Jvm.ClassFile.FieldType)) ∈ am_tb := am_m5 4 rfl rfl
theorem wd_1088 : (Jvm.Cond.methodLink "SnorePlay$Graph" (70 : Nat) ({ cls := "SnorePlay$Graph", name := "reach", desc := "(I)V" } : Jvm.MethodName)) ∈ am_tb := am_m5 5 rfl rfl
theorem wd_1090 : (Jvm.Cond.instanceMethod ({ cls := "SnorePlay$Graph", name := "reach", desc := "(I)V" } : Jvm.MethodName)) ∈ am_tb := am_m5 7 rfl rfl
theorem wd_1091 : (Jvm.Cond.code ({ cls := "SnorePlay$Graph", name := "reach", desc := "(I)V" } : Jvm.MethodName) prog_2_method_3_code (2 : Nat) (Option.none : Option Jvm.ClassFile.FieldType)) ∈ am_tb := am_m5 8 rfl rfl
theorem wd_1092 : (Jvm.Cond.methodLink "SnorePlay$Graph" (77 : Nat) ({ cls := "SnorePlay$Graph", name := "goesOn", desc := "(I)Z" } : Jvm.MethodName)) ∈ am_tb := am_m5 9 rfl rfl
theorem wd_1093 : (Jvm.Cond.instanceMethod ({ cls := "SnorePlay$Graph", name := "goesOn", desc := "(I)Z" } : Jvm.MethodName)) ∈ am_tb := am_m5 10 rfl rfl
theorem wd_1094 : (Jvm.Cond.selects "SnorePlay$Graph" ({ cls := "SnorePlay$Graph", name := "goesOn", desc := "(I)Z" } : Jvm.MethodName) ({ cls := "SnorePlay$Graph", name := "goesOn", desc := "(I)Z" } : Jvm.MethodName)) ∈ am_tb := am_m5 11 rfl rfl
theorem wd_1095 : (Jvm.Cond.code ({ cls := "SnorePlay$Graph", name := "goesOn", desc := "(I)Z" } : Jvm.MethodName) prog_2_method_8_code (2 : Nat) (Option.some Jvm.ClassFile.FieldType.boolean)) ∈ am_tb := am_m5 12 rfl rfl
theorem wd_1096 : (Jvm.Cond.methodLink "SnorePlay$Graph" (102 : Nat) ({ cls := "SnorePlay$Graph", name := "isStill", desc := "(I)Z" } : Jvm.MethodName)) ∈ am_tb := am_m5 13 rfl rfl
theorem wd_1097 : (Jvm.Cond.instanceMethod ({ cls := "SnorePlay$Graph", name := "isStill", desc := "(I)Z" } : Jvm.MethodName)) ∈ am_tb := am_m5 14 rfl rfl
theorem wd_1098 : (Jvm.Cond.selects "SnorePlay$Graph" ({ cls := "SnorePlay$Graph", name := "isStill", desc := "(I)Z" } : Jvm.MethodName) ({ cls := "SnorePlay$Graph", name := "isStill", desc := "(I)Z" } : Jvm.MethodName)) ∈ am_tb := am_m5 15 rfl rfl
theorem wd_1099 : (Jvm.Cond.code ({ cls := "SnorePlay$Graph", name := "isStill", desc := "(I)Z" } : Jvm.MethodName) prog_2_method_6_code (2 : Nat) (Option.some Jvm.ClassFile.FieldType.boolean)) ∈ am_tb := am_m5 16 rfl rfl
theorem wd_1100 : (Jvm.Cond.methodLink "SnorePlay$Graph" (105 : Nat) ({ cls := "SnorePlay$Graph", name := "isEnd", desc := "(I)Z" } : Jvm.MethodName)) ∈ am_tb := am_m5 17 rfl rfl
theorem wd_1101 : (Jvm.Cond.instanceMethod ({ cls := "SnorePlay$Graph", name := "isEnd", desc := "(I)Z" } : Jvm.MethodName)) ∈ am_tb := am_m5 18 rfl rfl
theorem wd_1102 : (Jvm.Cond.selects "SnorePlay$Graph" ({ cls := "SnorePlay$Graph", name := "isEnd", desc := "(I)Z" } : Jvm.MethodName) ({ cls := "SnorePlay$Graph", name := "isEnd", desc := "(I)Z" } : Jvm.MethodName)) ∈ am_tb := am_m5 19 rfl rfl
theorem wd_1103 : (Jvm.Cond.code ({ cls := "SnorePlay$Graph", name := "isEnd", desc := "(I)Z" } : Jvm.MethodName) prog_2_method_7_code (2 : Nat) (Option.some Jvm.ClassFile.FieldType.boolean)) ∈ am_tb := am_m5 20 rfl rfl
theorem wd_1104 : (Jvm.Cond.methodLink "SnorePlay$Graph" (74 : Nat) ({ cls := "SnorePlay$Graph", name := "workOut", desc := "(I)V" } : Jvm.MethodName)) ∈ am_tb := am_m5 21 rfl rfl
theorem wd_1106 : (Jvm.Cond.instanceMethod ({ cls := "SnorePlay$Graph", name := "workOut", desc := "(I)V" } : Jvm.MethodName)) ∈ am_tb := am_m5 23 rfl rfl
theorem wd_1107 : (Jvm.Cond.code ({ cls := "SnorePlay$Graph", name := "workOut", desc := "(I)V" } : Jvm.MethodName) prog_2_method_4_code (3 : Nat) (Option.none : Option Jvm.ClassFile.FieldType)) ∈ am_tb := am_m5 24 rfl rfl
theorem wd_1108 : (Jvm.Cond.methodLink "SnorePlay$Graph" (81 : Nat) ({ cls := "SnorePlay$Play", name := "standAt", desc := "(I)V" } : Jvm.MethodName)) ∈ am_tb := am_m5 25 rfl rfl
theorem wd_1109 : (Jvm.Cond.instanceMethod ({ cls := "SnorePlay$Play", name := "standAt", desc := "(I)V" } : Jvm.MethodName)) ∈ am_tb := am_m5 26 rfl rfl
theorem wd_1110 : (Jvm.Cond.selects "SnorePlay$Play" ({ cls := "SnorePlay$Play", name := "standAt", desc := "(I)V" } : Jvm.MethodName) ({ cls := "SnorePlay$Play", name := "standAt", desc := "(I)V" } : Jvm.MethodName)) ∈ am_tb := am_m5 27 rfl rfl
theorem wd_1111 : (Jvm.Cond.code ({ cls := "SnorePlay$Play", name := "standAt", desc := "(I)V" } : Jvm.MethodName) prog_6_method_10_code (2 : Nat) (Option.none : Option Jvm.ClassFile.FieldType)) ∈ am_tb := am_m5 28 rfl rfl
theorem wd_1112 : (Jvm.Cond.methodLink "SnorePlay$Graph" (84 : Nat) ({ cls := "SnorePlay$Stage", name := "step", desc := "(LSnorePlay$Play;I)I" } : Jvm.MethodName)) ∈ am_tb := am_m5 29 rfl rfl
theorem wd_1113 : (Jvm.Cond.methodLink "SnorePlay" (242 : Nat) ({ cls := "SnorePlay$Graph", name := "leaveAlone", desc := "()V" } : Jvm.MethodName)) ∈ am_tb := am_m5 30 rfl rfl
theorem wd_1114 : (Jvm.Cond.instanceMethod ({ cls := "SnorePlay$Graph", name := "leaveAlone", desc := "()V" } : Jvm.MethodName)) ∈ am_tb := am_m5 31 rfl rfl
theorem wd_1115 : (Jvm.Cond.selects "SnorePlay$Graph" ({ cls := "SnorePlay$Graph", name := "leaveAlone", desc := "()V" } : Jvm.MethodName) ({ cls := "SnorePlay$Graph", name := "leaveAlone", desc := "()V" } : Jvm.MethodName)) ∈ am_tb := am_m5 32 rfl rfl
theorem wd_1116 : (Jvm.Cond.code ({ cls := "SnorePlay$Graph", name := "leaveAlone", desc := "()V" } : Jvm.MethodName) prog_2_method_13_code (2 : Nat) (Option.none : Option Jvm.ClassFile.FieldType)) ∈ am_tb := am_m5 33 rfl rfl
theorem wd_1117 : (Jvm.Cond.methodLink "SnorePlay$Graph" (118 : Nat) ({ cls := "SnorePlay$Graph", name := "after", desc := "(II)I" } : Jvm.MethodName)) ∈ am_tb := am_m5 34 rfl rfl
theorem wd_1118 : (Jvm.Cond.instanceMethod ({ cls := "SnorePlay$Graph", name := "after", desc := "(II)I" } : Jvm.MethodName)) ∈ am_tb := am_m5 35 rfl rfl
theorem wd_1119 : (Jvm.Cond.selects "SnorePlay$Graph" ({ cls := "SnorePlay$Graph", name := "after", desc := "(II)I" } : Jvm.MethodName) ({ cls := "SnorePlay$Graph", name := "after", desc := "(II)I" } : Jvm.MethodName)) ∈ am_tb := am_m5 36 rfl rfl
theorem wd_1120 : (Jvm.Cond.code ({ cls := "SnorePlay$Graph", name := "after", desc := "(II)I" } : Jvm.MethodName) prog_2_method_12_code (4 : Nat) (Option.some Jvm.ClassFile.FieldType.int)) ∈ am_tb := am_m5 37 rfl rfl
theorem wd_1121 : (Jvm.Cond.methodLink "SnorePlay$Graph" (108 : Nat) ({ cls := "SnorePlay$Graph", name := "lastOf", desc := "(I)I" } : Jvm.MethodName)) ∈ am_tb := am_m5 38 rfl rfl
theorem wd_1122 : (Jvm.Cond.instanceMethod ({ cls := "SnorePlay$Graph", name := "lastOf", desc := "(I)I" } : Jvm.MethodName)) ∈ am_tb := am_m5 39 rfl rfl
theorem wd_1123 : (Jvm.Cond.selects "SnorePlay$Graph" ({ cls := "SnorePlay$Graph", name := "lastOf", desc := "(I)I" } : Jvm.MethodName) ({ cls := "SnorePlay$Graph", name := "lastOf", desc := "(I)I" } : Jvm.MethodName)) ∈ am_tb := am_m5 40 rfl rfl
theorem wd_1124 : (Jvm.Cond.code ({ cls := "SnorePlay$Graph", name := "lastOf", desc := "(I)I" } : Jvm.MethodName) prog_2_method_11_code (2 : Nat) (Option.some Jvm.ClassFile.FieldType.int)) ∈ am_tb := am_m5 41 rfl rfl
theorem wd_1125 : (Jvm.Cond.methodLink "SnorePlay" (254 : Nat) ({ cls := "SnorePlay$Graph", name := "isEnd", desc := "(I)Z" } : Jvm.MethodName)) ∈ am_tb := am_m5 42 rfl rfl
theorem wd_1126 : (Jvm.Cond.methodLink "SnorePlayLaw" (80 : Nat) ({ cls := "SnorePlay", name := "lies", desc := "(I)I" } : Jvm.MethodName)) ∈ am_tb := am_m5 43 rfl rfl
theorem wd_1127 : (Jvm.Cond.instanceMethod ({ cls := "SnorePlay", name := "lies", desc := "(I)I" } : Jvm.MethodName)) ∈ am_tb := am_m5 44 rfl rfl
theorem wd_1128 : (Jvm.Cond.selects "SnorePlay" ({ cls := "SnorePlay", name := "lies", desc := "(I)I" } : Jvm.MethodName) ({ cls := "SnorePlay", name := "lies", desc := "(I)I" } : Jvm.MethodName)) ∈ am_tb := am_m5 45 rfl rfl
theorem wd_1129 : (Jvm.Cond.code ({ cls := "SnorePlay", name := "lies", desc := "(I)I" } : Jvm.MethodName) prog_1_method_24_code (2 : Nat) (Option.some Jvm.ClassFile.FieldType.int)) ∈ am_tb := am_m5 46 rfl rfl
theorem wd_1130 : (Jvm.Cond.constant "SnorePlay" (257 : Nat) (99999 : Int32)) ∈ am_tb := am_m5 47 rfl rfl
theorem wd_1131 : (Jvm.Cond.methodLink "SnorePlay" (258 : Nat) ({ cls := "SnorePlay$Graph", name := "snorerAlone", desc := "(I)I" } : Jvm.MethodName)) ∈ am_tb := am_m5 48 rfl rfl
theorem wd_1132 : (Jvm.Cond.instanceMethod ({ cls := "SnorePlay$Graph", name := "snorerAlone", desc := "(I)I" } : Jvm.MethodName)) ∈ am_tb := am_m5 49 rfl rfl
theorem wd_1133 : (Jvm.Cond.selects "SnorePlay$Graph" ({ cls := "SnorePlay$Graph", name := "snorerAlone", desc := "(I)I" } : Jvm.MethodName) ({ cls := "SnorePlay$Graph", name := "snorerAlone", desc := "(I)I" } : Jvm.MethodName)) ∈ am_tb := am_m5 50 rfl rfl
theorem wd_1134 : (Jvm.Cond.code ({ cls := "SnorePlay$Graph", name := "snorerAlone", desc := "(I)I" } : Jvm.MethodName) prog_2_method_14_code (4 : Nat) (Option.some Jvm.ClassFile.FieldType.int)) ∈ am_tb := am_m5 51 rfl rfl
theorem wd_1135 : (Jvm.Cond.methodLink "SnorePlayLaw" (84 : Nat) ({ cls := "SnorePlay", name := "round", desc := "(I)I" } : Jvm.MethodName)) ∈ am_tb := am_m5 52 rfl rfl
theorem wd_1136 : (Jvm.Cond.instanceMethod ({ cls := "SnorePlay", name := "round", desc := "(I)I" } : Jvm.MethodName)) ∈ am_tb := am_m5 53 rfl rfl
theorem wd_1137 : (Jvm.Cond.selects "SnorePlay" ({ cls := "SnorePlay", name := "round", desc := "(I)I" } : Jvm.MethodName) ({ cls := "SnorePlay", name := "round", desc := "(I)I" } : Jvm.MethodName)) ∈ am_tb := am_m5 54 rfl rfl
theorem wd_1138 : (Jvm.Cond.code ({ cls := "SnorePlay", name := "round", desc := "(I)I" } : Jvm.MethodName) prog_1_method_25_code (2 : Nat) (Option.some Jvm.ClassFile.FieldType.int)) ∈ am_tb := am_m5 55 rfl rfl
theorem wd_1139 : (Jvm.Cond.methodLink "SnorePlayLaw" (88 : Nat) ({ cls := "SnorePlay", name := "soonest", desc := "(I)I" } : Jvm.MethodName)) ∈ am_tb := am_m5 56 rfl rfl
theorem wd_1140 : (Jvm.Cond.instanceMethod ({ cls := "SnorePlay", name := "soonest", desc := "(I)I" } : Jvm.MethodName)) ∈ am_tb := am_m5 57 rfl rfl
theorem wd_1141 : (Jvm.Cond.selects "SnorePlay" ({ cls := "SnorePlay", name := "soonest", desc := "(I)I" } : Jvm.MethodName) ({ cls := "SnorePlay", name := "soonest", desc := "(I)I" } : Jvm.MethodName)) ∈ am_tb := am_m5 58 rfl rfl
theorem wd_1142 : (Jvm.Cond.code ({ cls := "SnorePlay", name := "soonest", desc := "(I)I" } : Jvm.MethodName) prog_1_method_26_code (2 : Nat) (Option.some Jvm.ClassFile.FieldType.int)) ∈ am_tb := am_m5 59 rfl rfl
theorem wd_1143 : (Jvm.Cond.methodLink "SnorePlay" (261 : Nat) ({ cls := "SnorePlay$Search", name := "fewest", desc := "(Z)I" } : Jvm.MethodName)) ∈ am_tb := am_m5 60 rfl rfl
theorem wd_1144 : (Jvm.Cond.instanceMethod ({ cls := "SnorePlay$Search", name := "fewest", desc := "(Z)I" } : Jvm.MethodName)) ∈ am_tb := am_m5 61 rfl rfl
theorem wd_1145 : (Jvm.Cond.selects "SnorePlay$Search" ({ cls := "SnorePlay$Search", name := "fewest", desc := "(Z)I" } : Jvm.MethodName) ({ cls := "SnorePlay$Search", name := "fewest", desc := "(Z)I" } : Jvm.MethodName)) ∈ am_tb := am_m5 62 rfl rfl
theorem wd_1146 : (Jvm.Cond.code ({ cls := "SnorePlay$Search", name := "fewest", desc := "(Z)I" } : Jvm.MethodName) prog_8_method_4_code (6 : Nat) (Option.some Jvm.ClassFile.FieldType.int)) ∈ am_tb := am_m5 63 rfl rfl
theorem wd_1147 : (Jvm.Cond.methodLink "SnorePlay$Search" (35 : Nat) ({ cls := "SnorePlay$Search", name := "clear", desc := "([IZ)V" } : Jvm.MethodName)) ∈ am_tb := am_m5 64 rfl rfl
theorem wd_1149 : (Jvm.Cond.instanceMethod ({ cls := "SnorePlay$Search", name := "clear", desc := "([IZ)V" } : Jvm.MethodName)) ∈ am_tb := am_m5 66 rfl rfl
theorem wd_1150 : (Jvm.Cond.code ({ cls := "SnorePlay$Search", name := "clear", desc := "([IZ)V" } : Jvm.MethodName) prog_8_method_3_code (4 : Nat) (Option.none : Option Jvm.ClassFile.FieldType)) ∈ am_tb := am_m5 67 rfl rfl
theorem wd_1151 : (Jvm.Cond.methodLink "SnorePlay$Search" (31 : Nat) ({ cls := "SnorePlay$Search", name := "isGoal", desc := "(IZ)Z" } : Jvm.MethodName)) ∈ am_tb := am_m5 68 rfl rfl
theorem wd_1153 : (Jvm.Cond.instanceMethod ({ cls := "SnorePlay$Search", name := "isGoal", desc := "(IZ)Z" } : Jvm.MethodName)) ∈ am_tb := am_m5 70 rfl rfl
theorem wd_1154 : (Jvm.Cond.code ({ cls := "SnorePlay$Search", name := "isGoal", desc := "(IZ)Z" } : Jvm.MethodName) prog_8_method_2_code (3 : Nat) (Option.some Jvm.ClassFile.FieldType.boolean)) ∈ am_tb := am_m5 71 rfl rfl
theorem wd_1155 : (Jvm.Cond.methodLink "SnorePlay$Search" (22 : Nat) ({ cls := "SnorePlay$Graph", name := "isStill", desc := "(I)Z" } : Jvm.MethodName)) ∈ am_tb := am_m5 72 rfl rfl
theorem wd_1156 : (Jvm.Cond.methodLink "SnorePlay$Search" (28 : Nat) ({ cls := "SnorePlay$Graph", name := "isEnd", desc := "(I)Z" } : Jvm.MethodName)) ∈ am_tb := am_m5 73 rfl rfl
theorem wd_1157 : (Jvm.Cond.methodLink "SnorePlay$Search" (49 : Nat) ({ cls := "SnorePlay$Search", name := "deedTo", desc := "([III)I" } : Jvm.MethodName)) ∈ am_tb := am_m5 74 rfl rfl
theorem wd_1159 : (Jvm.Cond.instanceMethod ({ cls := "SnorePlay$Search", name := "deedTo", desc := "([III)I" } : Jvm.MethodName)) ∈ am_tb := am_m5 76 rfl rfl
theorem wd_1160 : (Jvm.Cond.code ({ cls := "SnorePlay$Search", name := "deedTo", desc := "([III)I" } : Jvm.MethodName) prog_8_method_5_code (5 : Nat) (Option.some Jvm.ClassFile.FieldType.int)) ∈ am_tb := am_m5 77 rfl rfl
theorem wd_1161 : (Jvm.Cond.methodLink "SnorePlay$Search" (53 : Nat) ({ cls := "SnorePlay$Graph", name := "sleepers", desc := "()I" } : Jvm.MethodName)) ∈ am_tb := am_m5 78 rfl rfl
theorem wd_1162 : (Jvm.Cond.instanceMethod ({ cls := "SnorePlay$Graph", name := "sleepers", desc := "()I" } : Jvm.MethodName)) ∈ am_tb := am_m5 79 rfl rfl
theorem wd_1163 : (Jvm.Cond.selects "SnorePlay$Graph" ({ cls := "SnorePlay$Graph", name := "sleepers", desc := "()I" } : Jvm.MethodName) ({ cls := "SnorePlay$Graph", name := "sleepers", desc := "()I" } : Jvm.MethodName)) ∈ am_tb := am_m5 80 rfl rfl
theorem wd_1164 : (Jvm.Cond.code ({ cls := "SnorePlay$Graph", name := "sleepers", desc := "()I" } : Jvm.MethodName) prog_2_method_5_code (1 : Nat) (Option.some Jvm.ClassFile.FieldType.int)) ∈ am_tb := am_m5 81 rfl rfl
theorem wd_1165 : (Jvm.Cond.methodLink "SnorePlay$Search" (57 : Nat) ({ cls := "SnorePlay$Graph", name := "after", desc := "(II)I" } : Jvm.MethodName)) ∈ am_tb := am_m5 82 rfl rfl
theorem wd_1166 : (Jvm.Cond.methodLink "SnorePlayLaw" (92 : Nat) ({ cls := "SnorePlay", name := "way", desc := "(II)I" } : Jvm.MethodName)) ∈ am_tb := am_m5 83 rfl rfl
theorem wd_1167 : (Jvm.Cond.instanceMethod ({ cls := "SnorePlay", name := "way", desc := "(II)I" } : Jvm.MethodName)) ∈ am_tb := am_m5 84 rfl rfl
theorem wd_1168 : (Jvm.Cond.selects "SnorePlay" ({ cls := "SnorePlay", name := "way", desc := "(II)I" } : Jvm.MethodName) ({ cls := "SnorePlay", name := "way", desc := "(II)I" } : Jvm.MethodName)) ∈ am_tb := am_m5 85 rfl rfl
theorem wd_1169 : (Jvm.Cond.code ({ cls := "SnorePlay", name := "way", desc := "(II)I" } : Jvm.MethodName) prog_1_method_27_code (3 : Nat) (Option.some Jvm.ClassFile.FieldType.int)) ∈ am_tb := am_m5 86 rfl rfl
theorem wd_1170 : (Jvm.Cond.methodLink "SnorePlay" (265 : Nat) ({ cls := "SnorePlay$Search", name := "fewestDeed", desc := "(ZI)I" } : Jvm.MethodName)) ∈ am_tb := am_m5 87 rfl rfl
theorem wd_1171 : (Jvm.Cond.instanceMethod ({ cls := "SnorePlay$Search", name := "fewestDeed", desc := "(ZI)I" } : Jvm.MethodName)) ∈ am_tb := am_m5 88 rfl rfl
theorem wd_1172 : (Jvm.Cond.selects "SnorePlay$Search" ({ cls := "SnorePlay$Search", name := "fewestDeed", desc := "(ZI)I" } : Jvm.MethodName) ({ cls := "SnorePlay$Search", name := "fewestDeed", desc := "(ZI)I" } : Jvm.MethodName)) ∈ am_tb := am_m5 89 rfl rfl
theorem wd_1173 : (Jvm.Cond.code ({ cls := "SnorePlay$Search", name := "fewestDeed", desc := "(ZI)I" } : Jvm.MethodName) prog_8_method_6_code (4 : Nat) (Option.some Jvm.ClassFile.FieldType.int)) ∈ am_tb := am_m5 90 rfl rfl
theorem wd_1174 : (Jvm.Cond.methodLink "SnorePlay$Search" (61 : Nat) ({ cls := "SnorePlay$Search", name := "fewest", desc := "(Z)I" } : Jvm.MethodName)) ∈ am_tb := am_m5 91 rfl rfl
theorem wd_1175 : (Jvm.Cond.methodLink "SnorePlay$Search" (65 : Nat) ({ cls := "SnorePlay$Search", name := "deedDownwards", desc := "(I)I" } : Jvm.MethodName)) ∈ am_tb := am_m5 92 rfl rfl
theorem wd_1177 : (Jvm.Cond.instanceMethod ({ cls := "SnorePlay$Search", name := "deedDownwards", desc := "(I)I" } : Jvm.MethodName)) ∈ am_tb := am_m5 94 rfl rfl
theorem wd_1178 : (Jvm.Cond.code ({ cls := "SnorePlay$Search", name := "deedDownwards", desc := "(I)I" } : Jvm.MethodName) prog_8_method_7_code (4 : Nat) (Option.some Jvm.ClassFile.FieldType.int)) ∈ am_tb := am_m5 95 rfl rfl
theorem wd_1179 : (Jvm.Cond.methodLink "SnorePlay$Search" (69 : Nat) ({ cls := "java/lang/Math", name := "max", desc := "(II)I" } : Jvm.MethodName)) ∈ am_tb := am_m5 96 rfl rfl
theorem wd_1180 : (Jvm.Cond.methodLink "SnorePlayLaw" (96 : Nat) ({ cls := "SnorePlay", name := "rows", desc := "(II)J" } : Jvm.MethodName)) ∈ am_tb := am_m5 97 rfl rfl
theorem wd_1181 : (Jvm.Cond.instanceMethod ({ cls := "SnorePlay", name := "rows", desc := "(II)J" } : Jvm.MethodName)) ∈ am_tb := am_m5 98 rfl rfl
theorem wd_1182 : (Jvm.Cond.selects "SnorePlay" ({ cls := "SnorePlay", name := "rows", desc := "(II)J" } : Jvm.MethodName) ({ cls := "SnorePlay", name := "rows", desc := "(II)J" } : Jvm.MethodName)) ∈ am_tb := am_m5 99 rfl rfl
theorem wd_1183 : (Jvm.Cond.code ({ cls := "SnorePlay", name := "rows", desc := "(II)J" } : Jvm.MethodName) prog_1_method_28_code (3 : Nat) (Option.some Jvm.ClassFile.FieldType.long)) ∈ am_tb := am_m5 100 rfl rfl
theorem wd_1184 : (Jvm.Cond.constantLong "SnorePlay" (269 : Nat) (-2 : Int64)) ∈ am_tb := am_m5 101 rfl rfl
theorem wd_1185 : (Jvm.Cond.constantLong "SnorePlay" (271 : Nat) (-3 : Int64)) ∈ am_tb := am_m5 102 rfl rfl
theorem wd_1186 : (Jvm.Cond.methodLink "SnorePlay" (273 : Nat) ({ cls := "SnorePlay$Tally", name := "rowsOf", desc := "(II)J" } : Jvm.MethodName)) ∈ am_tb := am_m5 103 rfl rfl
theorem wd_1187 : (Jvm.Cond.instanceMethod ({ cls := "SnorePlay$Tally", name := "rowsOf", desc := "(II)J" } : Jvm.MethodName)) ∈ am_tb := am_m5 104 rfl rfl
theorem wd_1188 : (Jvm.Cond.selects "SnorePlay$Tally" ({ cls := "SnorePlay$Tally", name := "rowsOf", desc := "(II)J" } : Jvm.MethodName) ({ cls := "SnorePlay$Tally", name := "rowsOf", desc := "(II)J" } : Jvm.MethodName)) ∈ am_tb := am_m5 105 rfl rfl
theorem wd_1189 : (Jvm.Cond.code ({ cls := "SnorePlay$Tally", name := "rowsOf", desc := "(II)J" } : Jvm.MethodName) prog_10_method_4_code (7 : Nat) (Option.some Jvm.ClassFile.FieldType.long)) ∈ am_tb := am_m5 106 rfl rfl
theorem wd_1190 : (Jvm.Cond.methodLink "SnorePlay$Tally" (43 : Nat) ({ cls := "SnorePlay$Tally", name := "begin", desc := "()V" } : Jvm.MethodName)) ∈ am_tb := am_m5 107 rfl rfl
theorem wd_1192 : (Jvm.Cond.instanceMethod ({ cls := "SnorePlay$Tally", name := "begin", desc := "()V" } : Jvm.MethodName)) ∈ am_tb := am_m5 109 rfl rfl
theorem wd_1193 : (Jvm.Cond.code ({ cls := "SnorePlay$Tally", name := "begin", desc := "()V" } : Jvm.MethodName) prog_10_method_2_code (1 : Nat) (Option.none : Option Jvm.ClassFile.FieldType)) ∈ am_tb := am_m5 110 rfl rfl
theorem wd_1194 : (Jvm.Cond.methodLink "SnorePlay$Tally" (31 : Nat) ({ cls := "java/util/Arrays", name := "fill", desc := "([JJ)V" } : Jvm.MethodName)) ∈ am_tb := am_m5 111 rfl rfl
theorem wd_1195 : (Jvm.Cond.static ({ cls := "java/util/Arrays", name := "fill", desc := "([JJ)V" } : Jvm.MethodName)) ∈ am_tb := am_m5 112 rfl rfl
theorem wd_1196 : (Jvm.Cond.code ({ cls := "java/util/Arrays", name := "fill", desc := "([JJ)V" } : Jvm.MethodName) prog_22_method_101_code (5 : Nat) (Option.none : Option Jvm.ClassFile.FieldType)) ∈ am_tb := am_m5 113 rfl rfl
theorem wd_1197 : (Jvm.Cond.methodLink "SnorePlay$Tally" (46 : Nat) ({ cls := "SnorePlay$Graph", name := "goesOn", desc := "(I)Z" } : Jvm.MethodName)) ∈ am_tb := am_m5 114 rfl rfl
theorem wd_1198 : (Jvm.Cond.methodLink "SnorePlay$Tally" (50 : Nat) ({ cls := "SnorePlay$Graph", name := "sleepers", desc := "()I" } : Jvm.MethodName)) ∈ am_tb := am_m5 115 rfl rfl
theorem wd_1199 : (Jvm.Cond.methodLink "SnorePlay$Tally" (54 : Nat) ({ cls := "SnorePlay$Graph", name := "after", desc := "(II)I" } : Jvm.MethodName)) ∈ am_tb := am_m5 116 rfl rfl
theorem wd_1200 : (Jvm.Cond.methodLink "SnorePlay$Tally" (58 : Nat) ({ cls := "SnorePlay$Tally", name := "endBeat", desc := "()V" } : Jvm.MethodName)) ∈ am_tb := am_m5 117 rfl rfl
theorem wd_1202 : (Jvm.Cond.instanceMethod ({ cls := "SnorePlay$Tally", name := "endBeat", desc := "()V" } : Jvm.MethodName)) ∈ am_tb := am_m5 119 rfl rfl
theorem wd_1203 : (Jvm.Cond.code ({ cls := "SnorePlay$Tally", name := "endBeat", desc := "()V" } : Jvm.MethodName) prog_10_method_3_code (2 : Nat) (Option.none : Option Jvm.ClassFile.FieldType)) ∈ am_tb := am_m5 120 rfl rfl
theorem wd_1204 : (Jvm.Cond.methodLink "SnorePlay$Tally" (61 : Nat) ({ cls := "SnorePlay$Graph", name := "isEnd", desc := "(I)Z" } : Jvm.MethodName)) ∈ am_tb := am_m5 121 rfl rfl
theorem wd_1205 : (Jvm.Cond.methodLink "SnorePlay$Tally" (64 : Nat) ({ cls := "SnorePlay$Graph", name := "isStill", desc := "(I)Z" } : Jvm.MethodName)) ∈ am_tb := am_m5 122 rfl rfl
theorem wd_1206 : (Jvm.Cond.methodLink "SnorePlayLaw" (101 : Nat) ({ cls := "SnorePlay", name := "keeps", desc := "()I" } : Jvm.MethodName)) ∈ am_tb := am_m5 123 rfl rfl
theorem wd_1207 : (Jvm.Cond.instanceMethod ({ cls := "SnorePlay", name := "keeps", desc := "()I" } : Jvm.MethodName)) ∈ am_tb := am_m5 124 rfl rfl
theorem wd_1208 : (Jvm.Cond.selects "SnorePlay" ({ cls := "SnorePlay", name := "keeps", desc := "()I" } : Jvm.MethodName) ({ cls := "SnorePlay", name := "keeps", desc := "()I" } : Jvm.MethodName)) ∈ am_tb := am_m5 125 rfl rfl
theorem wd_1209 : (Jvm.Cond.code ({ cls := "SnorePlay", name := "keeps", desc := "()I" } : Jvm.MethodName) prog_1_method_29_code (1 : Nat) (Option.some Jvm.ClassFile.FieldType.int)) ∈ am_tb := am_m5 126 rfl rfl
theorem wd_1210 : (Jvm.Cond.methodLink "SnorePlay" (277 : Nat) ({ cls := "SnorePlay$Search", name := "longest", desc := "()I" } : Jvm.MethodName)) ∈ am_tb := am_m5 127 rfl rfl
theorem wd_1211 : (Jvm.Cond.instanceMethod ({ cls := "SnorePlay$Search", name := "longest", desc := "()I" } : Jvm.MethodName)) ∈ am_tb := am_m5 128 rfl rfl
theorem wd_1212 : (Jvm.Cond.selects "SnorePlay$Search" ({ cls := "SnorePlay$Search", name := "longest", desc := "()I" } : Jvm.MethodName) ({ cls := "SnorePlay$Search", name := "longest", desc := "()I" } : Jvm.MethodName)) ∈ am_tb := am_m5 129 rfl rfl
theorem wd_1213 : (Jvm.Cond.code ({ cls := "SnorePlay$Search", name := "longest", desc := "()I" } : Jvm.MethodName) prog_8_method_8_code (5 : Nat) (Option.some Jvm.ClassFile.FieldType.int)) ∈ am_tb := am_m5 130 rfl rfl
theorem wd_1214 : (Jvm.Cond.methodLink "SnorePlay$Search" (74 : Nat) ({ cls := "java/util/Arrays", name := "fill", desc := "([II)V" } : Jvm.MethodName)) ∈ am_tb := am_m5 131 rfl rfl
theorem wd_1215 : (Jvm.Cond.methodLink "SnorePlay$Search" (80 : Nat) ({ cls := "SnorePlay$Search", name := "isBoundBelow", desc := "(II)Z" } : Jvm.MethodName)) ∈ am_tb := am_m5 132 rfl rfl
theorem wd_1217 : (Jvm.Cond.instanceMethod ({ cls := "SnorePlay$Search", name := "isBoundBelow", desc := "(II)Z" } : Jvm.MethodName)) ∈ am_tb := am_m5 134 rfl rfl
theorem wd_1218 : (Jvm.Cond.code ({ cls := "SnorePlay$Search", name := "isBoundBelow", desc := "(II)Z" } : Jvm.MethodName) prog_8_method_9_code (5 : Nat) (Option.some Jvm.ClassFile.FieldType.boolean)) ∈ am_tb := am_m5 135 rfl rfl
theorem wd_1219 : (Jvm.Cond.methodLink "SnorePlay$Search" (84 : Nat) ({ cls := "SnorePlay$Graph", name := "goesOn", desc := "(I)Z" } : Jvm.MethodName)) ∈ am_tb := am_m5 136 rfl rfl
theorem wd_1220 : (Jvm.Cond.methodLink "SnorePlayLaw" (106 : Nat) ({ cls := "SnorePlay", name := "keeping", desc := "(I)I" } : Jvm.MethodName)) ∈ am_tb := am_m5 137 rfl rfl
theorem wd_1221 : (Jvm.Cond.instanceMethod ({ cls := "SnorePlay", name := "keeping", desc := "(I)I" } : Jvm.MethodName)) ∈ am_tb := am_m5 138 rfl rfl
theorem wd_1222 : (Jvm.Cond.selects "SnorePlay" ({ cls := "SnorePlay", name := "keeping", desc := "(I)I" } : Jvm.MethodName) ({ cls := "SnorePlay", name := "keeping", desc := "(I)I" } : Jvm.MethodName)) ∈ am_tb := am_m5 139 rfl rfl
theorem wd_1223 : (Jvm.Cond.code ({ cls := "SnorePlay", name := "keeping", desc := "(I)I" } : Jvm.MethodName) prog_1_method_30_code (2 : Nat) (Option.some Jvm.ClassFile.FieldType.int)) ∈ am_tb := am_m5 140 rfl rfl
theorem wd_1224 : (Jvm.Cond.methodLink "SnorePlay" (280 : Nat) ({ cls := "SnorePlay$Search", name := "longestDeed", desc := "(I)I" } : Jvm.MethodName)) ∈ am_tb := am_m5 141 rfl rfl
theorem wd_1225 : (Jvm.Cond.instanceMethod ({ cls := "SnorePlay$Search", name := "longestDeed", desc := "(I)I" } : Jvm.MethodName)) ∈ am_tb := am_m5 142 rfl rfl
theorem wd_1226 : (Jvm.Cond.selects "SnorePlay$Search" ({ cls := "SnorePlay$Search", name := "longestDeed", desc := "(I)I" } : Jvm.MethodName) ({ cls := "SnorePlay$Search", name := "longestDeed", desc := "(I)I" } : Jvm.MethodName)) ∈ am_tb := am_m5 143 rfl rfl
theorem wd_1227 : (Jvm.Cond.code ({ cls := "SnorePlay$Search", name := "longestDeed", desc := "(I)I" } : Jvm.MethodName) prog_8_method_10_code (5 : Nat) (Option.some Jvm.ClassFile.FieldType.int)) ∈ am_tb := am_m5 144 rfl rfl
theorem wd_1228 : (Jvm.Cond.methodLink "SnorePlay$Search" (87 : Nat) ({ cls := "SnorePlay$Search", name := "longest", desc := "()I" } : Jvm.MethodName)) ∈ am_tb := am_m5 145 rfl rfl
theorem wd_1229 : (Jvm.Cond.methodLink "SnorePlay$Search" (90 : Nat) ({ cls := "SnorePlay$Search", name := "endlessDeed", desc := "(I)I" } : Jvm.MethodName)) ∈ am_tb := am_m5 146 rfl rfl
theorem wd_1231 : (Jvm.Cond.instanceMethod ({ cls := "SnorePlay$Search", name := "endlessDeed", desc := "(I)I" } : Jvm.MethodName)) ∈ am_tb := am_m5 148 rfl rfl
theorem wd_1232 : (Jvm.Cond.code ({ cls := "SnorePlay$Search", name := "endlessDeed", desc := "(I)I" } : Jvm.MethodName) prog_8_method_11_code (4 : Nat) (Option.some Jvm.ClassFile.FieldType.int)) ∈ am_tb := am_m5 149 rfl rfl
theorem wd_1233 : (Jvm.Cond.methodLink "SnorePlayLaw" (110 : Nat) ({ cls := "SnorePlay", name := "heardOf", desc := "()I" } : Jvm.MethodName)) ∈ am_tb := am_m5 150 rfl rfl
theorem wd_1234 : (Jvm.Cond.instanceMethod ({ cls := "SnorePlay", name := "heardOf", desc := "()I" } : Jvm.MethodName)) ∈ am_tb := am_m5 151 rfl rfl
theorem wd_1235 : (Jvm.Cond.selects "SnorePlay" ({ cls := "SnorePlay", name := "heardOf", desc := "()I" } : Jvm.MethodName) ({ cls := "SnorePlay", name := "heardOf", desc := "()I" } : Jvm.MethodName)) ∈ am_tb := am_m5 152 rfl rfl
theorem wd_1236 : (Jvm.Cond.code ({ cls := "SnorePlay", name := "heardOf", desc := "()I" } : Jvm.MethodName) prog_1_method_31_code (1 : Nat) (Option.some Jvm.ClassFile.FieldType.int)) ∈ am_tb := am_m5 153 rfl rfl
theorem wd_1237 : (Jvm.Cond.methodLink "SnorePlay" (283 : Nat) ({ cls := "SnorePlay$Search", name := "snorers", desc := "()I" } : Jvm.MethodName)) ∈ am_tb := am_m5 154 rfl rfl
theorem wd_1238 : (Jvm.Cond.instanceMethod ({ cls := "SnorePlay$Search", name := "snorers", desc := "()I" } : Jvm.MethodName)) ∈ am_tb := am_m5 155 rfl rfl
theorem wd_1239 : (Jvm.Cond.selects "SnorePlay$Search" ({ cls := "SnorePlay$Search", name := "snorers", desc := "()I" } : Jvm.MethodName) ({ cls := "SnorePlay$Search", name := "snorers", desc := "()I" } : Jvm.MethodName)) ∈ am_tb := am_m5 156 rfl rfl
theorem wd_1240 : (Jvm.Cond.code ({ cls := "SnorePlay$Search", name := "snorers", desc := "()I" } : Jvm.MethodName) prog_8_method_12_code (5 : Nat) (Option.some Jvm.ClassFile.FieldType.int)) ∈ am_tb := am_m5 157 rfl rfl
theorem wd_1241 : (Jvm.Cond.methodLink "SnorePlay$Search" (93 : Nat) ({ cls := "SnorePlay$Graph", name := "lastOf", desc := "(I)I" } : Jvm.MethodName)) ∈ am_tb := am_m5 158 rfl rfl
theorem wd_1242 : (Jvm.Cond.methodLink "SnorePlayLaw" (114 : Nat) ({ cls := "SnorePlay", name := "placing", desc := "(I)I" } : Jvm.MethodName)) ∈ am_tb := am_m5 159 rfl rfl
theorem wd_1243 : (Jvm.Cond.instanceMethod ({ cls := "SnorePlay", name := "placing", desc := "(I)I" } : Jvm.MethodName)) ∈ am_tb := am_m5 160 rfl rfl
theorem wd_1244 : (Jvm.Cond.selects "SnorePlay" ({ cls := "SnorePlay", name := "placing", desc := "(I)I" } : Jvm.MethodName) ({ cls := "SnorePlay", name := "placing", desc := "(I)I" } : Jvm.MethodName)) ∈ am_tb := am_m5 161 rfl rfl
theorem wd_1245 : (Jvm.Cond.code ({ cls := "SnorePlay", name := "placing", desc := "(I)I" } : Jvm.MethodName) prog_1_method_32_code (2 : Nat) (Option.some Jvm.ClassFile.FieldType.int)) ∈ am_tb := am_m5 162 rfl rfl
theorem wd_1246 : (Jvm.Cond.methodLink "SnorePlay" (286 : Nat) ({ cls := "SnorePlay$Placer", name := "place", desc := "(LSnorePlay$Play;)V" } : Jvm.MethodName)) ∈ am_tb := am_m5 163 rfl rfl
theorem wd_1247 : (Jvm.Cond.instanceMethod ({ cls := "SnorePlay$Placer", name := "place", desc := "(LSnorePlay$Play;)V" } : Jvm.MethodName)) ∈ am_tb := am_m5 164 rfl rfl
theorem wd_1248 : (Jvm.Cond.selects "SnorePlay$Placer" ({ cls := "SnorePlay$Placer", name := "place", desc := "(LSnorePlay$Play;)V" } : Jvm.MethodName) ({ cls := "SnorePlay$Placer", name := "place", desc := "(LSnorePlay$Play;)V" } : Jvm.MethodName)) ∈ am_tb := am_m5 165 rfl rfl
theorem wd_1249 : (Jvm.Cond.code ({ cls := "SnorePlay$Placer", name := "place", desc := "(LSnorePlay$Play;)V" } : Jvm.MethodName) prog_5_method_2_code (5 : Nat) (Option.none : Option Jvm.ClassFile.FieldType)) ∈ am_tb := am_m5 166 rfl rfl
theorem wd_1250 : (Jvm.Cond.methodLink "SnorePlay$Placer" (39 : Nat) ({ cls := "SnorePlay$Play", name := "setting", desc := "()J" } : Jvm.MethodName)) ∈ am_tb := am_m5 167 rfl rfl
theorem wd_1251 : (Jvm.Cond.methodLink "SnorePlay$Placer" (45 : Nat) ({ cls := "SnorePlay$Play", name := "node", desc := "()I" } : Jvm.MethodName)) ∈ am_tb := am_m5 168 rfl rfl
theorem wd_1252 : (Jvm.Cond.methodLink "SnorePlay$Placer" (49 : Nat) ({ cls := "SnorePlay$Placer", name := "sortBeds", desc := "(LSnorePlay$Play;)V" } : Jvm.MethodName)) ∈ am_tb := am_m5 169 rfl rfl
theorem wd_1254 : (Jvm.Cond.instanceMethod ({ cls := "SnorePlay$Placer", name := "sortBeds", desc := "(LSnorePlay$Play;)V" } : Jvm.MethodName)) ∈ am_tb := am_m5 171 rfl rfl
theorem wd_1255 : (Jvm.Cond.code ({ cls := "SnorePlay$Placer", name := "sortBeds", desc := "(LSnorePlay$Play;)V" } : Jvm.MethodName) prog_5_method_3_code (5 : Nat) (Option.none : Option Jvm.ClassFile.FieldType)) ∈ am_tb := am_m5 172 rfl rfl
theorem wd_1256 : (Jvm.Cond.methodLink "SnorePlay$Placer" (53 : Nat) ({ cls := "SnorePlay$Play", name := "takeFrom", desc := "(LSnorePlay$Play;)V" } : Jvm.MethodName)) ∈ am_tb := am_m5 173 rfl rfl
theorem wd_1257 : (Jvm.Cond.methodLink "SnorePlay$Placer" (68 : Nat) ({ cls := "java/lang/System", name := "arraycopy", desc := "(Ljava/lang/Object;ILjava/lang/Object;II)V" } : Jvm.MethodName)) ∈ am_tb := am_m5 174 rfl rfl
theorem wd_1258 : (Jvm.Cond.methodLink "SnorePlay$Placer" (74 : Nat) ({ cls := "SnorePlay$Stage", name := "endsIn", desc := "(LSnorePlay$Play;I)I" } : Jvm.MethodName)) ∈ am_tb := am_m5 175 rfl rfl
theorem wd_1259 : (Jvm.Cond.instanceMethod ({ cls := "SnorePlay$Stage", name := "endsIn", desc := "(LSnorePlay$Play;I)I" } : Jvm.MethodName)) ∈ am_tb := am_m5 176 rfl rfl
theorem wd_1260 : (Jvm.Cond.selects "SnorePlay$Stage" ({ cls := "SnorePlay$Stage", name := "endsIn", desc := "(LSnorePlay$Play;I)I" } : Jvm.MethodName) ({ cls := "SnorePlay$Stage", name := "endsIn", desc := "(LSnorePlay$Play;I)I" } : Jvm.MethodName)) ∈ am_tb := am_m5 177 rfl rfl
theorem wd_1261 : (Jvm.Cond.code ({ cls := "SnorePlay$Stage", name := "endsIn", desc := "(LSnorePlay$Play;I)I" } : Jvm.MethodName) prog_9_method_13_code (5 : Nat) (Option.some Jvm.ClassFile.FieldType.int)) ∈ am_tb := am_m5 178 rfl rfl
theorem wd_1262 : (Jvm.Cond.methodLink "SnorePlay$Stage" (156 : Nat) ({ cls := "SnorePlay$Play", name := "hasEnded", desc := "()Z" } : Jvm.MethodName)) ∈ am_tb := am_m5 179 rfl rfl
theorem wd_1263 : (Jvm.Cond.methodLink "SnorePlay$Stage" (159 : Nat) ({ cls := "SnorePlay$Play", name := "node", desc := "()I" } : Jvm.MethodName)) ∈ am_tb := am_m5 180 rfl rfl
theorem wd_1264 : (Jvm.Cond.methodLink "SnorePlay$Placer" (80 : Nat) ({ cls := "SnorePlay$Placer", name := "nextOrder", desc := "(I)Z" } : Jvm.MethodName)) ∈ am_tb := am_m5 181 rfl rfl
theorem wd_1266 : (Jvm.Cond.instanceMethod ({ cls := "SnorePlay$Placer", name := "nextOrder", desc := "(I)Z" } : Jvm.MethodName)) ∈ am_tb := am_m5 183 rfl rfl
theorem wd_1267 : (Jvm.Cond.code ({ cls := "SnorePlay$Placer", name := "nextOrder", desc := "(I)Z" } : Jvm.MethodName) prog_5_method_4_code (6 : Nat) (Option.some Jvm.ClassFile.FieldType.boolean)) ∈ am_tb := am_m5 184 rfl rfl
theorem wd_1268 : (Jvm.Cond.methodLink "SnorePlay$Placer" (87 : Nat) ({ cls := "SnorePlay$Placer", name := "swap", desc := "(II)V" } : Jvm.MethodName)) ∈ am_tb := am_m5 185 rfl rfl
theorem wd_1270 : (Jvm.Cond.instanceMethod ({ cls := "SnorePlay$Placer", name := "swap", desc := "(II)V" } : Jvm.MethodName)) ∈ am_tb := am_m5 187 rfl rfl
theorem wd_1271 : (Jvm.Cond.code ({ cls := "SnorePlay$Placer", name := "swap", desc := "(II)V" } : Jvm.MethodName) prog_5_method_5_code (4 : Nat) (Option.none : Option Jvm.ClassFile.FieldType)) ∈ am_tb := am_m5 188 rfl rfl
theorem wd_1272 : (Jvm.Cond.methodLink "SnorePlayLaw" (118 : Nat) ({ cls := "SnorePlay", name := "fills", desc := "(I)I" } : Jvm.MethodName)) ∈ am_tb := am_m5 189 rfl rfl
theorem wd_1273 : (Jvm.Cond.instanceMethod ({ cls := "SnorePlay", name := "fills", desc := "(I)I" } : Jvm.MethodName)) ∈ am_tb := am_m5 190 rfl rfl
theorem wd_1274 : (Jvm.Cond.selects "SnorePlay" ({ cls := "SnorePlay", name := "fills", desc := "(I)I" } : Jvm.MethodName) ({ cls := "SnorePlay", name := "fills", desc := "(I)I" } : Jvm.MethodName)) ∈ am_tb := am_m5 191 rfl rfl
theorem wd_1275 : (Jvm.Cond.code ({ cls := "SnorePlay", name := "fills", desc := "(I)I" } : Jvm.MethodName) prog_1_method_33_code (4 : Nat) (Option.some Jvm.ClassFile.FieldType.int)) ∈ am_tb := am_m5 192 rfl rfl
theorem wd_1276 : (Jvm.Cond.methodLink "SnorePlay" (294 : Nat) ({ cls := "SnorePlay$Stage", name := "endsIn", desc := "(LSnorePlay$Play;I)I" } : Jvm.MethodName)) ∈ am_tb := am_m5 193 rfl rfl
theorem wd_1277 : (Jvm.Cond.methodLink "SnorePlayLaw" (122 : Nat) ({ cls := "SnorePlay", name := "heard", desc := "(I)J" } : Jvm.MethodName)) ∈ am_tb := am_m5 194 rfl rfl
theorem wd_1278 : (Jvm.Cond.instanceMethod ({ cls := "SnorePlay", name := "heard", desc := "(I)J" } : Jvm.MethodName)) ∈ am_tb := am_m5 195 rfl rfl
theorem wd_1279 : (Jvm.Cond.selects "SnorePlay" ({ cls := "SnorePlay", name := "heard", desc := "(I)J" } : Jvm.MethodName) ({ cls := "SnorePlay", name := "heard", desc := "(I)J" } : Jvm.MethodName)) ∈ am_tb := am_m5 196 rfl rfl
theorem wd_1280 : (Jvm.Cond.code ({ cls := "SnorePlay", name := "heard", desc := "(I)J" } : Jvm.MethodName) prog_1_method_34_code (3 : Nat) (Option.some Jvm.ClassFile.FieldType.long)) ∈ am_tb := am_m5 197 rfl rfl
theorem wd_1281 : (Jvm.Cond.methodLink "SnorePlay" (297 : Nat) ({ cls := "SnorePlay", name := "heardRefusal", desc := "(I)I" } : Jvm.MethodName)) ∈ am_tb := am_m5 198 rfl rfl
theorem wd_1283 : (Jvm.Cond.instanceMethod ({ cls := "SnorePlay", name := "heardRefusal", desc := "(I)I" } : Jvm.MethodName)) ∈ am_tb := am_m5 200 rfl rfl
theorem wd_1284 : (Jvm.Cond.code ({ cls := "SnorePlay", name := "heardRefusal", desc := "(I)I" } : Jvm.MethodName) prog_1_method_39_code (3 : Nat) (Option.some Jvm.ClassFile.FieldType.int)) ∈ am_tb := am_m5 201 rfl rfl
theorem wd_1285 : (Jvm.Cond.methodLink "SnorePlay" (335 : Nat) ({ cls := "SnorePlay$Tray", name := "rowRefusal", desc := "(II)I" } : Jvm.MethodName)) ∈ am_tb := am_m5 202 rfl rfl
theorem wd_1286 : (Jvm.Cond.instanceMethod ({ cls := "SnorePlay$Tray", name := "rowRefusal", desc := "(II)I" } : Jvm.MethodName)) ∈ am_tb := am_m5 203 rfl rfl
theorem wd_1287 : (Jvm.Cond.selects "SnorePlay$Tray" ({ cls := "SnorePlay$Tray", name := "rowRefusal", desc := "(II)I" } : Jvm.MethodName) ({ cls := "SnorePlay$Tray", name := "rowRefusal", desc := "(II)I" } : Jvm.MethodName)) ∈ am_tb := am_m5 204 rfl rfl
theorem wd_1288 : (Jvm.Cond.code ({ cls := "SnorePlay$Tray", name := "rowRefusal", desc := "(II)I" } : Jvm.MethodName) prog_12_method_4_code (4 : Nat) (Option.some Jvm.ClassFile.FieldType.int)) ∈ am_tb := am_m5 205 rfl rfl
theorem wd_1289 : (Jvm.Cond.methodLink "SnorePlay" (300 : Nat) ({ cls := "SnorePlay$Tally", name := "listen", desc := "(LSnorePlay$Tray;)V" } : Jvm.MethodName)) ∈ am_tb := am_m5 206 rfl rfl
theorem wd_1290 : (Jvm.Cond.instanceMethod ({ cls := "SnorePlay$Tally", name := "listen", desc := "(LSnorePlay$Tray;)V" } : Jvm.MethodName)) ∈ am_tb := am_m5 207 rfl rfl
theorem wd_1291 : (Jvm.Cond.selects "SnorePlay$Tally" ({ cls := "SnorePlay$Tally", name := "listen", desc := "(LSnorePlay$Tray;)V" } : Jvm.MethodName) ({ cls := "SnorePlay$Tally", name := "listen", desc := "(LSnorePlay$Tray;)V" } : Jvm.MethodName)) ∈ am_tb := am_m5 208 rfl rfl
theorem wd_1292 : (Jvm.Cond.code ({ cls := "SnorePlay$Tally", name := "listen", desc := "(LSnorePlay$Tray;)V" } : Jvm.MethodName) prog_10_method_12_code (4 : Nat) (Option.none : Option Jvm.ClassFile.FieldType)) ∈ am_tb := am_m5 209 rfl rfl
theorem wd_1293 : (Jvm.Cond.methodLink "SnorePlay$Tally" (82 : Nat) ({ cls := "java/util/Arrays", name := "fill", desc := "([II)V" } : Jvm.MethodName)) ∈ am_tb := am_m5 210 rfl rfl
theorem wd_1294 : (Jvm.Cond.methodLink "SnorePlay$Tally" (90 : Nat) ({ cls := "SnorePlay$Tally", name := "isMet", desc := "(II)Z" } : Jvm.MethodName)) ∈ am_tb := am_m5 211 rfl rfl
theorem wd_1296 : (Jvm.Cond.instanceMethod ({ cls := "SnorePlay$Tally", name := "isMet", desc := "(II)Z" } : Jvm.MethodName)) ∈ am_tb := am_m5 213 rfl rfl
theorem wd_1297 : (Jvm.Cond.code ({ cls := "SnorePlay$Tally", name := "isMet", desc := "(II)Z" } : Jvm.MethodName) prog_10_method_11_code (3 : Nat) (Option.some Jvm.ClassFile.FieldType.boolean)) ∈ am_tb := am_m5 214 rfl rfl
theorem wd_1298 : (Jvm.Cond.methodLink "SnorePlay$Tally" (97 : Nat) ({ cls := "SnorePlay$Tally", name := "meetFrom", desc := "(IIJ)V" } : Jvm.MethodName)) ∈ am_tb := am_m5 215 rfl rfl
theorem wd_1300 : (Jvm.Cond.instanceMethod ({ cls := "SnorePlay$Tally", name := "meetFrom", desc := "(IIJ)V" } : Jvm.MethodName)) ∈ am_tb := am_m5 217 rfl rfl
theorem wd_1301 : (Jvm.Cond.code ({ cls := "SnorePlay$Tally", name := "meetFrom", desc := "(IIJ)V" } : Jvm.MethodName) prog_10_method_13_code (7 : Nat) (Option.none : Option Jvm.ClassFile.FieldType)) ∈ am_tb := am_m5 218 rfl rfl
theorem wd_1302 : (Jvm.Cond.methodLink "SnorePlay$Tally" (110 : Nat) ({ cls := "SnorePlay$Tally", name := "fits", desc := "(IJ)Z" } : Jvm.MethodName)) ∈ am_tb := am_m5 219 rfl rfl
theorem wd_1304 : (Jvm.Cond.instanceMethod ({ cls := "SnorePlay$Tally", name := "fits", desc := "(IJ)Z" } : Jvm.MethodName)) ∈ am_tb := am_m5 221 rfl rfl
theorem wd_1305 : (Jvm.Cond.code ({ cls := "SnorePlay$Tally", name := "fits", desc := "(IJ)Z" } : Jvm.MethodName) prog_10_method_10_code (4 : Nat) (Option.some Jvm.ClassFile.FieldType.boolean)) ∈ am_tb := am_m5 222 rfl rfl
theorem wd_1306 : (Jvm.Cond.constantLong "SnorePlay$Tally" (77 : Nat) (-1 : Int64)) ∈ am_tb := am_m5 223 rfl rfl
theorem wd_1307 : (Jvm.Cond.methodLink "SnorePlay$Tally" (79 : Nat) ({ cls := "SnorePlay$Graph", name := "soundOf", desc := "(I)I" } : Jvm.MethodName)) ∈ am_tb := am_m5 224 rfl rfl
theorem wd_1308 : (Jvm.Cond.instanceMethod ({ cls := "SnorePlay$Graph", name := "soundOf", desc := "(I)I" } : Jvm.MethodName)) ∈ am_tb := am_m5 225 rfl rfl
theorem wd_1309 : (Jvm.Cond.selects "SnorePlay$Graph" ({ cls := "SnorePlay$Graph", name := "soundOf", desc := "(I)I" } : Jvm.MethodName) ({ cls := "SnorePlay$Graph", name := "soundOf", desc := "(I)I" } : Jvm.MethodName)) ∈ am_tb := am_m5 226 rfl rfl
theorem wd_1310 : (Jvm.Cond.code ({ cls := "SnorePlay$Graph", name := "soundOf", desc := "(I)I" } : Jvm.MethodName) prog_2_method_10_code (2 : Nat) (Option.some Jvm.ClassFile.FieldType.int)) ∈ am_tb := am_m5 227 rfl rfl
theorem wd_1311 : (Jvm.Cond.methodLink "SnorePlay$Tally" (101 : Nat) ({ cls := "java/lang/Math", name := "min", desc := "(II)I" } : Jvm.MethodName)) ∈ am_tb := am_m5 228 rfl rfl
theorem wd_1312 : (Jvm.Cond.methodLink "SnorePlay$Tally" (106 : Nat) ({ cls := "SnorePlay$Tally", name := "fittingFrom", desc := "(IIJ)J" } : Jvm.MethodName)) ∈ am_tb := am_m5 229 rfl rfl
theorem wd_1314 : (Jvm.Cond.instanceMethod ({ cls := "SnorePlay$Tally", name := "fittingFrom", desc := "(IIJ)J" } : Jvm.MethodName)) ∈ am_tb := am_m5 231 rfl rfl
theorem wd_1315 : (Jvm.Cond.code ({ cls := "SnorePlay$Tally", name := "fittingFrom", desc := "(IIJ)J" } : Jvm.MethodName) prog_10_method_14_code (8 : Nat) (Option.some Jvm.ClassFile.FieldType.long)) ∈ am_tb := am_m5 232 rfl rfl
theorem wd_1316 : (Jvm.Cond.methodLink "SnorePlay$Tally" (114 : Nat) ({ cls := "SnorePlay$Tally", name := "fittingBehind", desc := "(IIJ)J" } : Jvm.MethodName)) ∈ am_tb := am_m5 233 rfl rfl
theorem wd_1318 : (Jvm.Cond.instanceMethod ({ cls := "SnorePlay$Tally", name := "fittingBehind", desc := "(IIJ)J" } : Jvm.MethodName)) ∈ am_tb := am_m5 235 rfl rfl
theorem wd_1319 : (Jvm.Cond.code ({ cls := "SnorePlay$Tally", name := "fittingBehind", desc := "(IIJ)J" } : Jvm.MethodName) prog_10_method_15_code (5 : Nat) (Option.some Jvm.ClassFile.FieldType.long)) ∈ am_tb := am_m5 236 rfl rfl
theorem wd_1320 : (Jvm.Cond.methodLink "SnorePlay" (304 : Nat) ({ cls := "SnorePlay$Tally", name := "heardRows", desc := "()J" } : Jvm.MethodName)) ∈ am_tb := am_m5 237 rfl rfl
theorem wd_1321 : (Jvm.Cond.instanceMethod ({ cls := "SnorePlay$Tally", name := "heardRows", desc := "()J" } : Jvm.MethodName)) ∈ am_tb := am_m5 238 rfl rfl
theorem wd_1322 : (Jvm.Cond.selects "SnorePlay$Tally" ({ cls := "SnorePlay$Tally", name := "heardRows", desc := "()J" } : Jvm.MethodName) ({ cls := "SnorePlay$Tally", name := "heardRows", desc := "()J" } : Jvm.MethodName)) ∈ am_tb := am_m5 239 rfl rfl
theorem wd_1323 : (Jvm.Cond.code ({ cls := "SnorePlay$Tally", name := "heardRows", desc := "()J" } : Jvm.MethodName) prog_10_method_16_code (1 : Nat) (Option.some Jvm.ClassFile.FieldType.long)) ∈ am_tb := am_m6 0 rfl rfl
theorem wd_1324 : (Jvm.Cond.methodLink "SnorePlayLaw" (127 : Nat) ({ cls := "SnorePlay", name := "heardBy", desc := "(II)I" } : Jvm.MethodName)) ∈ am_tb := am_m6 1 rfl rfl
theorem wd_1325 : (Jvm.Cond.instanceMethod ({ cls := "SnorePlay", name := "heardBy", desc := "(II)I" } : Jvm.MethodName)) ∈ am_tb := am_m6 2 rfl rfl
theorem wd_1326 : (Jvm.Cond.selects "SnorePlay" ({ cls := "SnorePlay", name := "heardBy", desc := "(II)I" } : Jvm.MethodName) ({ cls := "SnorePlay", name := "heardBy", desc := "(II)I" } : Jvm.MethodName)) ∈ am_tb := am_m6 3 rfl rfl
theorem wd_1327 : (Jvm.Cond.code ({ cls := "SnorePlay", name := "heardBy", desc := "(II)I" } : Jvm.MethodName) prog_1_method_35_code (4 : Nat) (Option.some Jvm.ClassFile.FieldType.int)) ∈ am_tb := am_m6 4 rfl rfl
theorem wd_1328 : (Jvm.Cond.methodLink "SnorePlay" (308 : Nat) ({ cls := "SnorePlay$Tally", name := "firstHeardDeed", desc := "(LSnorePlay$Tray;I)I" } : Jvm.MethodName)) ∈ am_tb := am_m6 5 rfl rfl
theorem wd_1329 : (Jvm.Cond.instanceMethod ({ cls := "SnorePlay$Tally", name := "firstHeardDeed", desc := "(LSnorePlay$Tray;I)I" } : Jvm.MethodName)) ∈ am_tb := am_m6 6 rfl rfl
theorem wd_1330 : (Jvm.Cond.selects "SnorePlay$Tally" ({ cls := "SnorePlay$Tally", name := "firstHeardDeed", desc := "(LSnorePlay$Tray;I)I" } : Jvm.MethodName) ({ cls := "SnorePlay$Tally", name := "firstHeardDeed", desc := "(LSnorePlay$Tray;I)I" } : Jvm.MethodName)) ∈ am_tb := am_m6 7 rfl rfl
theorem wd_1331 : (Jvm.Cond.code ({ cls := "SnorePlay$Tally", name := "firstHeardDeed", desc := "(LSnorePlay$Tray;I)I" } : Jvm.MethodName) prog_10_method_17_code (5 : Nat) (Option.some Jvm.ClassFile.FieldType.int)) ∈ am_tb := am_m6 8 rfl rfl
theorem wd_1332 : (Jvm.Cond.methodLink "SnorePlay$Tally" (117 : Nat) ({ cls := "SnorePlay$Tally", name := "heardRows", desc := "()J" } : Jvm.MethodName)) ∈ am_tb := am_m6 9 rfl rfl
theorem wd_1333 : (Jvm.Cond.methodLink "SnorePlay$Tally" (121 : Nat) ({ cls := "SnorePlay$Tally", name := "fittingDeed", desc := "(IIJ)I" } : Jvm.MethodName)) ∈ am_tb := am_m6 10 rfl rfl
theorem wd_1335 : (Jvm.Cond.instanceMethod ({ cls := "SnorePlay$Tally", name := "fittingDeed", desc := "(IIJ)I" } : Jvm.MethodName)) ∈ am_tb := am_m6 12 rfl rfl
theorem wd_1336 : (Jvm.Cond.code ({ cls := "SnorePlay$Tally", name := "fittingDeed", desc := "(IIJ)I" } : Jvm.MethodName) prog_10_method_18_code (6 : Nat) (Option.some Jvm.ClassFile.FieldType.int)) ∈ am_tb := am_m6 13 rfl rfl
theorem wd_1337 : (Jvm.Cond.methodLink "SnorePlayLaw" (131 : Nat) ({ cls := "SnorePlay", name := "suspects", desc := "(II)I" } : Jvm.MethodName)) ∈ am_tb := am_m6 14 rfl rfl
theorem wd_1338 : (Jvm.Cond.instanceMethod ({ cls := "SnorePlay", name := "suspects", desc := "(II)I" } : Jvm.MethodName)) ∈ am_tb := am_m6 15 rfl rfl
theorem wd_1339 : (Jvm.Cond.selects "SnorePlay" ({ cls := "SnorePlay", name := "suspects", desc := "(II)I" } : Jvm.MethodName) ({ cls := "SnorePlay", name := "suspects", desc := "(II)I" } : Jvm.MethodName)) ∈ am_tb := am_m6 16 rfl rfl
theorem wd_1340 : (Jvm.Cond.code ({ cls := "SnorePlay", name := "suspects", desc := "(II)I" } : Jvm.MethodName) prog_1_method_36_code (4 : Nat) (Option.some Jvm.ClassFile.FieldType.int)) ∈ am_tb := am_m6 17 rfl rfl
theorem wd_1341 : (Jvm.Cond.methodLink "SnorePlay" (312 : Nat) ({ cls := "SnorePlay$Tally", name := "heardSnorers", desc := "(LSnorePlay$Tray;I)I" } : Jvm.MethodName)) ∈ am_tb := am_m6 18 rfl rfl
theorem wd_1342 : (Jvm.Cond.instanceMethod ({ cls := "SnorePlay$Tally", name := "heardSnorers", desc := "(LSnorePlay$Tray;I)I" } : Jvm.MethodName)) ∈ am_tb := am_m6 19 rfl rfl
theorem wd_1343 : (Jvm.Cond.selects "SnorePlay$Tally" ({ cls := "SnorePlay$Tally", name := "heardSnorers", desc := "(LSnorePlay$Tray;I)I" } : Jvm.MethodName) ({ cls := "SnorePlay$Tally", name := "heardSnorers", desc := "(LSnorePlay$Tray;I)I" } : Jvm.MethodName)) ∈ am_tb := am_m6 20 rfl rfl
theorem wd_1344 : (Jvm.Cond.code ({ cls := "SnorePlay$Tally", name := "heardSnorers", desc := "(LSnorePlay$Tray;I)I" } : Jvm.MethodName) prog_10_method_19_code (7 : Nat) (Option.some Jvm.ClassFile.FieldType.int)) ∈ am_tb := am_m6 21 rfl rfl
theorem wd_1345 : (Jvm.Cond.methodLink "SnorePlay$Tally" (125 : Nat) ({ cls := "SnorePlay$Graph", name := "lastOf", desc := "(I)I" } : Jvm.MethodName)) ∈ am_tb := am_m6 22 rfl rfl
theorem wd_1346 : (Jvm.Cond.methodLink "SnorePlayLaw" (135 : Nat) ({ cls := "SnorePlay", name := "hushes", desc := "(I)I" } : Jvm.MethodName)) ∈ am_tb := am_m6 23 rfl rfl
theorem wd_1347 : (Jvm.Cond.instanceMethod ({ cls := "SnorePlay", name := "hushes", desc := "(I)I" } : Jvm.MethodName)) ∈ am_tb := am_m6 24 rfl rfl
theorem wd_1348 : (Jvm.Cond.selects "SnorePlay" ({ cls := "SnorePlay", name := "hushes", desc := "(I)I" } : Jvm.MethodName) ({ cls := "SnorePlay", name := "hushes", desc := "(I)I" } : Jvm.MethodName)) ∈ am_tb := am_m6 25 rfl rfl
theorem wd_1349 : (Jvm.Cond.code ({ cls := "SnorePlay", name := "hushes", desc := "(I)I" } : Jvm.MethodName) prog_1_method_37_code (3 : Nat) (Option.some Jvm.ClassFile.FieldType.int)) ∈ am_tb := am_m6 26 rfl rfl
theorem wd_1350 : (Jvm.Cond.methodLink "SnorePlay" (315 : Nat) ({ cls := "SnorePlay", name := "saidRefusal", desc := "(I)I" } : Jvm.MethodName)) ∈ am_tb := am_m6 27 rfl rfl
theorem wd_1352 : (Jvm.Cond.instanceMethod ({ cls := "SnorePlay", name := "saidRefusal", desc := "(I)I" } : Jvm.MethodName)) ∈ am_tb := am_m6 29 rfl rfl
theorem wd_1353 : (Jvm.Cond.code ({ cls := "SnorePlay", name := "saidRefusal", desc := "(I)I" } : Jvm.MethodName) prog_1_method_40_code (3 : Nat) (Option.some Jvm.ClassFile.FieldType.int)) ∈ am_tb := am_m6 30 rfl rfl
theorem wd_1354 : (Jvm.Cond.methodLink "SnorePlay" (318 : Nat) ({ cls := "SnorePlay", name := "hushesBy", desc := "(LSnorePlay$Tray;)I" } : Jvm.MethodName)) ∈ am_tb := am_m6 31 rfl rfl
theorem wd_1356 : (Jvm.Cond.instanceMethod ({ cls := "SnorePlay", name := "hushesBy", desc := "(LSnorePlay$Tray;)I" } : Jvm.MethodName)) ∈ am_tb := am_m6 33 rfl rfl
theorem wd_1357 : (Jvm.Cond.code ({ cls := "SnorePlay", name := "hushesBy", desc := "(LSnorePlay$Tray;)I" } : Jvm.MethodName) prog_1_method_41_code (5 : Nat) (Option.some Jvm.ClassFile.FieldType.int)) ∈ am_tb := am_m6 34 rfl rfl
theorem wd_1358 : (Jvm.Cond.methodLink "SnorePlayLaw" (139 : Nat) ({ cls := "SnorePlay", name := "attempt", desc := "(I)I" } : Jvm.MethodName)) ∈ am_tb := am_m6 35 rfl rfl
theorem wd_1359 : (Jvm.Cond.instanceMethod ({ cls := "SnorePlay", name := "attempt", desc := "(I)I" } : Jvm.MethodName)) ∈ am_tb := am_m6 36 rfl rfl
theorem wd_1360 : (Jvm.Cond.selects "SnorePlay" ({ cls := "SnorePlay", name := "attempt", desc := "(I)I" } : Jvm.MethodName) ({ cls := "SnorePlay", name := "attempt", desc := "(I)I" } : Jvm.MethodName)) ∈ am_tb := am_m6 37 rfl rfl
theorem wd_1361 : (Jvm.Cond.code ({ cls := "SnorePlay", name := "attempt", desc := "(I)I" } : Jvm.MethodName) prog_1_method_38_code (8 : Nat) (Option.some Jvm.ClassFile.FieldType.int)) ∈ am_tb := am_m6 38 rfl rfl
theorem wd_1362 : (Jvm.Cond.methodLink "SnorePlay" (322 : Nat) ({ cls := "SnorePlay", name := "largestGroup", desc := "(II)I" } : Jvm.MethodName)) ∈ am_tb := am_m6 39 rfl rfl
theorem wd_1364 : (Jvm.Cond.instanceMethod ({ cls := "SnorePlay", name := "largestGroup", desc := "(II)I" } : Jvm.MethodName)) ∈ am_tb := am_m6 41 rfl rfl
theorem wd_1365 : (Jvm.Cond.code ({ cls := "SnorePlay", name := "largestGroup", desc := "(II)I" } : Jvm.MethodName) prog_1_method_42_code (7 : Nat) (Option.some Jvm.ClassFile.FieldType.int)) ∈ am_tb := am_m6 42 rfl rfl
theorem wd_1366 : (Jvm.Cond.methodLink "SnorePlay" (338 : Nat) ({ cls := "java/util/Arrays", name := "fill", desc := "([II)V" } : Jvm.MethodName)) ∈ am_tb := am_m6 43 rfl rfl
theorem wd_1367 : (Jvm.Cond.methodLink "SnorePlay" (344 : Nat) ({ cls := "java/lang/Math", name := "max", desc := "(II)I" } : Jvm.MethodName)) ∈ am_tb := am_m6 44 rfl rfl
theorem wd_1368 : (Jvm.Cond.methodLink "SnorePlayLaw" (143 : Nat) ({ cls := "SnorePlay", name := "forces", desc := "()I" } : Jvm.MethodName)) ∈ am_tb := am_m6 45 rfl rfl
theorem wd_1369 : (Jvm.Cond.instanceMethod ({ cls := "SnorePlay", name := "forces", desc := "()I" } : Jvm.MethodName)) ∈ am_tb := am_m6 46 rfl rfl
theorem wd_1370 : (Jvm.Cond.selects "SnorePlay" ({ cls := "SnorePlay", name := "forces", desc := "()I" } : Jvm.MethodName) ({ cls := "SnorePlay", name := "forces", desc := "()I" } : Jvm.MethodName)) ∈ am_tb := am_m6 47 rfl rfl
theorem wd_1371 : (Jvm.Cond.code ({ cls := "SnorePlay", name := "forces", desc := "()I" } : Jvm.MethodName) prog_1_method_43_code (1 : Nat) (Option.some Jvm.ClassFile.FieldType.int)) ∈ am_tb := am_m6 48 rfl rfl
theorem wd_1372 : (Jvm.Cond.methodLink "SnorePlay" (347 : Nat) ({ cls := "SnorePlay$Search", name := "forcedIn", desc := "()I" } : Jvm.MethodName)) ∈ am_tb := am_m6 49 rfl rfl
theorem wd_1373 : (Jvm.Cond.instanceMethod ({ cls := "SnorePlay$Search", name := "forcedIn", desc := "()I" } : Jvm.MethodName)) ∈ am_tb := am_m6 50 rfl rfl
theorem wd_1374 : (Jvm.Cond.selects "SnorePlay$Search" ({ cls := "SnorePlay$Search", name := "forcedIn", desc := "()I" } : Jvm.MethodName) ({ cls := "SnorePlay$Search", name := "forcedIn", desc := "()I" } : Jvm.MethodName)) ∈ am_tb := am_m6 51 rfl rfl
theorem wd_1375 : (Jvm.Cond.code ({ cls := "SnorePlay$Search", name := "forcedIn", desc := "()I" } : Jvm.MethodName) prog_8_method_13_code (4 : Nat) (Option.some Jvm.ClassFile.FieldType.int)) ∈ am_tb := am_m6 52 rfl rfl
theorem wd_1376 : (Jvm.Cond.methodLink "SnorePlay$Search" (96 : Nat) ({ cls := "SnorePlay$Search", name := "forceWithin", desc := "(II)Z" } : Jvm.MethodName)) ∈ am_tb := am_m6 53 rfl rfl
theorem wd_1378 : (Jvm.Cond.instanceMethod ({ cls := "SnorePlay$Search", name := "forceWithin", desc := "(II)Z" } : Jvm.MethodName)) ∈ am_tb := am_m6 55 rfl rfl
theorem wd_1379 : (Jvm.Cond.code ({ cls := "SnorePlay$Search", name := "forceWithin", desc := "(II)Z" } : Jvm.MethodName) prog_8_method_14_code (4 : Nat) (Option.some Jvm.ClassFile.FieldType.boolean)) ∈ am_tb := am_m6 56 rfl rfl
theorem wd_1380 : (Jvm.Cond.methodLink "SnorePlay$Search" (99 : Nat) ({ cls := "SnorePlay$Search", name := "allLeadBelow", desc := "(II)Z" } : Jvm.MethodName)) ∈ am_tb := am_m6 57 rfl rfl
theorem wd_1382 : (Jvm.Cond.instanceMethod ({ cls := "SnorePlay$Search", name := "allLeadBelow", desc := "(II)Z" } : Jvm.MethodName)) ∈ am_tb := am_m6 59 rfl rfl
theorem wd_1383 : (Jvm.Cond.code ({ cls := "SnorePlay$Search", name := "allLeadBelow", desc := "(II)Z" } : Jvm.MethodName) prog_8_method_15_code (5 : Nat) (Option.some Jvm.ClassFile.FieldType.boolean)) ∈ am_tb := am_m6 60 rfl rfl
theorem wd_1384 : (Jvm.Cond.methodLink "SnorePlayLaw" (147 : Nat) ({ cls := "SnorePlay", name := "best", desc := "()I" } : Jvm.MethodName)) ∈ am_tb := am_m6 61 rfl rfl
theorem wd_1385 : (Jvm.Cond.instanceMethod ({ cls := "SnorePlay", name := "best", desc := "()I" } : Jvm.MethodName)) ∈ am_tb := am_m6 62 rfl rfl
theorem wd_1386 : (Jvm.Cond.selects "SnorePlay" ({ cls := "SnorePlay", name := "best", desc := "()I" } : Jvm.MethodName) ({ cls := "SnorePlay", name := "best", desc := "()I" } : Jvm.MethodName)) ∈ am_tb := am_m6 63 rfl rfl
theorem wd_1387 : (Jvm.Cond.code ({ cls := "SnorePlay", name := "best", desc := "()I" } : Jvm.MethodName) prog_1_method_44_code (1 : Nat) (Option.some Jvm.ClassFile.FieldType.int)) ∈ am_tb := am_m6 64 rfl rfl
theorem wd_1388 : (Jvm.Cond.methodLink "SnorePlay" (350 : Nat) ({ cls := "SnorePlay$Search", name := "forcingDeed", desc := "()I" } : Jvm.MethodName)) ∈ am_tb := am_m6 65 rfl rfl
theorem wd_1389 : (Jvm.Cond.instanceMethod ({ cls := "SnorePlay$Search", name := "forcingDeed", desc := "()I" } : Jvm.MethodName)) ∈ am_tb := am_m6 66 rfl rfl
theorem wd_1390 : (Jvm.Cond.selects "SnorePlay$Search" ({ cls := "SnorePlay$Search", name := "forcingDeed", desc := "()I" } : Jvm.MethodName) ({ cls := "SnorePlay$Search", name := "forcingDeed", desc := "()I" } : Jvm.MethodName)) ∈ am_tb := am_m6 67 rfl rfl
theorem wd_1391 : (Jvm.Cond.code ({ cls := "SnorePlay$Search", name := "forcingDeed", desc := "()I" } : Jvm.MethodName) prog_8_method_16_code (2 : Nat) (Option.some Jvm.ClassFile.FieldType.int)) ∈ am_tb := am_m6 68 rfl rfl
theorem wd_1392 : (Jvm.Cond.methodLink "SnorePlay$Search" (102 : Nat) ({ cls := "SnorePlay$Search", name := "forcedIn", desc := "()I" } : Jvm.MethodName)) ∈ am_tb := am_m6 69 rfl rfl
theorem wd_1393 : (Jvm.Cond.methodLink "SnorePlayLaw" (151 : Nat) ({ cls := "SnorePlay", name := "chance", desc := "(II)I" } : Jvm.MethodName)) ∈ am_tb := am_m6 70 rfl rfl
theorem wd_1394 : (Jvm.Cond.instanceMethod ({ cls := "SnorePlay", name := "chance", desc := "(II)I" } : Jvm.MethodName)) ∈ am_tb := am_m6 71 rfl rfl
theorem wd_1395 : (Jvm.Cond.selects "SnorePlay" ({ cls := "SnorePlay", name := "chance", desc := "(II)I" } : Jvm.MethodName) ({ cls := "SnorePlay", name := "chance", desc := "(II)I" } : Jvm.MethodName)) ∈ am_tb := am_m6 72 rfl rfl
theorem wd_1396 : (Jvm.Cond.code ({ cls := "SnorePlay", name := "chance", desc := "(II)I" } : Jvm.MethodName) prog_1_method_45_code (3 : Nat) (Option.some Jvm.ClassFile.FieldType.int)) ∈ am_tb := am_m6 73 rfl rfl
theorem wd_1397 : (Jvm.Cond.methodLink "SnorePlay" (353 : Nat) ({ cls := "SnorePlay", name := "portion", desc := "(IIZ)I" } : Jvm.MethodName)) ∈ am_tb := am_m6 74 rfl rfl
theorem wd_1399 : (Jvm.Cond.instanceMethod ({ cls := "SnorePlay", name := "portion", desc := "(IIZ)I" } : Jvm.MethodName)) ∈ am_tb := am_m6 76 rfl rfl
theorem wd_1400 : (Jvm.Cond.code ({ cls := "SnorePlay", name := "portion", desc := "(IIZ)I" } : Jvm.MethodName) prog_1_method_47_code (10 : Nat) (Option.some Jvm.ClassFile.FieldType.int)) ∈ am_tb := am_m6 77 rfl rfl
theorem wd_1401 : (Jvm.Cond.methodLink "SnorePlay" (357 : Nat) ({ cls := "SnorePlay$Tally", name := "drawLots", desc := "(I)V" } : Jvm.MethodName)) ∈ am_tb := am_m6 78 rfl rfl
theorem wd_1402 : (Jvm.Cond.instanceMethod ({ cls := "SnorePlay$Tally", name := "drawLots", desc := "(I)V" } : Jvm.MethodName)) ∈ am_tb := am_m6 79 rfl rfl
theorem wd_1403 : (Jvm.Cond.selects "SnorePlay$Tally" ({ cls := "SnorePlay$Tally", name := "drawLots", desc := "(I)V" } : Jvm.MethodName) ({ cls := "SnorePlay$Tally", name := "drawLots", desc := "(I)V" } : Jvm.MethodName)) ∈ am_tb := am_m6 80 rfl rfl
theorem wd_1404 : (Jvm.Cond.code ({ cls := "SnorePlay$Tally", name := "drawLots", desc := "(I)V" } : Jvm.MethodName) prog_10_method_5_code (4 : Nat) (Option.none : Option Jvm.ClassFile.FieldType)) ∈ am_tb := am_m6 81 rfl rfl
theorem wd_1405 : (Jvm.Cond.methodLink "SnorePlay$Tally" (67 : Nat) ({ cls := "SnorePlay$Tally", name := "drawLot", desc := "(I)V" } : Jvm.MethodName)) ∈ am_tb := am_m6 82 rfl rfl
theorem wd_1407 : (Jvm.Cond.instanceMethod ({ cls := "SnorePlay$Tally", name := "drawLot", desc := "(I)V" } : Jvm.MethodName)) ∈ am_tb := am_m6 84 rfl rfl
theorem wd_1408 : (Jvm.Cond.code ({ cls := "SnorePlay$Tally", name := "drawLot", desc := "(I)V" } : Jvm.MethodName) prog_10_method_6_code (3 : Nat) (Option.none : Option Jvm.ClassFile.FieldType)) ∈ am_tb := am_m6 85 rfl rfl
theorem wd_1409 : (Jvm.Cond.constantLong "SnorePlay$Tally" (71 : Nat) (10 : Int64)) ∈ am_tb := am_m6 86 rfl rfl
theorem wd_1410 : (Jvm.Cond.methodLink "SnorePlay" (360 : Nat) ({ cls := "SnorePlay$Tally", name := "actsDrawn", desc := "()J" } : Jvm.MethodName)) ∈ am_tb := am_m6 87 rfl rfl
theorem wd_1411 : (Jvm.Cond.instanceMethod ({ cls := "SnorePlay$Tally", name := "actsDrawn", desc := "()J" } : Jvm.MethodName)) ∈ am_tb := am_m6 88 rfl rfl
theorem wd_1412 : (Jvm.Cond.selects "SnorePlay$Tally" ({ cls := "SnorePlay$Tally", name := "actsDrawn", desc := "()J" } : Jvm.MethodName) ({ cls := "SnorePlay$Tally", name := "actsDrawn", desc := "()J" } : Jvm.MethodName)) ∈ am_tb := am_m6 89 rfl rfl
theorem wd_1413 : (Jvm.Cond.code ({ cls := "SnorePlay$Tally", name := "actsDrawn", desc := "()J" } : Jvm.MethodName) prog_10_method_8_code (4 : Nat) (Option.some Jvm.ClassFile.FieldType.long)) ∈ am_tb := am_m6 90 rfl rfl
theorem wd_1414 : (Jvm.Cond.methodLink "SnorePlay$Tally" (73 : Nat) ({ cls := "SnorePlay$Graph", name := "actOf", desc := "(I)I" } : Jvm.MethodName)) ∈ am_tb := am_m6 91 rfl rfl
theorem wd_1415 : (Jvm.Cond.instanceMethod ({ cls := "SnorePlay$Graph", name := "actOf", desc := "(I)I" } : Jvm.MethodName)) ∈ am_tb := am_m6 92 rfl rfl
theorem wd_1416 : (Jvm.Cond.selects "SnorePlay$Graph" ({ cls := "SnorePlay$Graph", name := "actOf", desc := "(I)I" } : Jvm.MethodName) ({ cls := "SnorePlay$Graph", name := "actOf", desc := "(I)I" } : Jvm.MethodName)) ∈ am_tb := am_m6 93 rfl rfl
theorem wd_1417 : (Jvm.Cond.code ({ cls := "SnorePlay$Graph", name := "actOf", desc := "(I)I" } : Jvm.MethodName) prog_2_method_9_code (2 : Nat) (Option.some Jvm.ClassFile.FieldType.int)) ∈ am_tb := am_m6 94 rfl rfl
theorem wd_1418 : (Jvm.Cond.methodLink "SnorePlay" (363 : Nat) ({ cls := "SnorePlay$Tally", name := "endsDrawn", desc := "()J" } : Jvm.MethodName)) ∈ am_tb := am_m6 95 rfl rfl
theorem wd_1419 : (Jvm.Cond.instanceMethod ({ cls := "SnorePlay$Tally", name := "endsDrawn", desc := "()J" } : Jvm.MethodName)) ∈ am_tb := am_m6 96 rfl rfl
theorem wd_1420 : (Jvm.Cond.selects "SnorePlay$Tally" ({ cls := "SnorePlay$Tally", name := "endsDrawn", desc := "()J" } : Jvm.MethodName) ({ cls := "SnorePlay$Tally", name := "endsDrawn", desc := "()J" } : Jvm.MethodName)) ∈ am_tb := am_m6 97 rfl rfl
theorem wd_1421 : (Jvm.Cond.code ({ cls := "SnorePlay$Tally", name := "endsDrawn", desc := "()J" } : Jvm.MethodName) prog_10_method_7_code (4 : Nat) (Option.some Jvm.ClassFile.FieldType.long)) ∈ am_tb := am_m6 98 rfl rfl
theorem wd_1422 : (Jvm.Cond.constantLong "SnorePlay" (366 : Nat) (10 : Int64)) ∈ am_tb := am_m6 99 rfl rfl
theorem wd_1423 : (Jvm.Cond.methodLink "SnorePlay" (368 : Nat) ({ cls := "SnorePlay$Tally", name := "commonDivisor", desc := "(JJ)J" } : Jvm.MethodName)) ∈ am_tb := am_m6 100 rfl rfl
theorem wd_1424 : (Jvm.Cond.static ({ cls := "SnorePlay$Tally", name := "commonDivisor", desc := "(JJ)J" } : Jvm.MethodName)) ∈ am_tb := am_m6 101 rfl rfl
theorem wd_1425 : (Jvm.Cond.code ({ cls := "SnorePlay$Tally", name := "commonDivisor", desc := "(JJ)J" } : Jvm.MethodName) prog_10_method_9_code (11 : Nat) (Option.some Jvm.ClassFile.FieldType.long)) ∈ am_tb := am_m6 102 rfl rfl
theorem wd_1426 : (Jvm.Cond.methodLink "SnorePlayLaw" (155 : Nat) ({ cls := "SnorePlay", name := "mean", desc := "(II)I" } : Jvm.MethodName)) ∈ am_tb := am_m6 103 rfl rfl
theorem wd_1427 : (Jvm.Cond.instanceMethod ({ cls := "SnorePlay", name := "mean", desc := "(II)I" } : Jvm.MethodName)) ∈ am_tb := am_m6 104 rfl rfl
theorem wd_1428 : (Jvm.Cond.selects "SnorePlay" ({ cls := "SnorePlay", name := "mean", desc := "(II)I" } : Jvm.MethodName) ({ cls := "SnorePlay", name := "mean", desc := "(II)I" } : Jvm.MethodName)) ∈ am_tb := am_m6 105 rfl rfl
theorem wd_1429 : (Jvm.Cond.code ({ cls := "SnorePlay", name := "mean", desc := "(II)I" } : Jvm.MethodName) prog_1_method_46_code (3 : Nat) (Option.some Jvm.ClassFile.FieldType.int)) ∈ am_tb := am_m6 106 rfl rfl
theorem wd_1430 : (Jvm.Cond.methodLink "SnorePlayLaw" (159 : Nat) ({ cls := "SnorePlay", name := "numbers", desc := "(III)I" } : Jvm.MethodName)) ∈ am_tb := am_m6 107 rfl rfl
theorem wd_1431 : (Jvm.Cond.instanceMethod ({ cls := "SnorePlay", name := "numbers", desc := "(III)I" } : Jvm.MethodName)) ∈ am_tb := am_m6 108 rfl rfl
theorem wd_1432 : (Jvm.Cond.selects "SnorePlay" ({ cls := "SnorePlay", name := "numbers", desc := "(III)I" } : Jvm.MethodName) ({ cls := "SnorePlay", name := "numbers", desc := "(III)I" } : Jvm.MethodName)) ∈ am_tb := am_m6 109 rfl rfl
theorem wd_1433 : (Jvm.Cond.code ({ cls := "SnorePlay", name := "numbers", desc := "(III)I" } : Jvm.MethodName) prog_1_method_48_code (4 : Nat) (Option.some Jvm.ClassFile.FieldType.int)) ∈ am_tb := am_m6 110 rfl rfl
theorem wd_1434 : (Jvm.Cond.methodLink "SnorePlay" (372 : Nat) ({ cls := "SnorePlay$Tray", name := "lay", desc := "(II)V" } : Jvm.MethodName)) ∈ am_tb := am_m6 111 rfl rfl
theorem wd_1435 : (Jvm.Cond.instanceMethod ({ cls := "SnorePlay$Tray", name := "lay", desc := "(II)V" } : Jvm.MethodName)) ∈ am_tb := am_m6 112 rfl rfl
theorem wd_1436 : (Jvm.Cond.selects "SnorePlay$Tray" ({ cls := "SnorePlay$Tray", name := "lay", desc := "(II)V" } : Jvm.MethodName) ({ cls := "SnorePlay$Tray", name := "lay", desc := "(II)V" } : Jvm.MethodName)) ∈ am_tb := am_m6 113 rfl rfl
theorem wd_1437 : (Jvm.Cond.code ({ cls := "SnorePlay$Tray", name := "lay", desc := "(II)V" } : Jvm.MethodName) prog_12_method_2_code (3 : Nat) (Option.none : Option Jvm.ClassFile.FieldType)) ∈ am_tb := am_m6 114 rfl rfl
theorem wd_1438 : (Jvm.Cond.methodLink "SnorePlay$Tray" (26 : Nat) ({ cls := "java/util/Arrays", name := "fill", desc := "([JJ)V" } : Jvm.MethodName)) ∈ am_tb := am_m6 115 rfl rfl
theorem wd_1439 : (Jvm.Cond.methodLink "SnorePlayLaw" (166 : Nat) ({ cls := "SnorePlay", name := "write", desc := "(IIJ)J" } : Jvm.MethodName)) ∈ am_tb := am_m6 116 rfl rfl
theorem wd_1440 : (Jvm.Cond.instanceMethod ({ cls := "SnorePlay", name := "write", desc := "(IIJ)J" } : Jvm.MethodName)) ∈ am_tb := am_m6 117 rfl rfl
theorem wd_1441 : (Jvm.Cond.selects "SnorePlay" ({ cls := "SnorePlay", name := "write", desc := "(IIJ)J" } : Jvm.MethodName) ({ cls := "SnorePlay", name := "write", desc := "(IIJ)J" } : Jvm.MethodName)) ∈ am_tb := am_m6 118 rfl rfl
theorem wd_1442 : (Jvm.Cond.code ({ cls := "SnorePlay", name := "write", desc := "(IIJ)J" } : Jvm.MethodName) prog_1_method_49_code (6 : Nat) (Option.some Jvm.ClassFile.FieldType.long)) ∈ am_tb := am_m6 119 rfl rfl
theorem wd_1443 : (Jvm.Cond.constantLong "SnorePlay" (375 : Nat) (-7 : Int64)) ∈ am_tb := am_m6 120 rfl rfl
theorem wd_1444 : (Jvm.Cond.methodLink "SnorePlay" (377 : Nat) ({ cls := "SnorePlay$Tray", name := "put", desc := "(IJ)J" } : Jvm.MethodName)) ∈ am_tb := am_m6 121 rfl rfl
theorem wd_1445 : (Jvm.Cond.instanceMethod ({ cls := "SnorePlay$Tray", name := "put", desc := "(IJ)J" } : Jvm.MethodName)) ∈ am_tb := am_m6 122 rfl rfl
theorem wd_1446 : (Jvm.Cond.selects "SnorePlay$Tray" ({ cls := "SnorePlay$Tray", name := "put", desc := "(IJ)J" } : Jvm.MethodName) ({ cls := "SnorePlay$Tray", name := "put", desc := "(IJ)J" } : Jvm.MethodName)) ∈ am_tb := am_m6 123 rfl rfl
theorem wd_1447 : (Jvm.Cond.code ({ cls := "SnorePlay$Tray", name := "put", desc := "(IJ)J" } : Jvm.MethodName) prog_12_method_3_code (6 : Nat) (Option.some Jvm.ClassFile.FieldType.long)) ∈ am_tb := am_m6 124 rfl rfl
theorem wd_1448 : (Jvm.Cond.methodLink "SnorePlayLaw" (171 : Nat) ({ cls := "SnorePlay", name := "lists", desc := "(II)I" } : Jvm.MethodName)) ∈ am_tb := am_m6 125 rfl rfl
theorem wd_1449 : (Jvm.Cond.instanceMethod ({ cls := "SnorePlay", name := "lists", desc := "(II)I" } : Jvm.MethodName)) ∈ am_tb := am_m6 126 rfl rfl
theorem wd_1450 : (Jvm.Cond.selects "SnorePlay" ({ cls := "SnorePlay", name := "lists", desc := "(II)I" } : Jvm.MethodName) ({ cls := "SnorePlay", name := "lists", desc := "(II)I" } : Jvm.MethodName)) ∈ am_tb := am_m6 127 rfl rfl
theorem wd_1451 : (Jvm.Cond.code ({ cls := "SnorePlay", name := "lists", desc := "(II)I" } : Jvm.MethodName) prog_1_method_50_code (5 : Nat) (Option.some Jvm.ClassFile.FieldType.int)) ∈ am_tb := am_m6 128 rfl rfl
theorem wd_1452 : (Jvm.Cond.methodLink "SnorePlayLaw" (175 : Nat) ({ cls := "SnorePlay", name := "image", desc := "(I)I" } : Jvm.MethodName)) ∈ am_tb := am_m6 129 rfl rfl
theorem wd_1453 : (Jvm.Cond.instanceMethod ({ cls := "SnorePlay", name := "image", desc := "(I)I" } : Jvm.MethodName)) ∈ am_tb := am_m6 130 rfl rfl
theorem wd_1454 : (Jvm.Cond.selects "SnorePlay" ({ cls := "SnorePlay", name := "image", desc := "(I)I" } : Jvm.MethodName) ({ cls := "SnorePlay", name := "image", desc := "(I)I" } : Jvm.MethodName)) ∈ am_tb := am_m6 131 rfl rfl
theorem wd_1455 : (Jvm.Cond.code ({ cls := "SnorePlay", name := "image", desc := "(I)I" } : Jvm.MethodName) prog_1_method_51_code (2 : Nat) (Option.some Jvm.ClassFile.FieldType.int)) ∈ am_tb := am_m6 132 rfl rfl
theorem wd_1456 : (Jvm.Cond.methodLink "SnorePlayLaw" (179 : Nat) ({ cls := "SnorePlay", name := "restore", desc := "(I)I" } : Jvm.MethodName)) ∈ am_tb := am_m6 133 rfl rfl
theorem wd_1457 : (Jvm.Cond.instanceMethod ({ cls := "SnorePlay", name := "restore", desc := "(I)I" } : Jvm.MethodName)) ∈ am_tb := am_m6 134 rfl rfl
theorem wd_1458 : (Jvm.Cond.selects "SnorePlay" ({ cls := "SnorePlay", name := "restore", desc := "(I)I" } : Jvm.MethodName) ({ cls := "SnorePlay", name := "restore", desc := "(I)I" } : Jvm.MethodName)) ∈ am_tb := am_m6 135 rfl rfl
theorem wd_1459 : (Jvm.Cond.code ({ cls := "SnorePlay", name := "restore", desc := "(I)I" } : Jvm.MethodName) prog_1_method_52_code (2 : Nat) (Option.some Jvm.ClassFile.FieldType.int)) ∈ am_tb := am_m6 136 rfl rfl
theorem wd_1460 : (Jvm.Cond.methodLink "SnorePlayLaw" (183 : Nat) ({ cls := "SnorePlay", name := "count", desc := "(I)I" } : Jvm.MethodName)) ∈ am_tb := am_m6 137 rfl rfl
theorem wd_1461 : (Jvm.Cond.instanceMethod ({ cls := "SnorePlay", name := "count", desc := "(I)I" } : Jvm.MethodName)) ∈ am_tb := am_m6 138 rfl rfl
theorem wd_1462 : (Jvm.Cond.selects "SnorePlay" ({ cls := "SnorePlay", name := "count", desc := "(I)I" } : Jvm.MethodName) ({ cls := "SnorePlay", name := "count", desc := "(I)I" } : Jvm.MethodName)) ∈ am_tb := am_m6 139 rfl rfl
theorem wd_1463 : (Jvm.Cond.code ({ cls := "SnorePlay", name := "count", desc := "(I)I" } : Jvm.MethodName) prog_1_method_53_code (2 : Nat) (Option.some Jvm.ClassFile.FieldType.int)) ∈ am_tb := am_m6 140 rfl rfl
theorem wd_1464 : (Jvm.Cond.classLink "SnorePlayLaw" (10 : Nat) "SnorePlayModel") ∈ am_tb := am_m6 141 rfl rfl
theorem wd_1465 : (Jvm.Cond.instantiable "SnorePlayModel" (40 : Nat)) ∈ am_tb := am_m6 142 rfl rfl
theorem wd_1466 : (Jvm.Cond.methodLink "SnorePlayLaw" (12 : Nat) ({ cls := "SnorePlayModel", name := "<init>", desc := "()V" } : Jvm.MethodName)) ∈ am_tb := am_m6 143 rfl rfl
theorem wd_1467 : (Jvm.Cond.instanceMethod ({ cls := "SnorePlayModel", name := "<init>", desc := "()V" } : Jvm.MethodName)) ∈ am_tb := am_m6 144 rfl rfl
theorem wd_1468 : (Jvm.Cond.code ({ cls := "SnorePlayModel", name := "<init>", desc := "()V" } : Jvm.MethodName) prog_14_method_3_code (1 : Nat) (Option.none : Option Jvm.ClassFile.FieldType)) ∈ am_tb := am_m6 145 rfl rfl
theorem wd_1469 : (Jvm.Cond.methodLink "SnorePlayModel" (7 : Nat) ({ cls := "java/lang/Object", name := "<init>", desc := "()V" } : Jvm.MethodName)) ∈ am_tb := am_m6 146 rfl rfl
theorem wd_1470 : (Jvm.Cond.methodLink "SnorePlayModel" (88 : Nat) ({ cls := "SnorePlayModel", name := "plain", desc := "([I)V" } : Jvm.MethodName)) ∈ am_tb := am_m6 147 rfl rfl
theorem wd_1471 : (Jvm.Cond.static ({ cls := "SnorePlayModel", name := "plain", desc := "([I)V" } : Jvm.MethodName)) ∈ am_tb := am_m6 148 rfl rfl
theorem wd_1472 : (Jvm.Cond.code ({ cls := "SnorePlayModel", name := "plain", desc := "([I)V" } : Jvm.MethodName) prog_14_method_4_code (2 : Nat) (Option.none : Option Jvm.ClassFile.FieldType)) ∈ am_tb := am_m6 149 rfl rfl
theorem wd_1473 : (Jvm.Cond.fieldLink "SnorePlayModel" (1 : Nat) "SnorePlayModel" "thrown" "I") ∈ am_tb := am_m6 150 rfl rfl
theorem wd_1474 : (Jvm.Cond.fieldLink "SnorePlayModel" (13 : Nat) "SnorePlayModel" "all" "[I") ∈ am_tb := am_m6 151 rfl rfl
theorem wd_1475 : (Jvm.Cond.fieldLink "SnorePlayModel" (17 : Nat) "SnorePlayModel" "hasImage" "[Z") ∈ am_tb := am_m6 152 rfl rfl
theorem wd_1476 : (Jvm.Cond.fieldLink "SnorePlayModel" (21 : Nat) "SnorePlayModel" "tape" "[I") ∈ am_tb := am_m6 153 rfl rfl
theorem wd_1477 : (Jvm.Cond.fieldLink "SnorePlayModel" (24 : Nat) "SnorePlayModel" "fresh" "[I") ∈ am_tb := am_m6 154 rfl rfl
theorem wd_1478 : (Jvm.Cond.fieldLink "SnorePlayModel" (92 : Nat) "SnorePlayModel" "taped" "I") ∈ am_tb := am_m6 155 rfl rfl
theorem wd_1479 : (Jvm.Cond.fieldLink "SnorePlayModel" (110 : Nat) "SnorePlayModel" "at" "I") ∈ am_tb := am_m6 156 rfl rfl
theorem wd_1480 : (Jvm.Cond.fieldLink "SnorePlayModel" (113 : Nat) "SnorePlayModel" "behind" "I") ∈ am_tb := am_m6 157 rfl rfl
theorem wd_1481 : (Jvm.Cond.fieldLink "SnorePlayModel" (95 : Nat) "SnorePlayModel" "size" "I") ∈ am_tb := am_m6 158 rfl rfl
theorem wd_1482 : (Jvm.Cond.fieldLink "SnorePlayModel" (120 : Nat) "SnorePlayModel" "kind" "I") ∈ am_tb := am_m6 159 rfl rfl
theorem wd_1483 : (Jvm.Cond.fieldLink "SnorePlayModel" (133 : Nat) "SnorePlayModel" "number" "I") ∈ am_tb := am_m6 160 rfl rfl
theorem wd_1484 : (Jvm.Cond.fieldLink "SnorePlayModel" (138 : Nat) "SnorePlayModel" "wrong" "I") ∈ am_tb := am_m6 161 rfl rfl
theorem wd_1485 : (Jvm.Cond.fieldLink "SnorePlayModel" (141 : Nat) "SnorePlayModel" "wrongAt" "I") ∈ am_tb := am_m6 162 rfl rfl
theorem wd_1486 : (Jvm.Cond.fieldLink "SnorePlayModel" (217 : Nat) "SnorePlayModel" "faultKind" "I") ∈ am_tb := am_m6 163 rfl rfl
theorem wd_1487 : (Jvm.Cond.fieldLink "SnorePlayModel" (27 : Nat) "SnorePlayModel" "faultPlace" "I") ∈ am_tb := am_m6 164 rfl rfl
theorem wd_1488 : (Jvm.Cond.fieldLink "SnorePlayModel" (30 : Nat) "SnorePlayModel" "reckoned" "[I") ∈ am_tb := am_m6 165 rfl rfl
theorem wd_1489 : (Jvm.Cond.fieldLink "SnorePlayModel" (33 : Nat) "SnorePlayModel" "words" "[I") ∈ am_tb := am_m6 166 rfl rfl
theorem wd_1490 : (Jvm.Cond.fieldLink "SnorePlayModel" (36 : Nat) "SnorePlayModel" "was" "[I") ∈ am_tb := am_m6 167 rfl rfl
theorem wd_1491 : (Jvm.Cond.fieldLink "SnorePlayModel" (311 : Nat) "SnorePlayModel" "toldWhy" "I") ∈ am_tb := am_m6 168 rfl rfl
theorem wd_1492 : (Jvm.Cond.fieldLink "SnorePlayModel" (336 : Nat) "SnorePlayModel" "x" "I") ∈ am_tb := am_m6 169 rfl rfl
theorem wd_1493 : (Jvm.Cond.fieldLink "SnorePlayModel" (39 : Nat) "SnorePlayModel" "line" "[I") ∈ am_tb := am_m6 170 rfl rfl
theorem wd_1494 : (Jvm.Cond.fieldLink "SnorePlayModel" (42 : Nat) "SnorePlayModel" "placeIn" "[I") ∈ am_tb := am_m6 171 rfl rfl
theorem wd_1495 : (Jvm.Cond.fieldLink "SnorePlayModel" (347 : Nat) "SnorePlayModel" "lineMany" "I") ∈ am_tb := am_m6 172 rfl rfl
theorem wd_1496 : (Jvm.Cond.fieldLink "SnorePlayModel" (350 : Nat) "SnorePlayModel" "tail" "I") ∈ am_tb := am_m6 173 rfl rfl
theorem wd_1497 : (Jvm.Cond.fieldLink "SnorePlayModel" (45 : Nat) "SnorePlayModel" "stand" "[I") ∈ am_tb := am_m6 174 rfl rfl
theorem wd_1498 : (Jvm.Cond.fieldLink "SnorePlayModel" (48 : Nat) "SnorePlayModel" "then" "[I") ∈ am_tb := am_m6 175 rfl rfl
theorem wd_1499 : (Jvm.Cond.fieldLink "SnorePlayModel" (51 : Nat) "SnorePlayModel" "far" "[I") ∈ am_tb := am_m6 176 rfl rfl
theorem wd_1500 : (Jvm.Cond.fieldLink "SnorePlayModel" (54 : Nat) "SnorePlayModel" "farOther" "[I") ∈ am_tb := am_m6 177 rfl rfl
theorem wd_1501 : (Jvm.Cond.fieldLink "SnorePlayModel" (57 : Nat) "SnorePlayModel" "known" "[Z") ∈ am_tb := am_m6 178 rfl rfl
theorem wd_1502 : (Jvm.Cond.fieldLink "SnorePlayModel" (361 : Nat) "SnorePlayModel" "standMany" "I") ∈ am_tb := am_m6 179 rfl rfl
theorem wd_1503 : (Jvm.Cond.fieldLink "SnorePlayModel" (60 : Nat) "SnorePlayModel" "many" "[J") ∈ am_tb := am_m6 180 rfl rfl
theorem wd_1504 : (Jvm.Cond.fieldLink "SnorePlayModel" (64 : Nat) "SnorePlayModel" "manyThen" "[J") ∈ am_tb := am_m6 181 rfl rfl
theorem wd_1505 : (Jvm.Cond.fieldLink "SnorePlayModel" (67 : Nat) "SnorePlayModel" "bedsNow" "[I") ∈ am_tb := am_m6 182 rfl rfl
theorem wd_1506 : (Jvm.Cond.fieldLink "SnorePlayModel" (70 : Nat) "SnorePlayModel" "bestBeds" "[I") ∈ am_tb := am_m6 183 rfl rfl
theorem wd_1507 : (Jvm.Cond.fieldLink "SnorePlayModel" (400 : Nat) "SnorePlayModel" "bestBeats" "I") ∈ am_tb := am_m6 184 rfl rfl
theorem wd_1508 : (Jvm.Cond.fieldLink "SnorePlayModel" (73 : Nat) "SnorePlayModel" "on" "[J") ∈ am_tb := am_m6 185 rfl rfl
theorem wd_1509 : (Jvm.Cond.fieldLink "SnorePlayModel" (76 : Nat) "SnorePlayModel" "saidBy" "[I") ∈ am_tb := am_m6 186 rfl rfl
theorem wd_1510 : (Jvm.Cond.fieldLink "SnorePlayModel" (79 : Nat) "SnorePlayModel" "rowSort" "[I") ∈ am_tb := am_m6 187 rfl rfl
theorem wd_1511 : (Jvm.Cond.fieldLink "SnorePlayModel" (82 : Nat) "SnorePlayModel" "rowMany" "[I") ∈ am_tb := am_m6 188 rfl rfl
theorem wd_1512 : (Jvm.Cond.fieldLink "SnorePlayModel" (85 : Nat) "SnorePlayModel" "numbers" "[J") ∈ am_tb := am_m6 189 rfl rfl
theorem wd_1594 : (Jvm.Cond.methodLink "SnorePlayLaw" (17 : Nat) ({ cls := "SnorePlayModel", name := "feed", desc := "(IIIII)I" } : Jvm.MethodName)) ∈ am_tb := am_m7 31 rfl rfl
theorem wd_1595 : (Jvm.Cond.instanceMethod ({ cls := "SnorePlayModel", name := "feed", desc := "(IIIII)I" } : Jvm.MethodName)) ∈ am_tb := am_m7 32 rfl rfl
theorem wd_1596 : (Jvm.Cond.selects "SnorePlayModel" ({ cls := "SnorePlayModel", name := "feed", desc := "(IIIII)I" } : Jvm.MethodName) ({ cls := "SnorePlayModel", name := "feed", desc := "(IIIII)I" } : Jvm.MethodName)) ∈ am_tb := am_m7 33 rfl rfl
theorem wd_1597 : (Jvm.Cond.code ({ cls := "SnorePlayModel", name := "feed", desc := "(IIIII)I" } : Jvm.MethodName) prog_14_method_5_code (8 : Nat) (Option.some Jvm.ClassFile.FieldType.int)) ∈ am_tb := am_m7 34 rfl rfl
theorem wd_1598 : (Jvm.Cond.methodLink "SnorePlayLaw" (22 : Nat) ({ cls := "SnorePlayModel", name := "house", desc := "(I)I" } : Jvm.MethodName)) ∈ am_tb := am_m7 35 rfl rfl
theorem wd_1599 : (Jvm.Cond.instanceMethod ({ cls := "SnorePlayModel", name := "house", desc := "(I)I" } : Jvm.MethodName)) ∈ am_tb := am_m7 36 rfl rfl
theorem wd_1600 : (Jvm.Cond.selects "SnorePlayModel" ({ cls := "SnorePlayModel", name := "house", desc := "(I)I" } : Jvm.MethodName) ({ cls := "SnorePlayModel", name := "house", desc := "(I)I" } : Jvm.MethodName)) ∈ am_tb := am_m7 37 rfl rfl
theorem wd_1601 : (Jvm.Cond.code ({ cls := "SnorePlayModel", name := "house", desc := "(I)I" } : Jvm.MethodName) prog_14_method_33_code (3 : Nat) (Option.some Jvm.ClassFile.FieldType.int)) ∈ am_tb := am_m7 38 rfl rfl
theorem wd_1602 : (Jvm.Cond.methodLink "SnorePlayModel" (154 : Nat) ({ cls := "SnorePlayModel", name := "within", desc := "(JJJ)Z" } : Jvm.MethodName)) ∈ am_tb := am_m7 39 rfl rfl
theorem wd_1603 : (Jvm.Cond.static ({ cls := "SnorePlayModel", name := "within", desc := "(JJJ)Z" } : Jvm.MethodName)) ∈ am_tb := am_m7 40 rfl rfl
theorem wd_1604 : (Jvm.Cond.code ({ cls := "SnorePlayModel", name := "within", desc := "(JJJ)Z" } : Jvm.MethodName) prog_14_method_2_code (6 : Nat) (Option.some Jvm.ClassFile.FieldType.boolean)) ∈ am_tb := am_m7 41 rfl rfl
theorem wd_1605 : (Jvm.Cond.methodLink "SnorePlayModel" (147 : Nat) ({ cls := "SnorePlayModel", name := "next", desc := "()V" } : Jvm.MethodName)) ∈ am_tb := am_m7 42 rfl rfl
theorem wd_1607 : (Jvm.Cond.instanceMethod ({ cls := "SnorePlayModel", name := "next", desc := "()V" } : Jvm.MethodName)) ∈ am_tb := am_m7 44 rfl rfl
theorem wd_1608 : (Jvm.Cond.code ({ cls := "SnorePlayModel", name := "next", desc := "()V" } : Jvm.MethodName) prog_14_method_10_code (2 : Nat) (Option.none : Option Jvm.ClassFile.FieldType)) ∈ am_tb := am_m7 45 rfl rfl
theorem wd_1609 : (Jvm.Cond.methodLink "SnorePlayModel" (116 : Nat) ({ cls := "SnorePlayModel", name := "see", desc := "(I)I" } : Jvm.MethodName)) ∈ am_tb := am_m7 46 rfl rfl
theorem wd_1611 : (Jvm.Cond.instanceMethod ({ cls := "SnorePlayModel", name := "see", desc := "(I)I" } : Jvm.MethodName)) ∈ am_tb := am_m7 48 rfl rfl
theorem wd_1612 : (Jvm.Cond.code ({ cls := "SnorePlayModel", name := "see", desc := "(I)I" } : Jvm.MethodName) prog_14_method_6_code (2 : Nat) (Option.some Jvm.ClassFile.FieldType.int)) ∈ am_tb := am_m7 49 rfl rfl
theorem wd_1613 : (Jvm.Cond.methodLink "SnorePlayModel" (123 : Nat) ({ cls := "SnorePlayModel", name := "isSmall", desc := "(I)Z" } : Jvm.MethodName)) ∈ am_tb := am_m7 50 rfl rfl
theorem wd_1614 : (Jvm.Cond.static ({ cls := "SnorePlayModel", name := "isSmall", desc := "(I)Z" } : Jvm.MethodName)) ∈ am_tb := am_m7 51 rfl rfl
theorem wd_1615 : (Jvm.Cond.code ({ cls := "SnorePlayModel", name := "isSmall", desc := "(I)Z" } : Jvm.MethodName) prog_14_method_7_code (1 : Nat) (Option.some Jvm.ClassFile.FieldType.boolean)) ∈ am_tb := am_m7 52 rfl rfl
theorem wd_1616 : (Jvm.Cond.methodLink "SnorePlayModel" (127 : Nat) ({ cls := "SnorePlayModel", name := "keyAt", desc := "()I" } : Jvm.MethodName)) ∈ am_tb := am_m7 53 rfl rfl
theorem wd_1618 : (Jvm.Cond.instanceMethod ({ cls := "SnorePlayModel", name := "keyAt", desc := "()I" } : Jvm.MethodName)) ∈ am_tb := am_m7 55 rfl rfl
theorem wd_1619 : (Jvm.Cond.code ({ cls := "SnorePlayModel", name := "keyAt", desc := "()I" } : Jvm.MethodName) prog_14_method_9_code (4 : Nat) (Option.some Jvm.ClassFile.FieldType.int)) ∈ am_tb := am_m7 56 rfl rfl
theorem wd_1621 : (Jvm.Cond.methodLink "SnorePlayModel" (100 : Nat) ({ cls := "java/lang/String", name := "length", desc := "()I" } : Jvm.MethodName)) ∈ am_tb := am_m7 58 rfl rfl
theorem wd_1622 : (Jvm.Cond.methodLink "SnorePlayModel" (106 : Nat) ({ cls := "java/lang/String", name := "charAt", desc := "(I)C" } : Jvm.MethodName)) ∈ am_tb := am_m7 59 rfl rfl
theorem wd_1623 : (Jvm.Cond.methodLink "SnorePlayModel" (130 : Nat) ({ cls := "SnorePlayModel", name := "isDigit", desc := "(I)Z" } : Jvm.MethodName)) ∈ am_tb := am_m7 60 rfl rfl
theorem wd_1624 : (Jvm.Cond.static ({ cls := "SnorePlayModel", name := "isDigit", desc := "(I)Z" } : Jvm.MethodName)) ∈ am_tb := am_m7 61 rfl rfl
theorem wd_1625 : (Jvm.Cond.code ({ cls := "SnorePlayModel", name := "isDigit", desc := "(I)Z" } : Jvm.MethodName) prog_14_method_8_code (1 : Nat) (Option.some Jvm.ClassFile.FieldType.boolean)) ∈ am_tb := am_m7 62 rfl rfl
theorem wd_1627 : (Jvm.Cond.methodLink "SnorePlayModel" (170 : Nat) ({ cls := "SnorePlayModel", name := "eats", desc := "(I)Z" } : Jvm.MethodName)) ∈ am_tb := am_m7 64 rfl rfl
theorem wd_1629 : (Jvm.Cond.instanceMethod ({ cls := "SnorePlayModel", name := "eats", desc := "(I)Z" } : Jvm.MethodName)) ∈ am_tb := am_m7 66 rfl rfl
theorem wd_1630 : (Jvm.Cond.code ({ cls := "SnorePlayModel", name := "eats", desc := "(I)Z" } : Jvm.MethodName) prog_14_method_13_code (2 : Nat) (Option.some Jvm.ClassFile.FieldType.boolean)) ∈ am_tb := am_m7 67 rfl rfl
theorem wd_1631 : (Jvm.Cond.methodLink "SnorePlayModel" (144 : Nat) ({ cls := "SnorePlayModel", name := "is", desc := "(I)Z" } : Jvm.MethodName)) ∈ am_tb := am_m7 68 rfl rfl
theorem wd_1633 : (Jvm.Cond.instanceMethod ({ cls := "SnorePlayModel", name := "is", desc := "(I)Z" } : Jvm.MethodName)) ∈ am_tb := am_m7 70 rfl rfl
theorem wd_1634 : (Jvm.Cond.code ({ cls := "SnorePlayModel", name := "is", desc := "(I)Z" } : Jvm.MethodName) prog_14_method_12_code (2 : Nat) (Option.some Jvm.ClassFile.FieldType.boolean)) ∈ am_tb := am_m7 71 rfl rfl
theorem wd_1635 : (Jvm.Cond.methodLink "SnorePlayModel" (150 : Nat) ({ cls := "SnorePlayModel", name := "fails", desc := "(I)V" } : Jvm.MethodName)) ∈ am_tb := am_m7 72 rfl rfl
theorem wd_1637 : (Jvm.Cond.instanceMethod ({ cls := "SnorePlayModel", name := "fails", desc := "(I)V" } : Jvm.MethodName)) ∈ am_tb := am_m7 74 rfl rfl
theorem wd_1638 : (Jvm.Cond.code ({ cls := "SnorePlayModel", name := "fails", desc := "(I)V" } : Jvm.MethodName) prog_14_method_11_code (2 : Nat) (Option.none : Option Jvm.ClassFile.FieldType)) ∈ am_tb := am_m7 75 rfl rfl
theorem wd_1639 : (Jvm.Cond.methodLink "SnorePlayModel" (198 : Nat) ({ cls := "SnorePlayModel", name := "named", desc := "(III)I" } : Jvm.MethodName)) ∈ am_tb := am_m7 76 rfl rfl
theorem wd_1641 : (Jvm.Cond.instanceMethod ({ cls := "SnorePlayModel", name := "named", desc := "(III)I" } : Jvm.MethodName)) ∈ am_tb := am_m7 78 rfl rfl
theorem wd_1642 : (Jvm.Cond.code ({ cls := "SnorePlayModel", name := "named", desc := "(III)I" } : Jvm.MethodName) prog_14_method_26_code (4 : Nat) (Option.some Jvm.ClassFile.FieldType.int)) ∈ am_tb := am_m7 79 rfl rfl
theorem wd_1643 : (Jvm.Cond.methodLink "SnorePlayModel" (191 : Nat) ({ cls := "SnorePlayModel", name := "takes", desc := "(II)I" } : Jvm.MethodName)) ∈ am_tb := am_m7 80 rfl rfl
theorem wd_1645 : (Jvm.Cond.instanceMethod ({ cls := "SnorePlayModel", name := "takes", desc := "(II)I" } : Jvm.MethodName)) ∈ am_tb := am_m7 82 rfl rfl
theorem wd_1646 : (Jvm.Cond.code ({ cls := "SnorePlayModel", name := "takes", desc := "(II)I" } : Jvm.MethodName) prog_14_method_14_code (4 : Nat) (Option.some Jvm.ClassFile.FieldType.int)) ∈ am_tb := am_m7 83 rfl rfl
theorem wd_1647 : (Jvm.Cond.methodLink "SnorePlayModel" (211 : Nat) ({ cls := "SnorePlayModel", name := "closes", desc := "()V" } : Jvm.MethodName)) ∈ am_tb := am_m7 84 rfl rfl
theorem wd_1649 : (Jvm.Cond.instanceMethod ({ cls := "SnorePlayModel", name := "closes", desc := "()V" } : Jvm.MethodName)) ∈ am_tb := am_m7 86 rfl rfl
theorem wd_1650 : (Jvm.Cond.code ({ cls := "SnorePlayModel", name := "closes", desc := "()V" } : Jvm.MethodName) prog_14_method_32_code (1 : Nat) (Option.none : Option Jvm.ClassFile.FieldType)) ∈ am_tb := am_m7 87 rfl rfl
theorem wd_1651 : (Jvm.Cond.methodLink "SnorePlayModel" (214 : Nat) ({ cls := "SnorePlayModel", name := "readLine", desc := "()V" } : Jvm.MethodName)) ∈ am_tb := am_m7 88 rfl rfl
theorem wd_1653 : (Jvm.Cond.instanceMethod ({ cls := "SnorePlayModel", name := "readLine", desc := "()V" } : Jvm.MethodName)) ∈ am_tb := am_m7 90 rfl rfl
theorem wd_1654 : (Jvm.Cond.code ({ cls := "SnorePlayModel", name := "readLine", desc := "()V" } : Jvm.MethodName) prog_14_method_31_code (1 : Nat) (Option.none : Option Jvm.ClassFile.FieldType)) ∈ am_tb := am_m7 91 rfl rfl
theorem wd_1655 : (Jvm.Cond.methodLink "SnorePlayModel" (202 : Nat) ({ cls := "SnorePlayModel", name := "readSleeper", desc := "()V" } : Jvm.MethodName)) ∈ am_tb := am_m7 92 rfl rfl
theorem wd_1657 : (Jvm.Cond.instanceMethod ({ cls := "SnorePlayModel", name := "readSleeper", desc := "()V" } : Jvm.MethodName)) ∈ am_tb := am_m7 94 rfl rfl
theorem wd_1658 : (Jvm.Cond.code ({ cls := "SnorePlayModel", name := "readSleeper", desc := "()V" } : Jvm.MethodName) prog_14_method_28_code (2 : Nat) (Option.none : Option Jvm.ClassFile.FieldType)) ∈ am_tb := am_m7 95 rfl rfl
theorem wd_1659 : (Jvm.Cond.methodLink "SnorePlayModel" (195 : Nat) ({ cls := "SnorePlayModel", name := "isBedTold", desc := "(I)Z" } : Jvm.MethodName)) ∈ am_tb := am_m7 96 rfl rfl
theorem wd_1661 : (Jvm.Cond.instanceMethod ({ cls := "SnorePlayModel", name := "isBedTold", desc := "(I)Z" } : Jvm.MethodName)) ∈ am_tb := am_m7 98 rfl rfl
theorem wd_1662 : (Jvm.Cond.code ({ cls := "SnorePlayModel", name := "isBedTold", desc := "(I)Z" } : Jvm.MethodName) prog_14_method_27_code (3 : Nat) (Option.some Jvm.ClassFile.FieldType.boolean)) ∈ am_tb := am_m7 99 rfl rfl
theorem wd_1663 : (Jvm.Cond.methodLink "SnorePlayModel" (205 : Nat) ({ cls := "SnorePlayModel", name := "readOpens", desc := "()V" } : Jvm.MethodName)) ∈ am_tb := am_m7 100 rfl rfl
theorem wd_1665 : (Jvm.Cond.instanceMethod ({ cls := "SnorePlayModel", name := "readOpens", desc := "()V" } : Jvm.MethodName)) ∈ am_tb := am_m7 102 rfl rfl
theorem wd_1666 : (Jvm.Cond.code ({ cls := "SnorePlayModel", name := "readOpens", desc := "()V" } : Jvm.MethodName) prog_14_method_29_code (1 : Nat) (Option.none : Option Jvm.ClassFile.FieldType)) ∈ am_tb := am_m7 103 rfl rfl
theorem wd_1667 : (Jvm.Cond.methodLink "SnorePlayModel" (208 : Nat) ({ cls := "SnorePlayModel", name := "readLaw", desc := "(I)V" } : Jvm.MethodName)) ∈ am_tb := am_m7 104 rfl rfl
theorem wd_1669 : (Jvm.Cond.instanceMethod ({ cls := "SnorePlayModel", name := "readLaw", desc := "(I)V" } : Jvm.MethodName)) ∈ am_tb := am_m7 106 rfl rfl
theorem wd_1670 : (Jvm.Cond.code ({ cls := "SnorePlayModel", name := "readLaw", desc := "(I)V" } : Jvm.MethodName) prog_14_method_30_code (3 : Nat) (Option.none : Option Jvm.ClassFile.FieldType)) ∈ am_tb := am_m7 107 rfl rfl
theorem wd_1671 : (Jvm.Cond.methodLink "SnorePlayModel" (167 : Nat) ({ cls := "SnorePlayModel", name := "readSum", desc := "(I)V" } : Jvm.MethodName)) ∈ am_tb := am_m7 108 rfl rfl
theorem wd_1673 : (Jvm.Cond.instanceMethod ({ cls := "SnorePlayModel", name := "readSum", desc := "(I)V" } : Jvm.MethodName)) ∈ am_tb := am_m7 110 rfl rfl
theorem wd_1674 : (Jvm.Cond.code ({ cls := "SnorePlayModel", name := "readSum", desc := "(I)V" } : Jvm.MethodName) prog_14_method_22_code (3 : Nat) (Option.none : Option Jvm.ClassFile.FieldType)) ∈ am_tb := am_m7 111 rfl rfl
theorem wd_1675 : (Jvm.Cond.methodLink "SnorePlayModel" (182 : Nat) ({ cls := "SnorePlayModel", name := "readTerm", desc := "(I)V" } : Jvm.MethodName)) ∈ am_tb := am_m7 112 rfl rfl
theorem wd_1677 : (Jvm.Cond.instanceMethod ({ cls := "SnorePlayModel", name := "readTerm", desc := "(I)V" } : Jvm.MethodName)) ∈ am_tb := am_m7 114 rfl rfl
theorem wd_1678 : (Jvm.Cond.code ({ cls := "SnorePlayModel", name := "readTerm", desc := "(I)V" } : Jvm.MethodName) prog_14_method_21_code (2 : Nat) (Option.none : Option Jvm.ClassFile.FieldType)) ∈ am_tb := am_m7 115 rfl rfl
theorem wd_1679 : (Jvm.Cond.methodLink "SnorePlayModel" (179 : Nat) ({ cls := "SnorePlayModel", name := "readAtom", desc := "(I)V" } : Jvm.MethodName)) ∈ am_tb := am_m7 116 rfl rfl
theorem wd_1681 : (Jvm.Cond.instanceMethod ({ cls := "SnorePlayModel", name := "readAtom", desc := "(I)V" } : Jvm.MethodName)) ∈ am_tb := am_m7 118 rfl rfl
theorem wd_1682 : (Jvm.Cond.code ({ cls := "SnorePlayModel", name := "readAtom", desc := "(I)V" } : Jvm.MethodName) prog_14_method_19_code (2 : Nat) (Option.none : Option Jvm.ClassFile.FieldType)) ∈ am_tb := am_m7 119 rfl rfl
theorem wd_1683 : (Jvm.Cond.methodLink "SnorePlayModel" (158 : Nat) ({ cls := "SnorePlayModel", name := "codes", desc := "(I)V" } : Jvm.MethodName)) ∈ am_tb := am_m7 120 rfl rfl
theorem wd_1685 : (Jvm.Cond.instanceMethod ({ cls := "SnorePlayModel", name := "codes", desc := "(I)V" } : Jvm.MethodName)) ∈ am_tb := am_m7 122 rfl rfl
theorem wd_1686 : (Jvm.Cond.code ({ cls := "SnorePlayModel", name := "codes", desc := "(I)V" } : Jvm.MethodName) prog_14_method_17_code (2 : Nat) (Option.none : Option Jvm.ClassFile.FieldType)) ∈ am_tb := am_m7 123 rfl rfl
theorem wd_1687 : (Jvm.Cond.methodLink "SnorePlayModel" (161 : Nat) ({ cls := "SnorePlayModel", name := "wordOf", desc := "(I)I" } : Jvm.MethodName)) ∈ am_tb := am_m7 124 rfl rfl
theorem wd_1689 : (Jvm.Cond.instanceMethod ({ cls := "SnorePlayModel", name := "wordOf", desc := "(I)I" } : Jvm.MethodName)) ∈ am_tb := am_m7 126 rfl rfl
theorem wd_1690 : (Jvm.Cond.code ({ cls := "SnorePlayModel", name := "wordOf", desc := "(I)I" } : Jvm.MethodName) prog_14_method_16_code (2 : Nat) (Option.some Jvm.ClassFile.FieldType.int)) ∈ am_tb := am_m7 127 rfl rfl
theorem wd_1691 : (Jvm.Cond.methodLink "SnorePlayModel" (164 : Nat) ({ cls := "SnorePlayModel", name := "goesIn", desc := "(I)Z" } : Jvm.MethodName)) ∈ am_tb := am_m7 128 rfl rfl
theorem wd_1693 : (Jvm.Cond.instanceMethod ({ cls := "SnorePlayModel", name := "goesIn", desc := "(I)Z" } : Jvm.MethodName)) ∈ am_tb := am_m7 130 rfl rfl
theorem wd_1694 : (Jvm.Cond.code ({ cls := "SnorePlayModel", name := "goesIn", desc := "(I)Z" } : Jvm.MethodName) prog_14_method_18_code (2 : Nat) (Option.some Jvm.ClassFile.FieldType.boolean)) ∈ am_tb := am_m7 131 rfl rfl
theorem wd_1695 : (Jvm.Cond.methodLink "SnorePlayModel" (173 : Nat) ({ cls := "SnorePlayModel", name := "readIf", desc := "(I)V" } : Jvm.MethodName)) ∈ am_tb := am_m7 132 rfl rfl
theorem wd_1697 : (Jvm.Cond.instanceMethod ({ cls := "SnorePlayModel", name := "readIf", desc := "(I)V" } : Jvm.MethodName)) ∈ am_tb := am_m7 134 rfl rfl
theorem wd_1698 : (Jvm.Cond.code ({ cls := "SnorePlayModel", name := "readIf", desc := "(I)V" } : Jvm.MethodName) prog_14_method_20_code (2 : Nat) (Option.none : Option Jvm.ClassFile.FieldType)) ∈ am_tb := am_m7 135 rfl rfl
theorem wd_1699 : (Jvm.Cond.methodLink "SnorePlayModel" (176 : Nat) ({ cls := "SnorePlayModel", name := "readTruth", desc := "(I)V" } : Jvm.MethodName)) ∈ am_tb := am_m7 136 rfl rfl
theorem wd_1701 : (Jvm.Cond.instanceMethod ({ cls := "SnorePlayModel", name := "readTruth", desc := "(I)V" } : Jvm.MethodName)) ∈ am_tb := am_m7 138 rfl rfl
theorem wd_1702 : (Jvm.Cond.code ({ cls := "SnorePlayModel", name := "readTruth", desc := "(I)V" } : Jvm.MethodName) prog_14_method_25_code (2 : Nat) (Option.none : Option Jvm.ClassFile.FieldType)) ∈ am_tb := am_m7 139 rfl rfl
theorem wd_1703 : (Jvm.Cond.methodLink "SnorePlayModel" (188 : Nat) ({ cls := "SnorePlayModel", name := "readBoth", desc := "(I)V" } : Jvm.MethodName)) ∈ am_tb := am_m7 140 rfl rfl
theorem wd_1705 : (Jvm.Cond.instanceMethod ({ cls := "SnorePlayModel", name := "readBoth", desc := "(I)V" } : Jvm.MethodName)) ∈ am_tb := am_m7 142 rfl rfl
theorem wd_1706 : (Jvm.Cond.code ({ cls := "SnorePlayModel", name := "readBoth", desc := "(I)V" } : Jvm.MethodName) prog_14_method_24_code (2 : Nat) (Option.none : Option Jvm.ClassFile.FieldType)) ∈ am_tb := am_m7 143 rfl rfl
theorem wd_1707 : (Jvm.Cond.methodLink "SnorePlayModel" (185 : Nat) ({ cls := "SnorePlayModel", name := "readUnit", desc := "(I)V" } : Jvm.MethodName)) ∈ am_tb := am_m7 144 rfl rfl
theorem wd_1709 : (Jvm.Cond.instanceMethod ({ cls := "SnorePlayModel", name := "readUnit", desc := "(I)V" } : Jvm.MethodName)) ∈ am_tb := am_m7 146 rfl rfl
theorem wd_1710 : (Jvm.Cond.code ({ cls := "SnorePlayModel", name := "readUnit", desc := "(I)V" } : Jvm.MethodName) prog_14_method_23_code (3 : Nat) (Option.none : Option Jvm.ClassFile.FieldType)) ∈ am_tb := am_m7 147 rfl rfl
theorem wd_1711 : (Jvm.Cond.methodLink "SnorePlayLaw" (26 : Nat) ({ cls := "SnorePlayModel", name := "fault", desc := "(I)I" } : Jvm.MethodName)) ∈ am_tb := am_m7 148 rfl rfl
theorem wd_1712 : (Jvm.Cond.instanceMethod ({ cls := "SnorePlayModel", name := "fault", desc := "(I)I" } : Jvm.MethodName)) ∈ am_tb := am_m7 149 rfl rfl
theorem wd_1713 : (Jvm.Cond.selects "SnorePlayModel" ({ cls := "SnorePlayModel", name := "fault", desc := "(I)I" } : Jvm.MethodName) ({ cls := "SnorePlayModel", name := "fault", desc := "(I)I" } : Jvm.MethodName)) ∈ am_tb := am_m7 150 rfl rfl
theorem wd_1714 : (Jvm.Cond.code ({ cls := "SnorePlayModel", name := "fault", desc := "(I)I" } : Jvm.MethodName) prog_14_method_34_code (2 : Nat) (Option.some Jvm.ClassFile.FieldType.int)) ∈ am_tb := am_m7 151 rfl rfl
theorem wd_1715 : (Jvm.Cond.methodLink "SnorePlayLaw" (31 : Nat) ({ cls := "SnorePlayModel", name := "sleeper", desc := "(II)I" } : Jvm.MethodName)) ∈ am_tb := am_m7 152 rfl rfl
theorem wd_1716 : (Jvm.Cond.instanceMethod ({ cls := "SnorePlayModel", name := "sleeper", desc := "(II)I" } : Jvm.MethodName)) ∈ am_tb := am_m7 153 rfl rfl
theorem wd_1717 : (Jvm.Cond.selects "SnorePlayModel" ({ cls := "SnorePlayModel", name := "sleeper", desc := "(II)I" } : Jvm.MethodName) ({ cls := "SnorePlayModel", name := "sleeper", desc := "(II)I" } : Jvm.MethodName)) ∈ am_tb := am_m7 154 rfl rfl
theorem wd_1718 : (Jvm.Cond.code ({ cls := "SnorePlayModel", name := "sleeper", desc := "(II)I" } : Jvm.MethodName) prog_14_method_52_code (3 : Nat) (Option.some Jvm.ClassFile.FieldType.int)) ∈ am_tb := am_m7 155 rfl rfl
theorem wd_1719 : (Jvm.Cond.methodLink "SnorePlayModel" (220 : Nat) ({ cls := "SnorePlayModel", name := "isSleeper", desc := "(J)Z" } : Jvm.MethodName)) ∈ am_tb := am_m7 156 rfl rfl
theorem wd_1721 : (Jvm.Cond.instanceMethod ({ cls := "SnorePlayModel", name := "isSleeper", desc := "(J)Z" } : Jvm.MethodName)) ∈ am_tb := am_m7 158 rfl rfl
theorem wd_1722 : (Jvm.Cond.code ({ cls := "SnorePlayModel", name := "isSleeper", desc := "(J)Z" } : Jvm.MethodName) prog_14_method_35_code (3 : Nat) (Option.some Jvm.ClassFile.FieldType.boolean)) ∈ am_tb := am_m7 159 rfl rfl
theorem wd_1723 : (Jvm.Cond.methodLink "SnorePlayLaw" (35 : Nat) ({ cls := "SnorePlayModel", name := "would", desc := "(I)I" } : Jvm.MethodName)) ∈ am_tb := am_m7 160 rfl rfl
theorem wd_1724 : (Jvm.Cond.instanceMethod ({ cls := "SnorePlayModel", name := "would", desc := "(I)I" } : Jvm.MethodName)) ∈ am_tb := am_m7 161 rfl rfl
theorem wd_1725 : (Jvm.Cond.selects "SnorePlayModel" ({ cls := "SnorePlayModel", name := "would", desc := "(I)I" } : Jvm.MethodName) ({ cls := "SnorePlayModel", name := "would", desc := "(I)I" } : Jvm.MethodName)) ∈ am_tb := am_m7 162 rfl rfl
theorem wd_1726 : (Jvm.Cond.code ({ cls := "SnorePlayModel", name := "would", desc := "(I)I" } : Jvm.MethodName) prog_14_method_53_code (2 : Nat) (Option.some Jvm.ClassFile.FieldType.int)) ∈ am_tb := am_m7 163 rfl rfl
theorem wd_1727 : (Jvm.Cond.methodLink "SnorePlayModel" (262 : Nat) ({ cls := "SnorePlayModel", name := "standNow", desc := "()I" } : Jvm.MethodName)) ∈ am_tb := am_m7 164 rfl rfl
theorem wd_1729 : (Jvm.Cond.instanceMethod ({ cls := "SnorePlayModel", name := "standNow", desc := "()I" } : Jvm.MethodName)) ∈ am_tb := am_m7 166 rfl rfl
theorem wd_1730 : (Jvm.Cond.code ({ cls := "SnorePlayModel", name := "standNow", desc := "()I" } : Jvm.MethodName) prog_14_method_41_code (1 : Nat) (Option.some Jvm.ClassFile.FieldType.int)) ∈ am_tb := am_m7 167 rfl rfl
theorem wd_1731 : (Jvm.Cond.methodLink "SnorePlayModel" (224 : Nat) ({ cls := "SnorePlayModel", name := "standOf", desc := "(IIII)I" } : Jvm.MethodName)) ∈ am_tb := am_m7 168 rfl rfl
theorem wd_1732 : (Jvm.Cond.static ({ cls := "SnorePlayModel", name := "standOf", desc := "(IIII)I" } : Jvm.MethodName)) ∈ am_tb := am_m7 169 rfl rfl
theorem wd_1733 : (Jvm.Cond.code ({ cls := "SnorePlayModel", name := "standOf", desc := "(IIII)I" } : Jvm.MethodName) prog_14_method_40_code (4 : Nat) (Option.some Jvm.ClassFile.FieldType.int)) ∈ am_tb := am_m7 170 rfl rfl
theorem wd_1734 : (Jvm.Cond.methodLink "SnorePlayModel" (253 : Nat) ({ cls := "SnorePlayModel", name := "wouldOf", desc := "(III)I" } : Jvm.MethodName)) ∈ am_tb := am_m7 171 rfl rfl
theorem wd_1736 : (Jvm.Cond.instanceMethod ({ cls := "SnorePlayModel", name := "wouldOf", desc := "(III)I" } : Jvm.MethodName)) ∈ am_tb := am_m7 173 rfl rfl
theorem wd_1737 : (Jvm.Cond.code ({ cls := "SnorePlayModel", name := "wouldOf", desc := "(III)I" } : Jvm.MethodName) prog_14_method_48_code (4 : Nat) (Option.some Jvm.ClassFile.FieldType.int)) ∈ am_tb := am_m7 174 rfl rfl
theorem wd_1738 : (Jvm.Cond.methodLink "SnorePlayModel" (250 : Nat) ({ cls := "SnorePlayModel", name := "reckons", desc := "(IIII)I" } : Jvm.MethodName)) ∈ am_tb := am_m7 175 rfl rfl
theorem wd_1740 : (Jvm.Cond.instanceMethod ({ cls := "SnorePlayModel", name := "reckons", desc := "(IIII)I" } : Jvm.MethodName)) ∈ am_tb := am_m7 177 rfl rfl
theorem wd_1741 : (Jvm.Cond.code ({ cls := "SnorePlayModel", name := "reckons", desc := "(IIII)I" } : Jvm.MethodName) prog_14_method_47_code (8 : Nat) (Option.some Jvm.ClassFile.FieldType.int)) ∈ am_tb := am_m7 178 rfl rfl
theorem wd_1742 : (Jvm.Cond.methodLink "SnorePlayModel" (231 : Nat) ({ cls := "SnorePlayModel", name := "lastIn", desc := "(I)I" } : Jvm.MethodName)) ∈ am_tb := am_m7 179 rfl rfl
theorem wd_1743 : (Jvm.Cond.static ({ cls := "SnorePlayModel", name := "lastIn", desc := "(I)I" } : Jvm.MethodName)) ∈ am_tb := am_m7 180 rfl rfl
theorem wd_1744 : (Jvm.Cond.code ({ cls := "SnorePlayModel", name := "lastIn", desc := "(I)I" } : Jvm.MethodName) prog_14_method_37_code (1 : Nat) (Option.some Jvm.ClassFile.FieldType.int)) ∈ am_tb := am_m7 181 rfl rfl
theorem wd_1745 : (Jvm.Cond.methodLink "SnorePlayModel" (234 : Nat) ({ cls := "SnorePlayModel", name := "soundIn", desc := "(I)I" } : Jvm.MethodName)) ∈ am_tb := am_m7 182 rfl rfl
theorem wd_1746 : (Jvm.Cond.static ({ cls := "SnorePlayModel", name := "soundIn", desc := "(I)I" } : Jvm.MethodName)) ∈ am_tb := am_m7 183 rfl rfl
theorem wd_1747 : (Jvm.Cond.code ({ cls := "SnorePlayModel", name := "soundIn", desc := "(I)I" } : Jvm.MethodName) prog_14_method_38_code (1 : Nat) (Option.some Jvm.ClassFile.FieldType.int)) ∈ am_tb := am_m7 184 rfl rfl
theorem wd_1748 : (Jvm.Cond.methodLink "SnorePlayModel" (244 : Nat) ({ cls := "SnorePlayModel", name := "farOf", desc := "(II)I" } : Jvm.MethodName)) ∈ am_tb := am_m7 185 rfl rfl
theorem wd_1750 : (Jvm.Cond.instanceMethod ({ cls := "SnorePlayModel", name := "farOf", desc := "(II)I" } : Jvm.MethodName)) ∈ am_tb := am_m7 187 rfl rfl
theorem wd_1751 : (Jvm.Cond.code ({ cls := "SnorePlayModel", name := "farOf", desc := "(II)I" } : Jvm.MethodName) prog_14_method_46_code (4 : Nat) (Option.some Jvm.ClassFile.FieldType.int)) ∈ am_tb := am_m7 188 rfl rfl
theorem wd_1752 : (Jvm.Cond.methodLink "SnorePlayModel" (228 : Nat) ({ cls := "SnorePlayModel", name := "actIn", desc := "(I)I" } : Jvm.MethodName)) ∈ am_tb := am_m7 189 rfl rfl
theorem wd_1753 : (Jvm.Cond.static ({ cls := "SnorePlayModel", name := "actIn", desc := "(I)I" } : Jvm.MethodName)) ∈ am_tb := am_m7 190 rfl rfl
theorem wd_1754 : (Jvm.Cond.code ({ cls := "SnorePlayModel", name := "actIn", desc := "(I)I" } : Jvm.MethodName) prog_14_method_39_code (1 : Nat) (Option.some Jvm.ClassFile.FieldType.int)) ∈ am_tb := am_m7 191 rfl rfl
theorem wd_1755 : (Jvm.Cond.methodLink "SnorePlayModel" (247 : Nat) ({ cls := "SnorePlayModel", name := "between", desc := "(III)I" } : Jvm.MethodName)) ∈ am_tb := am_m7 192 rfl rfl
theorem wd_1756 : (Jvm.Cond.static ({ cls := "SnorePlayModel", name := "between", desc := "(III)I" } : Jvm.MethodName)) ∈ am_tb := am_m7 193 rfl rfl
theorem wd_1757 : (Jvm.Cond.code ({ cls := "SnorePlayModel", name := "between", desc := "(III)I" } : Jvm.MethodName) prog_14_method_45_code (5 : Nat) (Option.some Jvm.ClassFile.FieldType.int)) ∈ am_tb := am_m7 194 rfl rfl
theorem wd_1758 : (Jvm.Cond.constantLong "SnorePlayModel" (240 : Nat) (1000000 : Int64)) ∈ am_tb := am_m7 195 rfl rfl
theorem wd_1759 : (Jvm.Cond.constantLong "SnorePlayModel" (242 : Nat) (-1000000 : Int64)) ∈ am_tb := am_m7 196 rfl rfl
theorem wd_1760 : (Jvm.Cond.constant "SnorePlayModel" (265 : Nat) (-99000002 : Int32)) ∈ am_tb := am_m7 197 rfl rfl
theorem wd_1761 : (Jvm.Cond.methodLink "SnorePlayLaw" (39 : Nat) ({ cls := "SnorePlayModel", name := "by", desc := "(II)I" } : Jvm.MethodName)) ∈ am_tb := am_m7 198 rfl rfl
theorem wd_1762 : (Jvm.Cond.instanceMethod ({ cls := "SnorePlayModel", name := "by", desc := "(II)I" } : Jvm.MethodName)) ∈ am_tb := am_m7 199 rfl rfl
theorem wd_1763 : (Jvm.Cond.selects "SnorePlayModel" ({ cls := "SnorePlayModel", name := "by", desc := "(II)I" } : Jvm.MethodName) ({ cls := "SnorePlayModel", name := "by", desc := "(II)I" } : Jvm.MethodName)) ∈ am_tb := am_m7 200 rfl rfl
theorem wd_1764 : (Jvm.Cond.code ({ cls := "SnorePlayModel", name := "by", desc := "(II)I" } : Jvm.MethodName) prog_14_method_54_code (4 : Nat) (Option.some Jvm.ClassFile.FieldType.int)) ∈ am_tb := am_m7 201 rfl rfl
theorem wd_1765 : (Jvm.Cond.constantLong "SnorePlayModel" (266 : Nat) (2 : Int64)) ∈ am_tb := am_m7 202 rfl rfl
theorem wd_1766 : (Jvm.Cond.methodLink "SnorePlayModel" (268 : Nat) ({ cls := "SnorePlayModel", name := "whyBeat", desc := "(IJ)I" } : Jvm.MethodName)) ∈ am_tb := am_m7 203 rfl rfl
theorem wd_1768 : (Jvm.Cond.instanceMethod ({ cls := "SnorePlayModel", name := "whyBeat", desc := "(IJ)I" } : Jvm.MethodName)) ∈ am_tb := am_m7 205 rfl rfl
theorem wd_1769 : (Jvm.Cond.code ({ cls := "SnorePlayModel", name := "whyBeat", desc := "(IJ)I" } : Jvm.MethodName) prog_14_method_51_code (4 : Nat) (Option.some Jvm.ClassFile.FieldType.int)) ∈ am_tb := am_m7 206 rfl rfl
theorem wd_1770 : (Jvm.Cond.methodLink "SnorePlayModel" (259 : Nat) ({ cls := "SnorePlayModel", name := "isOver", desc := "(I)Z" } : Jvm.MethodName)) ∈ am_tb := am_m7 207 rfl rfl
theorem wd_1772 : (Jvm.Cond.instanceMethod ({ cls := "SnorePlayModel", name := "isOver", desc := "(I)Z" } : Jvm.MethodName)) ∈ am_tb := am_m7 209 rfl rfl
theorem wd_1773 : (Jvm.Cond.code ({ cls := "SnorePlayModel", name := "isOver", desc := "(I)Z" } : Jvm.MethodName) prog_14_method_44_code (2 : Nat) (Option.some Jvm.ClassFile.FieldType.boolean)) ∈ am_tb := am_m7 210 rfl rfl
theorem wd_1774 : (Jvm.Cond.methodLink "SnorePlayModel" (237 : Nat) ({ cls := "SnorePlayModel", name := "hasEnded", desc := "(I)Z" } : Jvm.MethodName)) ∈ am_tb := am_m7 211 rfl rfl
theorem wd_1776 : (Jvm.Cond.instanceMethod ({ cls := "SnorePlayModel", name := "hasEnded", desc := "(I)Z" } : Jvm.MethodName)) ∈ am_tb := am_m7 213 rfl rfl
theorem wd_1777 : (Jvm.Cond.code ({ cls := "SnorePlayModel", name := "hasEnded", desc := "(I)Z" } : Jvm.MethodName) prog_14_method_43_code (2 : Nat) (Option.some Jvm.ClassFile.FieldType.boolean)) ∈ am_tb := am_m7 214 rfl rfl
theorem wd_1778 : (Jvm.Cond.methodLink "SnorePlayModel" (256 : Nat) ({ cls := "SnorePlayModel", name := "snorer", desc := "(III)I" } : Jvm.MethodName)) ∈ am_tb := am_m7 215 rfl rfl
theorem wd_1780 : (Jvm.Cond.instanceMethod ({ cls := "SnorePlayModel", name := "snorer", desc := "(III)I" } : Jvm.MethodName)) ∈ am_tb := am_m7 217 rfl rfl
theorem wd_1781 : (Jvm.Cond.code ({ cls := "SnorePlayModel", name := "snorer", desc := "(III)I" } : Jvm.MethodName) prog_14_method_49_code (8 : Nat) (Option.some Jvm.ClassFile.FieldType.int)) ∈ am_tb := am_m7 218 rfl rfl
theorem wd_1782 : (Jvm.Cond.methodLink "SnorePlayModel" (272 : Nat) ({ cls := "SnorePlayModel", name := "beatTo", desc := "(III)I" } : Jvm.MethodName)) ∈ am_tb := am_m7 219 rfl rfl
theorem wd_1784 : (Jvm.Cond.instanceMethod ({ cls := "SnorePlayModel", name := "beatTo", desc := "(III)I" } : Jvm.MethodName)) ∈ am_tb := am_m7 221 rfl rfl
theorem wd_1785 : (Jvm.Cond.code ({ cls := "SnorePlayModel", name := "beatTo", desc := "(III)I" } : Jvm.MethodName) prog_14_method_50_code (7 : Nat) (Option.some Jvm.ClassFile.FieldType.int)) ∈ am_tb := am_m7 222 rfl rfl
theorem wd_1786 : (Jvm.Cond.methodLink "SnorePlayLaw" (43 : Nat) ({ cls := "SnorePlayModel", name := "beat", desc := "(I)I" } : Jvm.MethodName)) ∈ am_tb := am_m7 223 rfl rfl
theorem wd_1787 : (Jvm.Cond.instanceMethod ({ cls := "SnorePlayModel", name := "beat", desc := "(I)I" } : Jvm.MethodName)) ∈ am_tb := am_m7 224 rfl rfl
theorem wd_1788 : (Jvm.Cond.selects "SnorePlayModel" ({ cls := "SnorePlayModel", name := "beat", desc := "(I)I" } : Jvm.MethodName) ({ cls := "SnorePlayModel", name := "beat", desc := "(I)I" } : Jvm.MethodName)) ∈ am_tb := am_m7 225 rfl rfl
theorem wd_1789 : (Jvm.Cond.code ({ cls := "SnorePlayModel", name := "beat", desc := "(I)I" } : Jvm.MethodName) prog_14_method_59_code (3 : Nat) (Option.some Jvm.ClassFile.FieldType.int)) ∈ am_tb := am_m7 226 rfl rfl
theorem wd_1790 : (Jvm.Cond.methodLink "SnorePlayModel" (278 : Nat) ({ cls := "SnorePlayModel", name := "stores", desc := "()V" } : Jvm.MethodName)) ∈ am_tb := am_m7 227 rfl rfl
theorem wd_1792 : (Jvm.Cond.instanceMethod ({ cls := "SnorePlayModel", name := "stores", desc := "()V" } : Jvm.MethodName)) ∈ am_tb := am_m7 229 rfl rfl
theorem wd_1793 : (Jvm.Cond.code ({ cls := "SnorePlayModel", name := "stores", desc := "()V" } : Jvm.MethodName) prog_14_method_55_code (2 : Nat) (Option.none : Option Jvm.ClassFile.FieldType)) ∈ am_tb := am_m7 230 rfl rfl
theorem wd_1794 : (Jvm.Cond.methodLink "SnorePlayModel" (281 : Nat) ({ cls := "SnorePlayModel", name := "goesBeat", desc := "(I)V" } : Jvm.MethodName)) ∈ am_tb := am_m7 231 rfl rfl
theorem wd_1796 : (Jvm.Cond.instanceMethod ({ cls := "SnorePlayModel", name := "goesBeat", desc := "(I)V" } : Jvm.MethodName)) ∈ am_tb := am_m7 233 rfl rfl
theorem wd_1797 : (Jvm.Cond.code ({ cls := "SnorePlayModel", name := "goesBeat", desc := "(I)V" } : Jvm.MethodName) prog_14_method_58_code (2 : Nat) (Option.none : Option Jvm.ClassFile.FieldType)) ∈ am_tb := am_m7 234 rfl rfl
theorem wd_1798 : (Jvm.Cond.methodLink "SnorePlayModel" (275 : Nat) ({ cls := "SnorePlayModel", name := "isStand", desc := "(I)V" } : Jvm.MethodName)) ∈ am_tb := am_m7 235 rfl rfl
theorem wd_1800 : (Jvm.Cond.instanceMethod ({ cls := "SnorePlayModel", name := "isStand", desc := "(I)V" } : Jvm.MethodName)) ∈ am_tb := am_m7 237 rfl rfl
theorem wd_1801 : (Jvm.Cond.code ({ cls := "SnorePlayModel", name := "isStand", desc := "(I)V" } : Jvm.MethodName) prog_14_method_42_code (2 : Nat) (Option.none : Option Jvm.ClassFile.FieldType)) ∈ am_tb := am_m7 238 rfl rfl
theorem wd_1802 : (Jvm.Cond.methodLink "SnorePlayModel" (284 : Nat) ({ cls := "SnorePlayModel", name := "notes", desc := "()V" } : Jvm.MethodName)) ∈ am_tb := am_m7 239 rfl rfl
theorem wd_1804 : (Jvm.Cond.instanceMethod ({ cls := "SnorePlayModel", name := "notes", desc := "()V" } : Jvm.MethodName)) ∈ am_tb := am_m8 1 rfl rfl
theorem wd_1805 : (Jvm.Cond.code ({ cls := "SnorePlayModel", name := "notes", desc := "()V" } : Jvm.MethodName) prog_14_method_57_code (2 : Nat) (Option.none : Option Jvm.ClassFile.FieldType)) ∈ am_tb := am_m8 2 rfl rfl
theorem wd_1806 : (Jvm.Cond.methodLink "SnorePlayLaw" (47 : Nat) ({ cls := "SnorePlayModel", name := "beats", desc := "(I)I" } : Jvm.MethodName)) ∈ am_tb := am_m8 3 rfl rfl
theorem wd_1807 : (Jvm.Cond.instanceMethod ({ cls := "SnorePlayModel", name := "beats", desc := "(I)I" } : Jvm.MethodName)) ∈ am_tb := am_m8 4 rfl rfl
theorem wd_1808 : (Jvm.Cond.selects "SnorePlayModel" ({ cls := "SnorePlayModel", name := "beats", desc := "(I)I" } : Jvm.MethodName) ({ cls := "SnorePlayModel", name := "beats", desc := "(I)I" } : Jvm.MethodName)) ∈ am_tb := am_m8 5 rfl rfl
theorem wd_1809 : (Jvm.Cond.code ({ cls := "SnorePlayModel", name := "beats", desc := "(I)I" } : Jvm.MethodName) prog_14_method_60_code (3 : Nat) (Option.some Jvm.ClassFile.FieldType.int)) ∈ am_tb := am_m8 6 rfl rfl
theorem wd_1810 : (Jvm.Cond.constantLong "SnorePlayModel" (287 : Nat) (99 : Int64)) ∈ am_tb := am_m8 7 rfl rfl
theorem wd_1811 : (Jvm.Cond.methodLink "SnorePlayLaw" (51 : Nat) ({ cls := "SnorePlayModel", name := "change", desc := "(II)I" } : Jvm.MethodName)) ∈ am_tb := am_m8 8 rfl rfl
theorem wd_1812 : (Jvm.Cond.instanceMethod ({ cls := "SnorePlayModel", name := "change", desc := "(II)I" } : Jvm.MethodName)) ∈ am_tb := am_m8 9 rfl rfl
theorem wd_1813 : (Jvm.Cond.selects "SnorePlayModel" ({ cls := "SnorePlayModel", name := "change", desc := "(II)I" } : Jvm.MethodName) ({ cls := "SnorePlayModel", name := "change", desc := "(II)I" } : Jvm.MethodName)) ∈ am_tb := am_m8 10 rfl rfl
theorem wd_1814 : (Jvm.Cond.code ({ cls := "SnorePlayModel", name := "change", desc := "(II)I" } : Jvm.MethodName) prog_14_method_62_code (3 : Nat) (Option.some Jvm.ClassFile.FieldType.int)) ∈ am_tb := am_m8 11 rfl rfl
theorem wd_1815 : (Jvm.Cond.methodLink "SnorePlayModel" (289 : Nat) ({ cls := "SnorePlayModel", name := "areTwo", desc := "(JJ)Z" } : Jvm.MethodName)) ∈ am_tb := am_m8 12 rfl rfl
theorem wd_1817 : (Jvm.Cond.instanceMethod ({ cls := "SnorePlayModel", name := "areTwo", desc := "(JJ)Z" } : Jvm.MethodName)) ∈ am_tb := am_m8 14 rfl rfl
theorem wd_1818 : (Jvm.Cond.code ({ cls := "SnorePlayModel", name := "areTwo", desc := "(JJ)Z" } : Jvm.MethodName) prog_14_method_36_code (5 : Nat) (Option.some Jvm.ClassFile.FieldType.boolean)) ∈ am_tb := am_m8 15 rfl rfl
theorem wd_1819 : (Jvm.Cond.methodLink "SnorePlayModel" (293 : Nat) ({ cls := "SnorePlayModel", name := "changes", desc := "(II)V" } : Jvm.MethodName)) ∈ am_tb := am_m8 16 rfl rfl
theorem wd_1821 : (Jvm.Cond.instanceMethod ({ cls := "SnorePlayModel", name := "changes", desc := "(II)V" } : Jvm.MethodName)) ∈ am_tb := am_m8 18 rfl rfl
theorem wd_1822 : (Jvm.Cond.code ({ cls := "SnorePlayModel", name := "changes", desc := "(II)V" } : Jvm.MethodName) prog_14_method_61_code (4 : Nat) (Option.none : Option Jvm.ClassFile.FieldType)) ∈ am_tb := am_m8 19 rfl rfl
theorem wd_1823 : (Jvm.Cond.methodLink "SnorePlayLaw" (55 : Nat) ({ cls := "SnorePlayModel", name := "dream", desc := "(II)I" } : Jvm.MethodName)) ∈ am_tb := am_m8 20 rfl rfl
theorem wd_1824 : (Jvm.Cond.instanceMethod ({ cls := "SnorePlayModel", name := "dream", desc := "(II)I" } : Jvm.MethodName)) ∈ am_tb := am_m8 21 rfl rfl
theorem wd_1825 : (Jvm.Cond.selects "SnorePlayModel" ({ cls := "SnorePlayModel", name := "dream", desc := "(II)I" } : Jvm.MethodName) ({ cls := "SnorePlayModel", name := "dream", desc := "(II)I" } : Jvm.MethodName)) ∈ am_tb := am_m8 22 rfl rfl
theorem wd_1826 : (Jvm.Cond.code ({ cls := "SnorePlayModel", name := "dream", desc := "(II)I" } : Jvm.MethodName) prog_14_method_63_code (3 : Nat) (Option.some Jvm.ClassFile.FieldType.int)) ∈ am_tb := am_m8 23 rfl rfl
theorem wd_1827 : (Jvm.Cond.constantLong "SnorePlayModel" (297 : Nat) (9 : Int64)) ∈ am_tb := am_m8 24 rfl rfl
theorem wd_1828 : (Jvm.Cond.methodLink "SnorePlayLaw" (59 : Nat) ({ cls := "SnorePlayModel", name := "hush", desc := "(I)I" } : Jvm.MethodName)) ∈ am_tb := am_m8 25 rfl rfl
theorem wd_1829 : (Jvm.Cond.instanceMethod ({ cls := "SnorePlayModel", name := "hush", desc := "(I)I" } : Jvm.MethodName)) ∈ am_tb := am_m8 26 rfl rfl
theorem wd_1830 : (Jvm.Cond.selects "SnorePlayModel" ({ cls := "SnorePlayModel", name := "hush", desc := "(I)I" } : Jvm.MethodName) ({ cls := "SnorePlayModel", name := "hush", desc := "(I)I" } : Jvm.MethodName)) ∈ am_tb := am_m8 27 rfl rfl
theorem wd_1831 : (Jvm.Cond.code ({ cls := "SnorePlayModel", name := "hush", desc := "(I)I" } : Jvm.MethodName) prog_14_method_64_code (2 : Nat) (Option.some Jvm.ClassFile.FieldType.int)) ∈ am_tb := am_m8 28 rfl rfl
theorem wd_1832 : (Jvm.Cond.methodLink "SnorePlayLaw" (63 : Nat) ({ cls := "SnorePlayModel", name := "undo", desc := "(I)I" } : Jvm.MethodName)) ∈ am_tb := am_m8 29 rfl rfl
theorem wd_1833 : (Jvm.Cond.instanceMethod ({ cls := "SnorePlayModel", name := "undo", desc := "(I)I" } : Jvm.MethodName)) ∈ am_tb := am_m8 30 rfl rfl
theorem wd_1834 : (Jvm.Cond.selects "SnorePlayModel" ({ cls := "SnorePlayModel", name := "undo", desc := "(I)I" } : Jvm.MethodName) ({ cls := "SnorePlayModel", name := "undo", desc := "(I)I" } : Jvm.MethodName)) ∈ am_tb := am_m8 31 rfl rfl
theorem wd_1835 : (Jvm.Cond.code ({ cls := "SnorePlayModel", name := "undo", desc := "(I)I" } : Jvm.MethodName) prog_14_method_65_code (3 : Nat) (Option.some Jvm.ClassFile.FieldType.int)) ∈ am_tb := am_m8 32 rfl rfl
theorem wd_1836 : (Jvm.Cond.constantLong "SnorePlayModel" (299 : Nat) (10 : Int64)) ∈ am_tb := am_m8 33 rfl rfl
theorem wd_1837 : (Jvm.Cond.methodLink "SnorePlayLaw" (67 : Nat) ({ cls := "SnorePlayModel", name := "judge", desc := "(II)I" } : Jvm.MethodName)) ∈ am_tb := am_m8 34 rfl rfl
theorem wd_1838 : (Jvm.Cond.instanceMethod ({ cls := "SnorePlayModel", name := "judge", desc := "(II)I" } : Jvm.MethodName)) ∈ am_tb := am_m8 35 rfl rfl
theorem wd_1839 : (Jvm.Cond.selects "SnorePlayModel" ({ cls := "SnorePlayModel", name := "judge", desc := "(II)I" } : Jvm.MethodName) ({ cls := "SnorePlayModel", name := "judge", desc := "(II)I" } : Jvm.MethodName)) ∈ am_tb := am_m8 36 rfl rfl
theorem wd_1840 : (Jvm.Cond.code ({ cls := "SnorePlayModel", name := "judge", desc := "(II)I" } : Jvm.MethodName) prog_14_method_71_code (7 : Nat) (Option.some Jvm.ClassFile.FieldType.int)) ∈ am_tb := am_m8 37 rfl rfl
theorem wd_1841 : (Jvm.Cond.constantLong "SnorePlayModel" (321 : Nat) (3 : Int64)) ∈ am_tb := am_m8 38 rfl rfl
theorem wd_1842 : (Jvm.Cond.methodLink "SnorePlayModel" (323 : Nat) ({ cls := "SnorePlayModel", name := "noTray", desc := "(I)I" } : Jvm.MethodName)) ∈ am_tb := am_m8 39 rfl rfl
theorem wd_1844 : (Jvm.Cond.instanceMethod ({ cls := "SnorePlayModel", name := "noTray", desc := "(I)I" } : Jvm.MethodName)) ∈ am_tb := am_m8 41 rfl rfl
theorem wd_1845 : (Jvm.Cond.code ({ cls := "SnorePlayModel", name := "noTray", desc := "(I)I" } : Jvm.MethodName) prog_14_method_69_code (2 : Nat) (Option.some Jvm.ClassFile.FieldType.int)) ∈ am_tb := am_m8 42 rfl rfl
theorem wd_1846 : (Jvm.Cond.methodLink "SnorePlayModel" (326 : Nat) ({ cls := "SnorePlayModel", name := "tells", desc := "(I)I" } : Jvm.MethodName)) ∈ am_tb := am_m8 43 rfl rfl
theorem wd_1848 : (Jvm.Cond.instanceMethod ({ cls := "SnorePlayModel", name := "tells", desc := "(I)I" } : Jvm.MethodName)) ∈ am_tb := am_m8 45 rfl rfl
theorem wd_1849 : (Jvm.Cond.code ({ cls := "SnorePlayModel", name := "tells", desc := "(I)I" } : Jvm.MethodName) prog_14_method_68_code (3 : Nat) (Option.some Jvm.ClassFile.FieldType.int)) ∈ am_tb := am_m8 46 rfl rfl
theorem wd_1850 : (Jvm.Cond.methodLink "SnorePlayModel" (314 : Nat) ({ cls := "SnorePlayModel", name := "whyNot", desc := "(J)I" } : Jvm.MethodName)) ∈ am_tb := am_m8 47 rfl rfl
theorem wd_1852 : (Jvm.Cond.instanceMethod ({ cls := "SnorePlayModel", name := "whyNot", desc := "(J)I" } : Jvm.MethodName)) ∈ am_tb := am_m8 49 rfl rfl
theorem wd_1853 : (Jvm.Cond.code ({ cls := "SnorePlayModel", name := "whyNot", desc := "(J)I" } : Jvm.MethodName) prog_14_method_66_code (3 : Nat) (Option.some Jvm.ClassFile.FieldType.int)) ∈ am_tb := am_m8 50 rfl rfl
theorem wd_1854 : (Jvm.Cond.constantLong "SnorePlayModel" (301 : Nat) (19 : Int64)) ∈ am_tb := am_m8 51 rfl rfl
theorem wd_1855 : (Jvm.Cond.constantLong "SnorePlayModel" (303 : Nat) (100 : Int64)) ∈ am_tb := am_m8 52 rfl rfl
theorem wd_1856 : (Jvm.Cond.constantLong "SnorePlayModel" (305 : Nat) (199 : Int64)) ∈ am_tb := am_m8 53 rfl rfl
theorem wd_1857 : (Jvm.Cond.constantLong "SnorePlayModel" (307 : Nat) (200 : Int64)) ∈ am_tb := am_m8 54 rfl rfl
theorem wd_1858 : (Jvm.Cond.constantLong "SnorePlayModel" (309 : Nat) (299 : Int64)) ∈ am_tb := am_m8 55 rfl rfl
theorem wd_1859 : (Jvm.Cond.methodLink "SnorePlayModel" (318 : Nat) ({ cls := "SnorePlayModel", name := "does", desc := "(I)V" } : Jvm.MethodName)) ∈ am_tb := am_m8 56 rfl rfl
theorem wd_1861 : (Jvm.Cond.instanceMethod ({ cls := "SnorePlayModel", name := "does", desc := "(I)V" } : Jvm.MethodName)) ∈ am_tb := am_m8 58 rfl rfl
theorem wd_1862 : (Jvm.Cond.code ({ cls := "SnorePlayModel", name := "does", desc := "(I)V" } : Jvm.MethodName) prog_14_method_67_code (2 : Nat) (Option.none : Option Jvm.ClassFile.FieldType)) ∈ am_tb := am_m8 59 rfl rfl
theorem wd_1863 : (Jvm.Cond.methodLink "SnorePlayModel" (329 : Nat) ({ cls := "SnorePlayModel", name := "lastNow", desc := "()I" } : Jvm.MethodName)) ∈ am_tb := am_m8 60 rfl rfl
theorem wd_1865 : (Jvm.Cond.instanceMethod ({ cls := "SnorePlayModel", name := "lastNow", desc := "()I" } : Jvm.MethodName)) ∈ am_tb := am_m8 62 rfl rfl
theorem wd_1866 : (Jvm.Cond.code ({ cls := "SnorePlayModel", name := "lastNow", desc := "()I" } : Jvm.MethodName) prog_14_method_70_code (1 : Nat) (Option.some Jvm.ClassFile.FieldType.int)) ∈ am_tb := am_m8 63 rfl rfl
theorem wd_1867 : (Jvm.Cond.methodLink "SnorePlayModel" (332 : Nat) ({ cls := "SnorePlayModel", name := "isAgain", desc := "()V" } : Jvm.MethodName)) ∈ am_tb := am_m8 64 rfl rfl
theorem wd_1869 : (Jvm.Cond.instanceMethod ({ cls := "SnorePlayModel", name := "isAgain", desc := "()V" } : Jvm.MethodName)) ∈ am_tb := am_m8 66 rfl rfl
theorem wd_1870 : (Jvm.Cond.code ({ cls := "SnorePlayModel", name := "isAgain", desc := "()V" } : Jvm.MethodName) prog_14_method_56_code (2 : Nat) (Option.none : Option Jvm.ClassFile.FieldType)) ∈ am_tb := am_m8 67 rfl rfl
theorem wd_1871 : (Jvm.Cond.methodLink "SnorePlayLaw" (71 : Nat) ({ cls := "SnorePlayModel", name := "perform", desc := "(I)I" } : Jvm.MethodName)) ∈ am_tb := am_m8 68 rfl rfl
theorem wd_1872 : (Jvm.Cond.instanceMethod ({ cls := "SnorePlayModel", name := "perform", desc := "(I)I" } : Jvm.MethodName)) ∈ am_tb := am_m8 69 rfl rfl
theorem wd_1873 : (Jvm.Cond.selects "SnorePlayModel" ({ cls := "SnorePlayModel", name := "perform", desc := "(I)I" } : Jvm.MethodName) ({ cls := "SnorePlayModel", name := "perform", desc := "(I)I" } : Jvm.MethodName)) ∈ am_tb := am_m8 70 rfl rfl
theorem wd_1874 : (Jvm.Cond.code ({ cls := "SnorePlayModel", name := "perform", desc := "(I)I" } : Jvm.MethodName) prog_14_method_72_code (4 : Nat) (Option.some Jvm.ClassFile.FieldType.int)) ∈ am_tb := am_m8 71 rfl rfl
theorem wd_1875 : (Jvm.Cond.methodLink "SnorePlayLaw" (75 : Nat) ({ cls := "SnorePlayModel", name := "night", desc := "(II)I" } : Jvm.MethodName)) ∈ am_tb := am_m8 72 rfl rfl
theorem wd_1876 : (Jvm.Cond.instanceMethod ({ cls := "SnorePlayModel", name := "night", desc := "(II)I" } : Jvm.MethodName)) ∈ am_tb := am_m8 73 rfl rfl
theorem wd_1877 : (Jvm.Cond.selects "SnorePlayModel" ({ cls := "SnorePlayModel", name := "night", desc := "(II)I" } : Jvm.MethodName) ({ cls := "SnorePlayModel", name := "night", desc := "(II)I" } : Jvm.MethodName)) ∈ am_tb := am_m8 74 rfl rfl
theorem wd_1878 : (Jvm.Cond.code ({ cls := "SnorePlayModel", name := "night", desc := "(II)I" } : Jvm.MethodName) prog_14_method_75_code (6 : Nat) (Option.some Jvm.ClassFile.FieldType.int)) ∈ am_tb := am_m8 75 rfl rfl
theorem wd_1879 : (Jvm.Cond.constantLong "SnorePlayModel" (342 : Nat) (40 : Int64)) ∈ am_tb := am_m8 76 rfl rfl
theorem wd_1880 : (Jvm.Cond.methodLink "SnorePlayModel" (344 : Nat) ({ cls := "SnorePlayModel", name := "drawn", desc := "()I" } : Jvm.MethodName)) ∈ am_tb := am_m8 77 rfl rfl
theorem wd_1882 : (Jvm.Cond.instanceMethod ({ cls := "SnorePlayModel", name := "drawn", desc := "()I" } : Jvm.MethodName)) ∈ am_tb := am_m8 79 rfl rfl
theorem wd_1883 : (Jvm.Cond.code ({ cls := "SnorePlayModel", name := "drawn", desc := "()I" } : Jvm.MethodName) prog_14_method_74_code (3 : Nat) (Option.some Jvm.ClassFile.FieldType.int)) ∈ am_tb := am_m8 80 rfl rfl
theorem wd_1884 : (Jvm.Cond.methodLink "SnorePlayModel" (339 : Nat) ({ cls := "SnorePlayModel", name := "draw", desc := "(I)I" } : Jvm.MethodName)) ∈ am_tb := am_m8 81 rfl rfl
theorem wd_1886 : (Jvm.Cond.instanceMethod ({ cls := "SnorePlayModel", name := "draw", desc := "(I)I" } : Jvm.MethodName)) ∈ am_tb := am_m8 83 rfl rfl
theorem wd_1887 : (Jvm.Cond.code ({ cls := "SnorePlayModel", name := "draw", desc := "(I)I" } : Jvm.MethodName) prog_14_method_73_code (2 : Nat) (Option.some Jvm.ClassFile.FieldType.int)) ∈ am_tb := am_m8 84 rfl rfl
theorem wd_1888 : (Jvm.Cond.constant "SnorePlayModel" (335 : Nat) (1103515245 : Int32)) ∈ am_tb := am_m8 85 rfl rfl
theorem wd_1889 : (Jvm.Cond.methodLink "SnorePlayLaw" (79 : Nat) ({ cls := "SnorePlayModel", name := "goes", desc := "(I)I" } : Jvm.MethodName)) ∈ am_tb := am_m8 86 rfl rfl
theorem wd_1890 : (Jvm.Cond.instanceMethod ({ cls := "SnorePlayModel", name := "goes", desc := "(I)I" } : Jvm.MethodName)) ∈ am_tb := am_m8 87 rfl rfl
theorem wd_1891 : (Jvm.Cond.selects "SnorePlayModel" ({ cls := "SnorePlayModel", name := "goes", desc := "(I)I" } : Jvm.MethodName) ({ cls := "SnorePlayModel", name := "goes", desc := "(I)I" } : Jvm.MethodName)) ∈ am_tb := am_m8 88 rfl rfl
theorem wd_1892 : (Jvm.Cond.code ({ cls := "SnorePlayModel", name := "goes", desc := "(I)I" } : Jvm.MethodName) prog_14_method_78_code (3 : Nat) (Option.some Jvm.ClassFile.FieldType.int)) ∈ am_tb := am_m8 89 rfl rfl
theorem wd_1893 : (Jvm.Cond.methodLink "SnorePlayModel" (356 : Nat) ({ cls := "SnorePlayModel", name := "goesHow", desc := "()I" } : Jvm.MethodName)) ∈ am_tb := am_m8 90 rfl rfl
theorem wd_1895 : (Jvm.Cond.instanceMethod ({ cls := "SnorePlayModel", name := "goesHow", desc := "()I" } : Jvm.MethodName)) ∈ am_tb := am_m8 92 rfl rfl
theorem wd_1896 : (Jvm.Cond.code ({ cls := "SnorePlayModel", name := "goesHow", desc := "()I" } : Jvm.MethodName) prog_14_method_77_code (1 : Nat) (Option.some Jvm.ClassFile.FieldType.int)) ∈ am_tb := am_m8 93 rfl rfl
theorem wd_1897 : (Jvm.Cond.methodLink "SnorePlayModel" (353 : Nat) ({ cls := "SnorePlayModel", name := "laysLine", desc := "()V" } : Jvm.MethodName)) ∈ am_tb := am_m8 94 rfl rfl
theorem wd_1899 : (Jvm.Cond.instanceMethod ({ cls := "SnorePlayModel", name := "laysLine", desc := "()V" } : Jvm.MethodName)) ∈ am_tb := am_m8 96 rfl rfl
theorem wd_1900 : (Jvm.Cond.code ({ cls := "SnorePlayModel", name := "laysLine", desc := "()V" } : Jvm.MethodName) prog_14_method_76_code (2 : Nat) (Option.none : Option Jvm.ClassFile.FieldType)) ∈ am_tb := am_m8 97 rfl rfl
theorem wd_1901 : (Jvm.Cond.methodLink "SnorePlayLaw" (83 : Nat) ({ cls := "SnorePlayModel", name := "lies", desc := "(I)I" } : Jvm.MethodName)) ∈ am_tb := am_m8 98 rfl rfl
theorem wd_1902 : (Jvm.Cond.instanceMethod ({ cls := "SnorePlayModel", name := "lies", desc := "(I)I" } : Jvm.MethodName)) ∈ am_tb := am_m8 99 rfl rfl
theorem wd_1903 : (Jvm.Cond.selects "SnorePlayModel" ({ cls := "SnorePlayModel", name := "lies", desc := "(I)I" } : Jvm.MethodName) ({ cls := "SnorePlayModel", name := "lies", desc := "(I)I" } : Jvm.MethodName)) ∈ am_tb := am_m8 100 rfl rfl
theorem wd_1904 : (Jvm.Cond.code ({ cls := "SnorePlayModel", name := "lies", desc := "(I)I" } : Jvm.MethodName) prog_14_method_79_code (3 : Nat) (Option.some Jvm.ClassFile.FieldType.int)) ∈ am_tb := am_m8 101 rfl rfl
theorem wd_1905 : (Jvm.Cond.constantLong "SnorePlayModel" (359 : Nat) (99999 : Int64)) ∈ am_tb := am_m8 102 rfl rfl
theorem wd_1906 : (Jvm.Cond.methodLink "SnorePlayLaw" (87 : Nat) ({ cls := "SnorePlayModel", name := "round", desc := "(I)I" } : Jvm.MethodName)) ∈ am_tb := am_m8 103 rfl rfl
theorem wd_1907 : (Jvm.Cond.instanceMethod ({ cls := "SnorePlayModel", name := "round", desc := "(I)I" } : Jvm.MethodName)) ∈ am_tb := am_m8 104 rfl rfl
theorem wd_1908 : (Jvm.Cond.selects "SnorePlayModel" ({ cls := "SnorePlayModel", name := "round", desc := "(I)I" } : Jvm.MethodName) ({ cls := "SnorePlayModel", name := "round", desc := "(I)I" } : Jvm.MethodName)) ∈ am_tb := am_m8 105 rfl rfl
theorem wd_1909 : (Jvm.Cond.code ({ cls := "SnorePlayModel", name := "round", desc := "(I)I" } : Jvm.MethodName) prog_14_method_80_code (2 : Nat) (Option.some Jvm.ClassFile.FieldType.int)) ∈ am_tb := am_m8 106 rfl rfl
theorem wd_1910 : (Jvm.Cond.methodLink "SnorePlayLaw" (91 : Nat) ({ cls := "SnorePlayModel", name := "soonest", desc := "(I)I" } : Jvm.MethodName)) ∈ am_tb := am_m8 107 rfl rfl
theorem wd_1911 : (Jvm.Cond.instanceMethod ({ cls := "SnorePlayModel", name := "soonest", desc := "(I)I" } : Jvm.MethodName)) ∈ am_tb := am_m8 108 rfl rfl
theorem wd_1912 : (Jvm.Cond.selects "SnorePlayModel" ({ cls := "SnorePlayModel", name := "soonest", desc := "(I)I" } : Jvm.MethodName) ({ cls := "SnorePlayModel", name := "soonest", desc := "(I)I" } : Jvm.MethodName)) ∈ am_tb := am_m8 109 rfl rfl
theorem wd_1913 : (Jvm.Cond.code ({ cls := "SnorePlayModel", name := "soonest", desc := "(I)I" } : Jvm.MethodName) prog_14_method_87_code (2 : Nat) (Option.some Jvm.ClassFile.FieldType.int)) ∈ am_tb := am_m8 110 rfl rfl
theorem wd_1914 : (Jvm.Cond.methodLink "SnorePlayModel" (378 : Nat) ({ cls := "SnorePlayModel", name := "laysFar", desc := "(I)I" } : Jvm.MethodName)) ∈ am_tb := am_m8 111 rfl rfl
theorem wd_1916 : (Jvm.Cond.instanceMethod ({ cls := "SnorePlayModel", name := "laysFar", desc := "(I)I" } : Jvm.MethodName)) ∈ am_tb := am_m8 113 rfl rfl
theorem wd_1917 : (Jvm.Cond.code ({ cls := "SnorePlayModel", name := "laysFar", desc := "(I)I" } : Jvm.MethodName) prog_14_method_85_code (5 : Nat) (Option.some Jvm.ClassFile.FieldType.int)) ∈ am_tb := am_m8 114 rfl rfl
theorem wd_1918 : (Jvm.Cond.methodLink "SnorePlayModel" (368 : Nat) ({ cls := "SnorePlayModel", name := "laysStands", desc := "()V" } : Jvm.MethodName)) ∈ am_tb := am_m8 115 rfl rfl
theorem wd_1920 : (Jvm.Cond.instanceMethod ({ cls := "SnorePlayModel", name := "laysStands", desc := "()V" } : Jvm.MethodName)) ∈ am_tb := am_m8 117 rfl rfl
theorem wd_1921 : (Jvm.Cond.code ({ cls := "SnorePlayModel", name := "laysStands", desc := "()V" } : Jvm.MethodName) prog_14_method_82_code (4 : Nat) (Option.none : Option Jvm.ClassFile.FieldType)) ∈ am_tb := am_m8 118 rfl rfl
theorem wd_1922 : (Jvm.Cond.methodLink "SnorePlayModel" (364 : Nat) ({ cls := "SnorePlayModel", name := "adds", desc := "(I)V" } : Jvm.MethodName)) ∈ am_tb := am_m8 119 rfl rfl
theorem wd_1924 : (Jvm.Cond.instanceMethod ({ cls := "SnorePlayModel", name := "adds", desc := "(I)V" } : Jvm.MethodName)) ∈ am_tb := am_m8 121 rfl rfl
theorem wd_1925 : (Jvm.Cond.code ({ cls := "SnorePlayModel", name := "adds", desc := "(I)V" } : Jvm.MethodName) prog_14_method_81_code (2 : Nat) (Option.none : Option Jvm.ClassFile.FieldType)) ∈ am_tb := am_m8 122 rfl rfl
theorem wd_1926 : (Jvm.Cond.methodLink "SnorePlayModel" (371 : Nat) ({ cls := "SnorePlayModel", name := "isSo", desc := "(II)Z" } : Jvm.MethodName)) ∈ am_tb := am_m8 123 rfl rfl
theorem wd_1928 : (Jvm.Cond.instanceMethod ({ cls := "SnorePlayModel", name := "isSo", desc := "(II)Z" } : Jvm.MethodName)) ∈ am_tb := am_m8 125 rfl rfl
theorem wd_1929 : (Jvm.Cond.code ({ cls := "SnorePlayModel", name := "isSo", desc := "(II)Z" } : Jvm.MethodName) prog_14_method_83_code (3 : Nat) (Option.some Jvm.ClassFile.FieldType.boolean)) ∈ am_tb := am_m8 126 rfl rfl
theorem wd_1930 : (Jvm.Cond.constant "SnorePlayModel" (367 : Nat) (268435456 : Int32)) ∈ am_tb := am_m8 127 rfl rfl
theorem wd_1931 : (Jvm.Cond.methodLink "SnorePlayModel" (375 : Nat) ({ cls := "SnorePlayModel", name := "farBy", desc := "(II)I" } : Jvm.MethodName)) ∈ am_tb := am_m8 128 rfl rfl
theorem wd_1933 : (Jvm.Cond.instanceMethod ({ cls := "SnorePlayModel", name := "farBy", desc := "(II)I" } : Jvm.MethodName)) ∈ am_tb := am_m8 130 rfl rfl
theorem wd_1934 : (Jvm.Cond.code ({ cls := "SnorePlayModel", name := "farBy", desc := "(II)I" } : Jvm.MethodName) prog_14_method_84_code (4 : Nat) (Option.some Jvm.ClassFile.FieldType.int)) ∈ am_tb := am_m8 131 rfl rfl
theorem wd_1935 : (Jvm.Cond.methodLink "SnorePlayModel" (381 : Nat) ({ cls := "SnorePlayModel", name := "toldFar", desc := "(I)I" } : Jvm.MethodName)) ∈ am_tb := am_m8 132 rfl rfl
theorem wd_1936 : (Jvm.Cond.static ({ cls := "SnorePlayModel", name := "toldFar", desc := "(I)I" } : Jvm.MethodName)) ∈ am_tb := am_m8 133 rfl rfl
theorem wd_1937 : (Jvm.Cond.code ({ cls := "SnorePlayModel", name := "toldFar", desc := "(I)I" } : Jvm.MethodName) prog_14_method_86_code (1 : Nat) (Option.some Jvm.ClassFile.FieldType.int)) ∈ am_tb := am_m8 134 rfl rfl
theorem wd_1938 : (Jvm.Cond.methodLink "SnorePlayLaw" (95 : Nat) ({ cls := "SnorePlayModel", name := "way", desc := "(II)I" } : Jvm.MethodName)) ∈ am_tb := am_m8 135 rfl rfl
theorem wd_1939 : (Jvm.Cond.instanceMethod ({ cls := "SnorePlayModel", name := "way", desc := "(II)I" } : Jvm.MethodName)) ∈ am_tb := am_m8 136 rfl rfl
theorem wd_1940 : (Jvm.Cond.selects "SnorePlayModel" ({ cls := "SnorePlayModel", name := "way", desc := "(II)I" } : Jvm.MethodName) ({ cls := "SnorePlayModel", name := "way", desc := "(II)I" } : Jvm.MethodName)) ∈ am_tb := am_m8 137 rfl rfl
theorem wd_1941 : (Jvm.Cond.code ({ cls := "SnorePlayModel", name := "way", desc := "(II)I" } : Jvm.MethodName) prog_14_method_88_code (6 : Nat) (Option.some Jvm.ClassFile.FieldType.int)) ∈ am_tb := am_m8 138 rfl rfl
theorem wd_1942 : (Jvm.Cond.methodLink "SnorePlayLaw" (100 : Nat) ({ cls := "SnorePlayModel", name := "rows", desc := "(II)J" } : Jvm.MethodName)) ∈ am_tb := am_m8 139 rfl rfl
theorem wd_1943 : (Jvm.Cond.instanceMethod ({ cls := "SnorePlayModel", name := "rows", desc := "(II)J" } : Jvm.MethodName)) ∈ am_tb := am_m8 140 rfl rfl
theorem wd_1944 : (Jvm.Cond.selects "SnorePlayModel" ({ cls := "SnorePlayModel", name := "rows", desc := "(II)J" } : Jvm.MethodName) ({ cls := "SnorePlayModel", name := "rows", desc := "(II)J" } : Jvm.MethodName)) ∈ am_tb := am_m8 141 rfl rfl
theorem wd_1945 : (Jvm.Cond.code ({ cls := "SnorePlayModel", name := "rows", desc := "(II)J" } : Jvm.MethodName) prog_14_method_91_code (7 : Nat) (Option.some Jvm.ClassFile.FieldType.long)) ∈ am_tb := am_m8 142 rfl rfl
theorem wd_1946 : (Jvm.Cond.constantLong "SnorePlayModel" (384 : Nat) (-2 : Int64)) ∈ am_tb := am_m8 143 rfl rfl
theorem wd_1947 : (Jvm.Cond.constantLong "SnorePlayModel" (386 : Nat) (-3 : Int64)) ∈ am_tb := am_m8 144 rfl rfl
theorem wd_1948 : (Jvm.Cond.methodLink "SnorePlayModel" (388 : Nat) ({ cls := "SnorePlayModel", name := "beginsMany", desc := "()V" } : Jvm.MethodName)) ∈ am_tb := am_m8 145 rfl rfl
theorem wd_1950 : (Jvm.Cond.instanceMethod ({ cls := "SnorePlayModel", name := "beginsMany", desc := "()V" } : Jvm.MethodName)) ∈ am_tb := am_m8 147 rfl rfl
theorem wd_1951 : (Jvm.Cond.code ({ cls := "SnorePlayModel", name := "beginsMany", desc := "()V" } : Jvm.MethodName) prog_14_method_89_code (2 : Nat) (Option.none : Option Jvm.ClassFile.FieldType)) ∈ am_tb := am_m8 148 rfl rfl
theorem wd_1952 : (Jvm.Cond.methodLink "SnorePlayModel" (391 : Nat) ({ cls := "SnorePlayModel", name := "isThen", desc := "()V" } : Jvm.MethodName)) ∈ am_tb := am_m8 149 rfl rfl
theorem wd_1954 : (Jvm.Cond.instanceMethod ({ cls := "SnorePlayModel", name := "isThen", desc := "()V" } : Jvm.MethodName)) ∈ am_tb := am_m8 151 rfl rfl
theorem wd_1955 : (Jvm.Cond.code ({ cls := "SnorePlayModel", name := "isThen", desc := "()V" } : Jvm.MethodName) prog_14_method_90_code (2 : Nat) (Option.none : Option Jvm.ClassFile.FieldType)) ∈ am_tb := am_m8 152 rfl rfl
theorem wd_1956 : (Jvm.Cond.methodLink "SnorePlayLaw" (105 : Nat) ({ cls := "SnorePlayModel", name := "keeps", desc := "()I" } : Jvm.MethodName)) ∈ am_tb := am_m8 153 rfl rfl
theorem wd_1957 : (Jvm.Cond.instanceMethod ({ cls := "SnorePlayModel", name := "keeps", desc := "()I" } : Jvm.MethodName)) ∈ am_tb := am_m8 154 rfl rfl
theorem wd_1958 : (Jvm.Cond.selects "SnorePlayModel" ({ cls := "SnorePlayModel", name := "keeps", desc := "()I" } : Jvm.MethodName) ({ cls := "SnorePlayModel", name := "keeps", desc := "()I" } : Jvm.MethodName)) ∈ am_tb := am_m8 155 rfl rfl
theorem wd_1959 : (Jvm.Cond.code ({ cls := "SnorePlayModel", name := "keeps", desc := "()I" } : Jvm.MethodName) prog_14_method_94_code (1 : Nat) (Option.some Jvm.ClassFile.FieldType.int)) ∈ am_tb := am_m8 156 rfl rfl
theorem wd_1960 : (Jvm.Cond.methodLink "SnorePlayModel" (397 : Nat) ({ cls := "SnorePlayModel", name := "laysKept", desc := "()I" } : Jvm.MethodName)) ∈ am_tb := am_m8 157 rfl rfl
theorem wd_1962 : (Jvm.Cond.instanceMethod ({ cls := "SnorePlayModel", name := "laysKept", desc := "()I" } : Jvm.MethodName)) ∈ am_tb := am_m8 159 rfl rfl
theorem wd_1963 : (Jvm.Cond.code ({ cls := "SnorePlayModel", name := "laysKept", desc := "()I" } : Jvm.MethodName) prog_14_method_93_code (6 : Nat) (Option.some Jvm.ClassFile.FieldType.int)) ∈ am_tb := am_m8 160 rfl rfl
theorem wd_1964 : (Jvm.Cond.methodLink "SnorePlayModel" (394 : Nat) ({ cls := "SnorePlayModel", name := "keptBy", desc := "(II)I" } : Jvm.MethodName)) ∈ am_tb := am_m8 161 rfl rfl
theorem wd_1966 : (Jvm.Cond.instanceMethod ({ cls := "SnorePlayModel", name := "keptBy", desc := "(II)I" } : Jvm.MethodName)) ∈ am_tb := am_m8 163 rfl rfl
theorem wd_1967 : (Jvm.Cond.code ({ cls := "SnorePlayModel", name := "keptBy", desc := "(II)I" } : Jvm.MethodName) prog_14_method_92_code (4 : Nat) (Option.some Jvm.ClassFile.FieldType.int)) ∈ am_tb := am_m8 164 rfl rfl
theorem wd_1968 : (Jvm.Cond.methodLink "SnorePlayLaw" (109 : Nat) ({ cls := "SnorePlayModel", name := "keeping", desc := "(I)I" } : Jvm.MethodName)) ∈ am_tb := am_m8 165 rfl rfl
theorem wd_1969 : (Jvm.Cond.instanceMethod ({ cls := "SnorePlayModel", name := "keeping", desc := "(I)I" } : Jvm.MethodName)) ∈ am_tb := am_m8 166 rfl rfl
theorem wd_1970 : (Jvm.Cond.selects "SnorePlayModel" ({ cls := "SnorePlayModel", name := "keeping", desc := "(I)I" } : Jvm.MethodName) ({ cls := "SnorePlayModel", name := "keeping", desc := "(I)I" } : Jvm.MethodName)) ∈ am_tb := am_m8 167 rfl rfl
theorem wd_1971 : (Jvm.Cond.code ({ cls := "SnorePlayModel", name := "keeping", desc := "(I)I" } : Jvm.MethodName) prog_14_method_95_code (5 : Nat) (Option.some Jvm.ClassFile.FieldType.int)) ∈ am_tb := am_m8 168 rfl rfl
theorem wd_1972 : (Jvm.Cond.methodLink "SnorePlayLaw" (113 : Nat) ({ cls := "SnorePlayModel", name := "heardOf", desc := "()I" } : Jvm.MethodName)) ∈ am_tb := am_m8 169 rfl rfl
theorem wd_1973 : (Jvm.Cond.instanceMethod ({ cls := "SnorePlayModel", name := "heardOf", desc := "()I" } : Jvm.MethodName)) ∈ am_tb := am_m8 170 rfl rfl
theorem wd_1974 : (Jvm.Cond.selects "SnorePlayModel" ({ cls := "SnorePlayModel", name := "heardOf", desc := "()I" } : Jvm.MethodName) ({ cls := "SnorePlayModel", name := "heardOf", desc := "()I" } : Jvm.MethodName)) ∈ am_tb := am_m8 171 rfl rfl
theorem wd_1975 : (Jvm.Cond.code ({ cls := "SnorePlayModel", name := "heardOf", desc := "()I" } : Jvm.MethodName) prog_14_method_96_code (5 : Nat) (Option.some Jvm.ClassFile.FieldType.int)) ∈ am_tb := am_m8 172 rfl rfl
theorem wd_1976 : (Jvm.Cond.methodLink "SnorePlayLaw" (117 : Nat) ({ cls := "SnorePlayModel", name := "placing", desc := "(I)I" } : Jvm.MethodName)) ∈ am_tb := am_m8 173 rfl rfl
theorem wd_1977 : (Jvm.Cond.instanceMethod ({ cls := "SnorePlayModel", name := "placing", desc := "(I)I" } : Jvm.MethodName)) ∈ am_tb := am_m8 174 rfl rfl
theorem wd_1978 : (Jvm.Cond.selects "SnorePlayModel" ({ cls := "SnorePlayModel", name := "placing", desc := "(I)I" } : Jvm.MethodName) ({ cls := "SnorePlayModel", name := "placing", desc := "(I)I" } : Jvm.MethodName)) ∈ am_tb := am_m8 175 rfl rfl
theorem wd_1979 : (Jvm.Cond.code ({ cls := "SnorePlayModel", name := "placing", desc := "(I)I" } : Jvm.MethodName) prog_14_method_99_code (3 : Nat) (Option.some Jvm.ClassFile.FieldType.int)) ∈ am_tb := am_m8 176 rfl rfl
theorem wd_1980 : (Jvm.Cond.methodLink "SnorePlayModel" (410 : Nat) ({ cls := "SnorePlayModel", name := "goesPlace", desc := "(II)V" } : Jvm.MethodName)) ∈ am_tb := am_m8 177 rfl rfl
theorem wd_1982 : (Jvm.Cond.instanceMethod ({ cls := "SnorePlayModel", name := "goesPlace", desc := "(II)V" } : Jvm.MethodName)) ∈ am_tb := am_m8 179 rfl rfl
theorem wd_1983 : (Jvm.Cond.code ({ cls := "SnorePlayModel", name := "goesPlace", desc := "(II)V" } : Jvm.MethodName) prog_14_method_97_code (4 : Nat) (Option.none : Option Jvm.ClassFile.FieldType)) ∈ am_tb := am_m8 180 rfl rfl
theorem wd_1984 : (Jvm.Cond.methodLink "SnorePlayModel" (403 : Nat) ({ cls := "SnorePlayModel", name := "isIn", desc := "(JI)Z" } : Jvm.MethodName)) ∈ am_tb := am_m8 181 rfl rfl
theorem wd_1985 : (Jvm.Cond.static ({ cls := "SnorePlayModel", name := "isIn", desc := "(JI)Z" } : Jvm.MethodName)) ∈ am_tb := am_m8 182 rfl rfl
theorem wd_1986 : (Jvm.Cond.code ({ cls := "SnorePlayModel", name := "isIn", desc := "(JI)Z" } : Jvm.MethodName) prog_14_method_15_code (3 : Nat) (Option.some Jvm.ClassFile.FieldType.boolean)) ∈ am_tb := am_m8 183 rfl rfl
theorem wd_1987 : (Jvm.Cond.methodLink "SnorePlayModel" (407 : Nat) ({ cls := "SnorePlayModel", name := "isNowBed", desc := "(I)Z" } : Jvm.MethodName)) ∈ am_tb := am_m8 184 rfl rfl
theorem wd_1989 : (Jvm.Cond.instanceMethod ({ cls := "SnorePlayModel", name := "isNowBed", desc := "(I)Z" } : Jvm.MethodName)) ∈ am_tb := am_m8 186 rfl rfl
theorem wd_1990 : (Jvm.Cond.code ({ cls := "SnorePlayModel", name := "isNowBed", desc := "(I)Z" } : Jvm.MethodName) prog_14_method_98_code (3 : Nat) (Option.some Jvm.ClassFile.FieldType.boolean)) ∈ am_tb := am_m8 187 rfl rfl
theorem wd_1991 : (Jvm.Cond.methodLink "SnorePlayLaw" (121 : Nat) ({ cls := "SnorePlayModel", name := "fills", desc := "(I)I" } : Jvm.MethodName)) ∈ am_tb := am_m8 188 rfl rfl
theorem wd_1992 : (Jvm.Cond.instanceMethod ({ cls := "SnorePlayModel", name := "fills", desc := "(I)I" } : Jvm.MethodName)) ∈ am_tb := am_m8 189 rfl rfl
theorem wd_1993 : (Jvm.Cond.selects "SnorePlayModel" ({ cls := "SnorePlayModel", name := "fills", desc := "(I)I" } : Jvm.MethodName) ({ cls := "SnorePlayModel", name := "fills", desc := "(I)I" } : Jvm.MethodName)) ∈ am_tb := am_m8 190 rfl rfl
theorem wd_1994 : (Jvm.Cond.code ({ cls := "SnorePlayModel", name := "fills", desc := "(I)I" } : Jvm.MethodName) prog_14_method_100_code (5 : Nat) (Option.some Jvm.ClassFile.FieldType.int)) ∈ am_tb := am_m8 191 rfl rfl
theorem wd_1995 : (Jvm.Cond.methodLink "SnorePlayLaw" (126 : Nat) ({ cls := "SnorePlayModel", name := "heard", desc := "(I)J" } : Jvm.MethodName)) ∈ am_tb := am_m8 192 rfl rfl
theorem wd_1996 : (Jvm.Cond.instanceMethod ({ cls := "SnorePlayModel", name := "heard", desc := "(I)J" } : Jvm.MethodName)) ∈ am_tb := am_m8 193 rfl rfl
theorem wd_1997 : (Jvm.Cond.selects "SnorePlayModel" ({ cls := "SnorePlayModel", name := "heard", desc := "(I)J" } : Jvm.MethodName) ({ cls := "SnorePlayModel", name := "heard", desc := "(I)J" } : Jvm.MethodName)) ∈ am_tb := am_m8 194 rfl rfl
theorem wd_1998 : (Jvm.Cond.code ({ cls := "SnorePlayModel", name := "heard", desc := "(I)J" } : Jvm.MethodName) prog_14_method_104_code (3 : Nat) (Option.some Jvm.ClassFile.FieldType.long)) ∈ am_tb := am_m8 195 rfl rfl
theorem wd_1999 : (Jvm.Cond.methodLink "SnorePlayModel" (421 : Nat) ({ cls := "SnorePlayModel", name := "noHeard", desc := "(I)I" } : Jvm.MethodName)) ∈ am_tb := am_m8 196 rfl rfl
theorem wd_2001 : (Jvm.Cond.instanceMethod ({ cls := "SnorePlayModel", name := "noHeard", desc := "(I)I" } : Jvm.MethodName)) ∈ am_tb := am_m8 198 rfl rfl
theorem wd_2002 : (Jvm.Cond.code ({ cls := "SnorePlayModel", name := "noHeard", desc := "(I)I" } : Jvm.MethodName) prog_14_method_101_code (4 : Nat) (Option.some Jvm.ClassFile.FieldType.int)) ∈ am_tb := am_m8 199 rfl rfl
theorem wd_2003 : (Jvm.Cond.constantLong "SnorePlayModel" (413 : Nat) (8 : Int64)) ∈ am_tb := am_m8 200 rfl rfl
theorem wd_2004 : (Jvm.Cond.constantLong "SnorePlayModel" (415 : Nat) (-1 : Int64)) ∈ am_tb := am_m8 201 rfl rfl
theorem wd_2005 : (Jvm.Cond.methodLink "SnorePlayModel" (424 : Nat) ({ cls := "SnorePlayModel", name := "laysHeard", desc := "(I)J" } : Jvm.MethodName)) ∈ am_tb := am_m8 202 rfl rfl
theorem wd_2007 : (Jvm.Cond.instanceMethod ({ cls := "SnorePlayModel", name := "laysHeard", desc := "(I)J" } : Jvm.MethodName)) ∈ am_tb := am_m8 204 rfl rfl
theorem wd_2008 : (Jvm.Cond.code ({ cls := "SnorePlayModel", name := "laysHeard", desc := "(I)J" } : Jvm.MethodName) prog_14_method_103_code (9 : Nat) (Option.some Jvm.ClassFile.FieldType.long)) ∈ am_tb := am_m8 205 rfl rfl
theorem wd_2009 : (Jvm.Cond.methodLink "SnorePlayModel" (417 : Nat) ({ cls := "SnorePlayModel", name := "isHeard", desc := "(III)Z" } : Jvm.MethodName)) ∈ am_tb := am_m8 206 rfl rfl
theorem wd_2011 : (Jvm.Cond.instanceMethod ({ cls := "SnorePlayModel", name := "isHeard", desc := "(III)Z" } : Jvm.MethodName)) ∈ am_tb := am_m8 208 rfl rfl
theorem wd_2012 : (Jvm.Cond.code ({ cls := "SnorePlayModel", name := "isHeard", desc := "(III)Z" } : Jvm.MethodName) prog_14_method_102_code (4 : Nat) (Option.some Jvm.ClassFile.FieldType.boolean)) ∈ am_tb := am_m8 209 rfl rfl
theorem wd_2013 : (Jvm.Cond.methodLink "SnorePlayLaw" (130 : Nat) ({ cls := "SnorePlayModel", name := "heardBy", desc := "(II)I" } : Jvm.MethodName)) ∈ am_tb := am_m8 210 rfl rfl
theorem wd_2014 : (Jvm.Cond.instanceMethod ({ cls := "SnorePlayModel", name := "heardBy", desc := "(II)I" } : Jvm.MethodName)) ∈ am_tb := am_m8 211 rfl rfl
theorem wd_2015 : (Jvm.Cond.selects "SnorePlayModel" ({ cls := "SnorePlayModel", name := "heardBy", desc := "(II)I" } : Jvm.MethodName) ({ cls := "SnorePlayModel", name := "heardBy", desc := "(II)I" } : Jvm.MethodName)) ∈ am_tb := am_m8 212 rfl rfl
theorem wd_2016 : (Jvm.Cond.code ({ cls := "SnorePlayModel", name := "heardBy", desc := "(II)I" } : Jvm.MethodName) prog_14_method_105_code (7 : Nat) (Option.some Jvm.ClassFile.FieldType.int)) ∈ am_tb := am_m8 213 rfl rfl
theorem wd_2017 : (Jvm.Cond.methodLink "SnorePlayLaw" (134 : Nat) ({ cls := "SnorePlayModel", name := "suspects", desc := "(II)I" } : Jvm.MethodName)) ∈ am_tb := am_m8 214 rfl rfl
theorem wd_2018 : (Jvm.Cond.instanceMethod ({ cls := "SnorePlayModel", name := "suspects", desc := "(II)I" } : Jvm.MethodName)) ∈ am_tb := am_m8 215 rfl rfl
theorem wd_2019 : (Jvm.Cond.selects "SnorePlayModel" ({ cls := "SnorePlayModel", name := "suspects", desc := "(II)I" } : Jvm.MethodName) ({ cls := "SnorePlayModel", name := "suspects", desc := "(II)I" } : Jvm.MethodName)) ∈ am_tb := am_m8 216 rfl rfl
theorem wd_2020 : (Jvm.Cond.code ({ cls := "SnorePlayModel", name := "suspects", desc := "(II)I" } : Jvm.MethodName) prog_14_method_106_code (9 : Nat) (Option.some Jvm.ClassFile.FieldType.int)) ∈ am_tb := am_m8 217 rfl rfl
theorem wd_2021 : (Jvm.Cond.methodLink "SnorePlayLaw" (138 : Nat) ({ cls := "SnorePlayModel", name := "hushes", desc := "(I)I" } : Jvm.MethodName)) ∈ am_tb := am_m8 218 rfl rfl
theorem wd_2022 : (Jvm.Cond.instanceMethod ({ cls := "SnorePlayModel", name := "hushes", desc := "(I)I" } : Jvm.MethodName)) ∈ am_tb := am_m8 219 rfl rfl
theorem wd_2023 : (Jvm.Cond.selects "SnorePlayModel" ({ cls := "SnorePlayModel", name := "hushes", desc := "(I)I" } : Jvm.MethodName) ({ cls := "SnorePlayModel", name := "hushes", desc := "(I)I" } : Jvm.MethodName)) ∈ am_tb := am_m8 220 rfl rfl
theorem wd_2024 : (Jvm.Cond.code ({ cls := "SnorePlayModel", name := "hushes", desc := "(I)I" } : Jvm.MethodName) prog_14_method_110_code (3 : Nat) (Option.some Jvm.ClassFile.FieldType.int)) ∈ am_tb := am_m8 221 rfl rfl
theorem wd_2025 : (Jvm.Cond.methodLink "SnorePlayModel" (431 : Nat) ({ cls := "SnorePlayModel", name := "noSaid", desc := "(I)I" } : Jvm.MethodName)) ∈ am_tb := am_m8 222 rfl rfl
theorem wd_2027 : (Jvm.Cond.instanceMethod ({ cls := "SnorePlayModel", name := "noSaid", desc := "(I)I" } : Jvm.MethodName)) ∈ am_tb := am_m8 224 rfl rfl
theorem wd_2028 : (Jvm.Cond.code ({ cls := "SnorePlayModel", name := "noSaid", desc := "(I)I" } : Jvm.MethodName) prog_14_method_107_code (4 : Nat) (Option.some Jvm.ClassFile.FieldType.int)) ∈ am_tb := am_m8 225 rfl rfl
theorem wd_2029 : (Jvm.Cond.methodLink "SnorePlayModel" (434 : Nat) ({ cls := "SnorePlayModel", name := "hushesOf", desc := "(I)I" } : Jvm.MethodName)) ∈ am_tb := am_m8 226 rfl rfl
theorem wd_2031 : (Jvm.Cond.instanceMethod ({ cls := "SnorePlayModel", name := "hushesOf", desc := "(I)I" } : Jvm.MethodName)) ∈ am_tb := am_m8 228 rfl rfl
theorem wd_2032 : (Jvm.Cond.code ({ cls := "SnorePlayModel", name := "hushesOf", desc := "(I)I" } : Jvm.MethodName) prog_14_method_109_code (4 : Nat) (Option.some Jvm.ClassFile.FieldType.int)) ∈ am_tb := am_m8 229 rfl rfl
theorem wd_2033 : (Jvm.Cond.methodLink "SnorePlayModel" (428 : Nat) ({ cls := "SnorePlayModel", name := "isSaid", desc := "(II)Z" } : Jvm.MethodName)) ∈ am_tb := am_m8 230 rfl rfl
theorem wd_2035 : (Jvm.Cond.instanceMethod ({ cls := "SnorePlayModel", name := "isSaid", desc := "(II)Z" } : Jvm.MethodName)) ∈ am_tb := am_m8 232 rfl rfl
theorem wd_2036 : (Jvm.Cond.code ({ cls := "SnorePlayModel", name := "isSaid", desc := "(II)Z" } : Jvm.MethodName) prog_14_method_108_code (5 : Nat) (Option.some Jvm.ClassFile.FieldType.boolean)) ∈ am_tb := am_m8 233 rfl rfl
theorem wd_2037 : (Jvm.Cond.methodLink "SnorePlayLaw" (142 : Nat) ({ cls := "SnorePlayModel", name := "attempt", desc := "(I)I" } : Jvm.MethodName)) ∈ am_tb := am_m8 234 rfl rfl
theorem wd_2038 : (Jvm.Cond.instanceMethod ({ cls := "SnorePlayModel", name := "attempt", desc := "(I)I" } : Jvm.MethodName)) ∈ am_tb := am_m8 235 rfl rfl
theorem wd_2039 : (Jvm.Cond.selects "SnorePlayModel" ({ cls := "SnorePlayModel", name := "attempt", desc := "(I)I" } : Jvm.MethodName) ({ cls := "SnorePlayModel", name := "attempt", desc := "(I)I" } : Jvm.MethodName)) ∈ am_tb := am_m8 236 rfl rfl
theorem wd_2040 : (Jvm.Cond.code ({ cls := "SnorePlayModel", name := "attempt", desc := "(I)I" } : Jvm.MethodName) prog_14_method_112_code (8 : Nat) (Option.some Jvm.ClassFile.FieldType.int)) ∈ am_tb := am_m8 237 rfl rfl
theorem wd_2041 : (Jvm.Cond.methodLink "SnorePlayModel" (437 : Nat) ({ cls := "SnorePlayModel", name := "mostAlike", desc := "(II)I" } : Jvm.MethodName)) ∈ am_tb := am_m8 238 rfl rfl
theorem wd_2043 : (Jvm.Cond.instanceMethod ({ cls := "SnorePlayModel", name := "mostAlike", desc := "(II)I" } : Jvm.MethodName)) ∈ am_tb := am_m9 0 rfl rfl
theorem wd_2044 : (Jvm.Cond.code ({ cls := "SnorePlayModel", name := "mostAlike", desc := "(II)I" } : Jvm.MethodName) prog_14_method_111_code (7 : Nat) (Option.some Jvm.ClassFile.FieldType.int)) ∈ am_tb := am_m9 1 rfl rfl
theorem wd_2045 : (Jvm.Cond.methodLink "SnorePlayLaw" (146 : Nat) ({ cls := "SnorePlayModel", name := "forces", desc := "()I" } : Jvm.MethodName)) ∈ am_tb := am_m9 2 rfl rfl
theorem wd_2046 : (Jvm.Cond.instanceMethod ({ cls := "SnorePlayModel", name := "forces", desc := "()I" } : Jvm.MethodName)) ∈ am_tb := am_m9 3 rfl rfl
theorem wd_2047 : (Jvm.Cond.selects "SnorePlayModel" ({ cls := "SnorePlayModel", name := "forces", desc := "()I" } : Jvm.MethodName) ({ cls := "SnorePlayModel", name := "forces", desc := "()I" } : Jvm.MethodName)) ∈ am_tb := am_m9 4 rfl rfl
theorem wd_2048 : (Jvm.Cond.code ({ cls := "SnorePlayModel", name := "forces", desc := "()I" } : Jvm.MethodName) prog_14_method_116_code (1 : Nat) (Option.some Jvm.ClassFile.FieldType.int)) ∈ am_tb := am_m9 5 rfl rfl
theorem wd_2049 : (Jvm.Cond.methodLink "SnorePlayModel" (446 : Nat) ({ cls := "SnorePlayModel", name := "laysForce", desc := "()I" } : Jvm.MethodName)) ∈ am_tb := am_m9 6 rfl rfl
theorem wd_2051 : (Jvm.Cond.instanceMethod ({ cls := "SnorePlayModel", name := "laysForce", desc := "()I" } : Jvm.MethodName)) ∈ am_tb := am_m9 8 rfl rfl
theorem wd_2052 : (Jvm.Cond.code ({ cls := "SnorePlayModel", name := "laysForce", desc := "()I" } : Jvm.MethodName) prog_14_method_115_code (6 : Nat) (Option.some Jvm.ClassFile.FieldType.int)) ∈ am_tb := am_m9 9 rfl rfl
theorem wd_2053 : (Jvm.Cond.methodLink "SnorePlayModel" (440 : Nat) ({ cls := "SnorePlayModel", name := "firstBy", desc := "(II)I" } : Jvm.MethodName)) ∈ am_tb := am_m9 10 rfl rfl
theorem wd_2055 : (Jvm.Cond.instanceMethod ({ cls := "SnorePlayModel", name := "firstBy", desc := "(II)I" } : Jvm.MethodName)) ∈ am_tb := am_m9 12 rfl rfl
theorem wd_2056 : (Jvm.Cond.code ({ cls := "SnorePlayModel", name := "firstBy", desc := "(II)I" } : Jvm.MethodName) prog_14_method_113_code (4 : Nat) (Option.some Jvm.ClassFile.FieldType.int)) ∈ am_tb := am_m9 13 rfl rfl
theorem wd_2057 : (Jvm.Cond.methodLink "SnorePlayModel" (443 : Nat) ({ cls := "SnorePlayModel", name := "otherAt", desc := "(I)I" } : Jvm.MethodName)) ∈ am_tb := am_m9 14 rfl rfl
theorem wd_2059 : (Jvm.Cond.instanceMethod ({ cls := "SnorePlayModel", name := "otherAt", desc := "(I)I" } : Jvm.MethodName)) ∈ am_tb := am_m9 16 rfl rfl
theorem wd_2060 : (Jvm.Cond.code ({ cls := "SnorePlayModel", name := "otherAt", desc := "(I)I" } : Jvm.MethodName) prog_14_method_114_code (5 : Nat) (Option.some Jvm.ClassFile.FieldType.int)) ∈ am_tb := am_m9 17 rfl rfl
theorem wd_2061 : (Jvm.Cond.methodLink "SnorePlayLaw" (150 : Nat) ({ cls := "SnorePlayModel", name := "best", desc := "()I" } : Jvm.MethodName)) ∈ am_tb := am_m9 18 rfl rfl
theorem wd_2062 : (Jvm.Cond.instanceMethod ({ cls := "SnorePlayModel", name := "best", desc := "()I" } : Jvm.MethodName)) ∈ am_tb := am_m9 19 rfl rfl
theorem wd_2063 : (Jvm.Cond.selects "SnorePlayModel" ({ cls := "SnorePlayModel", name := "best", desc := "()I" } : Jvm.MethodName) ({ cls := "SnorePlayModel", name := "best", desc := "()I" } : Jvm.MethodName)) ∈ am_tb := am_m9 20 rfl rfl
theorem wd_2064 : (Jvm.Cond.code ({ cls := "SnorePlayModel", name := "best", desc := "()I" } : Jvm.MethodName) prog_14_method_117_code (3 : Nat) (Option.some Jvm.ClassFile.FieldType.int)) ∈ am_tb := am_m9 21 rfl rfl
theorem wd_2065 : (Jvm.Cond.methodLink "SnorePlayLaw" (154 : Nat) ({ cls := "SnorePlayModel", name := "chance", desc := "(II)I" } : Jvm.MethodName)) ∈ am_tb := am_m9 22 rfl rfl
theorem wd_2066 : (Jvm.Cond.instanceMethod ({ cls := "SnorePlayModel", name := "chance", desc := "(II)I" } : Jvm.MethodName)) ∈ am_tb := am_m9 23 rfl rfl
theorem wd_2067 : (Jvm.Cond.selects "SnorePlayModel" ({ cls := "SnorePlayModel", name := "chance", desc := "(II)I" } : Jvm.MethodName) ({ cls := "SnorePlayModel", name := "chance", desc := "(II)I" } : Jvm.MethodName)) ∈ am_tb := am_m9 24 rfl rfl
theorem wd_2068 : (Jvm.Cond.code ({ cls := "SnorePlayModel", name := "chance", desc := "(II)I" } : Jvm.MethodName) prog_14_method_123_code (7 : Nat) (Option.some Jvm.ClassFile.FieldType.int)) ∈ am_tb := am_m9 25 rfl rfl
theorem wd_2069 : (Jvm.Cond.methodLink "SnorePlayModel" (455 : Nat) ({ cls := "SnorePlayModel", name := "noChance", desc := "(II)I" } : Jvm.MethodName)) ∈ am_tb := am_m9 26 rfl rfl
theorem wd_2071 : (Jvm.Cond.instanceMethod ({ cls := "SnorePlayModel", name := "noChance", desc := "(II)I" } : Jvm.MethodName)) ∈ am_tb := am_m9 28 rfl rfl
theorem wd_2072 : (Jvm.Cond.code ({ cls := "SnorePlayModel", name := "noChance", desc := "(II)I" } : Jvm.MethodName) prog_14_method_122_code (3 : Nat) (Option.some Jvm.ClassFile.FieldType.int)) ∈ am_tb := am_m9 29 rfl rfl
theorem wd_2073 : (Jvm.Cond.constantLong "SnorePlayModel" (453 : Nat) (7 : Int64)) ∈ am_tb := am_m9 30 rfl rfl
theorem wd_2074 : (Jvm.Cond.methodLink "SnorePlayModel" (458 : Nat) ({ cls := "SnorePlayModel", name := "laysLikely", desc := "(I)V" } : Jvm.MethodName)) ∈ am_tb := am_m9 31 rfl rfl
theorem wd_2076 : (Jvm.Cond.instanceMethod ({ cls := "SnorePlayModel", name := "laysLikely", desc := "(I)V" } : Jvm.MethodName)) ∈ am_tb := am_m9 33 rfl rfl
theorem wd_2077 : (Jvm.Cond.code ({ cls := "SnorePlayModel", name := "laysLikely", desc := "(I)V" } : Jvm.MethodName) prog_14_method_118_code (5 : Nat) (Option.none : Option Jvm.ClassFile.FieldType)) ∈ am_tb := am_m9 34 rfl rfl
theorem wd_2078 : (Jvm.Cond.methodLink "SnorePlayModel" (461 : Nat) ({ cls := "SnorePlayModel", name := "wholeOf", desc := "(I)J" } : Jvm.MethodName)) ∈ am_tb := am_m9 35 rfl rfl
theorem wd_2079 : (Jvm.Cond.static ({ cls := "SnorePlayModel", name := "wholeOf", desc := "(I)J" } : Jvm.MethodName)) ∈ am_tb := am_m9 36 rfl rfl
theorem wd_2080 : (Jvm.Cond.code ({ cls := "SnorePlayModel", name := "wholeOf", desc := "(I)J" } : Jvm.MethodName) prog_14_method_119_code (4 : Nat) (Option.some Jvm.ClassFile.FieldType.long)) ∈ am_tb := am_m9 37 rfl rfl
theorem wd_2081 : (Jvm.Cond.methodLink "SnorePlayModel" (464 : Nat) ({ cls := "SnorePlayModel", name := "part", desc := "(JJI)I" } : Jvm.MethodName)) ∈ am_tb := am_m9 38 rfl rfl
theorem wd_2082 : (Jvm.Cond.static ({ cls := "SnorePlayModel", name := "part", desc := "(JJI)I" } : Jvm.MethodName)) ∈ am_tb := am_m9 39 rfl rfl
theorem wd_2083 : (Jvm.Cond.code ({ cls := "SnorePlayModel", name := "part", desc := "(JJI)I" } : Jvm.MethodName) prog_14_method_121_code (5 : Nat) (Option.some Jvm.ClassFile.FieldType.int)) ∈ am_tb := am_m9 40 rfl rfl
theorem wd_2084 : (Jvm.Cond.methodLink "SnorePlayModel" (449 : Nat) ({ cls := "SnorePlayModel", name := "common", desc := "(JJ)J" } : Jvm.MethodName)) ∈ am_tb := am_m9 41 rfl rfl
theorem wd_2085 : (Jvm.Cond.static ({ cls := "SnorePlayModel", name := "common", desc := "(JJ)J" } : Jvm.MethodName)) ∈ am_tb := am_m9 42 rfl rfl
theorem wd_2086 : (Jvm.Cond.code ({ cls := "SnorePlayModel", name := "common", desc := "(JJ)J" } : Jvm.MethodName) prog_14_method_120_code (4 : Nat) (Option.some Jvm.ClassFile.FieldType.long)) ∈ am_tb := am_m9 43 rfl rfl
theorem wd_2087 : (Jvm.Cond.methodLink "SnorePlayLaw" (158 : Nat) ({ cls := "SnorePlayModel", name := "mean", desc := "(II)I" } : Jvm.MethodName)) ∈ am_tb := am_m9 44 rfl rfl
theorem wd_2088 : (Jvm.Cond.instanceMethod ({ cls := "SnorePlayModel", name := "mean", desc := "(II)I" } : Jvm.MethodName)) ∈ am_tb := am_m9 45 rfl rfl
theorem wd_2089 : (Jvm.Cond.selects "SnorePlayModel" ({ cls := "SnorePlayModel", name := "mean", desc := "(II)I" } : Jvm.MethodName) ({ cls := "SnorePlayModel", name := "mean", desc := "(II)I" } : Jvm.MethodName)) ∈ am_tb := am_m9 46 rfl rfl
theorem wd_2090 : (Jvm.Cond.code ({ cls := "SnorePlayModel", name := "mean", desc := "(II)I" } : Jvm.MethodName) prog_14_method_124_code (7 : Nat) (Option.some Jvm.ClassFile.FieldType.int)) ∈ am_tb := am_m9 47 rfl rfl
theorem wd_2091 : (Jvm.Cond.methodLink "SnorePlayLaw" (163 : Nat) ({ cls := "SnorePlayModel", name := "numbers", desc := "(III)I" } : Jvm.MethodName)) ∈ am_tb := am_m9 48 rfl rfl
theorem wd_2092 : (Jvm.Cond.instanceMethod ({ cls := "SnorePlayModel", name := "numbers", desc := "(III)I" } : Jvm.MethodName)) ∈ am_tb := am_m9 49 rfl rfl
theorem wd_2093 : (Jvm.Cond.selects "SnorePlayModel" ({ cls := "SnorePlayModel", name := "numbers", desc := "(III)I" } : Jvm.MethodName) ({ cls := "SnorePlayModel", name := "numbers", desc := "(III)I" } : Jvm.MethodName)) ∈ am_tb := am_m9 50 rfl rfl
theorem wd_2094 : (Jvm.Cond.code ({ cls := "SnorePlayModel", name := "numbers", desc := "(III)I" } : Jvm.MethodName) prog_14_method_126_code (5 : Nat) (Option.some Jvm.ClassFile.FieldType.int)) ∈ am_tb := am_m9 51 rfl rfl
theorem wd_2095 : (Jvm.Cond.methodLink "SnorePlayLaw" (170 : Nat) ({ cls := "SnorePlayModel", name := "write", desc := "(IIJ)J" } : Jvm.MethodName)) ∈ am_tb := am_m9 52 rfl rfl
theorem wd_2096 : (Jvm.Cond.instanceMethod ({ cls := "SnorePlayModel", name := "write", desc := "(IIJ)J" } : Jvm.MethodName)) ∈ am_tb := am_m9 53 rfl rfl
theorem wd_2097 : (Jvm.Cond.selects "SnorePlayModel" ({ cls := "SnorePlayModel", name := "write", desc := "(IIJ)J" } : Jvm.MethodName) ({ cls := "SnorePlayModel", name := "write", desc := "(IIJ)J" } : Jvm.MethodName)) ∈ am_tb := am_m9 54 rfl rfl
theorem wd_2098 : (Jvm.Cond.code ({ cls := "SnorePlayModel", name := "write", desc := "(IIJ)J" } : Jvm.MethodName) prog_14_method_127_code (6 : Nat) (Option.some Jvm.ClassFile.FieldType.long)) ∈ am_tb := am_m9 55 rfl rfl
theorem wd_2099 : (Jvm.Cond.constantLong "SnorePlayModel" (468 : Nat) (-7 : Int64)) ∈ am_tb := am_m9 56 rfl rfl
theorem wd_2100 : (Jvm.Cond.methodLink "SnorePlayModel" (470 : Nat) ({ cls := "SnorePlayModel", name := "cut", desc := "(JI)J" } : Jvm.MethodName)) ∈ am_tb := am_m9 57 rfl rfl
theorem wd_2101 : (Jvm.Cond.static ({ cls := "SnorePlayModel", name := "cut", desc := "(JI)J" } : Jvm.MethodName)) ∈ am_tb := am_m9 58 rfl rfl
theorem wd_2102 : (Jvm.Cond.code ({ cls := "SnorePlayModel", name := "cut", desc := "(JI)J" } : Jvm.MethodName) prog_14_method_125_code (3 : Nat) (Option.some Jvm.ClassFile.FieldType.long)) ∈ am_tb := am_m9 59 rfl rfl
theorem wd_2103 : (Jvm.Cond.methodLink "SnorePlayLaw" (174 : Nat) ({ cls := "SnorePlayModel", name := "lists", desc := "(II)I" } : Jvm.MethodName)) ∈ am_tb := am_m9 60 rfl rfl
theorem wd_2104 : (Jvm.Cond.instanceMethod ({ cls := "SnorePlayModel", name := "lists", desc := "(II)I" } : Jvm.MethodName)) ∈ am_tb := am_m9 61 rfl rfl
theorem wd_2105 : (Jvm.Cond.selects "SnorePlayModel" ({ cls := "SnorePlayModel", name := "lists", desc := "(II)I" } : Jvm.MethodName) ({ cls := "SnorePlayModel", name := "lists", desc := "(II)I" } : Jvm.MethodName)) ∈ am_tb := am_m9 62 rfl rfl
theorem wd_2106 : (Jvm.Cond.code ({ cls := "SnorePlayModel", name := "lists", desc := "(II)I" } : Jvm.MethodName) prog_14_method_128_code (6 : Nat) (Option.some Jvm.ClassFile.FieldType.int)) ∈ am_tb := am_m9 63 rfl rfl
theorem wd_2107 : (Jvm.Cond.methodLink "SnorePlayLaw" (178 : Nat) ({ cls := "SnorePlayModel", name := "image", desc := "(I)I" } : Jvm.MethodName)) ∈ am_tb := am_m9 64 rfl rfl
theorem wd_2108 : (Jvm.Cond.instanceMethod ({ cls := "SnorePlayModel", name := "image", desc := "(I)I" } : Jvm.MethodName)) ∈ am_tb := am_m9 65 rfl rfl
theorem wd_2109 : (Jvm.Cond.selects "SnorePlayModel" ({ cls := "SnorePlayModel", name := "image", desc := "(I)I" } : Jvm.MethodName) ({ cls := "SnorePlayModel", name := "image", desc := "(I)I" } : Jvm.MethodName)) ∈ am_tb := am_m9 66 rfl rfl
theorem wd_2110 : (Jvm.Cond.code ({ cls := "SnorePlayModel", name := "image", desc := "(I)I" } : Jvm.MethodName) prog_14_method_129_code (3 : Nat) (Option.some Jvm.ClassFile.FieldType.int)) ∈ am_tb := am_m9 67 rfl rfl
theorem wd_2111 : (Jvm.Cond.methodLink "SnorePlayLaw" (182 : Nat) ({ cls := "SnorePlayModel", name := "restore", desc := "(I)I" } : Jvm.MethodName)) ∈ am_tb := am_m9 68 rfl rfl
theorem wd_2112 : (Jvm.Cond.instanceMethod ({ cls := "SnorePlayModel", name := "restore", desc := "(I)I" } : Jvm.MethodName)) ∈ am_tb := am_m9 69 rfl rfl
theorem wd_2113 : (Jvm.Cond.selects "SnorePlayModel" ({ cls := "SnorePlayModel", name := "restore", desc := "(I)I" } : Jvm.MethodName) ({ cls := "SnorePlayModel", name := "restore", desc := "(I)I" } : Jvm.MethodName)) ∈ am_tb := am_m9 70 rfl rfl
theorem wd_2114 : (Jvm.Cond.code ({ cls := "SnorePlayModel", name := "restore", desc := "(I)I" } : Jvm.MethodName) prog_14_method_130_code (3 : Nat) (Option.some Jvm.ClassFile.FieldType.int)) ∈ am_tb := am_m9 71 rfl rfl
theorem wd_2115 : (Jvm.Cond.methodLink "SnorePlayLaw" (186 : Nat) ({ cls := "SnorePlayModel", name := "count", desc := "(I)I" } : Jvm.MethodName)) ∈ am_tb := am_m9 72 rfl rfl
theorem wd_2116 : (Jvm.Cond.instanceMethod ({ cls := "SnorePlayModel", name := "count", desc := "(I)I" } : Jvm.MethodName)) ∈ am_tb := am_m9 73 rfl rfl
theorem wd_2117 : (Jvm.Cond.selects "SnorePlayModel" ({ cls := "SnorePlayModel", name := "count", desc := "(I)I" } : Jvm.MethodName) ({ cls := "SnorePlayModel", name := "count", desc := "(I)I" } : Jvm.MethodName)) ∈ am_tb := am_m9 74 rfl rfl
theorem wd_2118 : (Jvm.Cond.code ({ cls := "SnorePlayModel", name := "count", desc := "(I)I" } : Jvm.MethodName) prog_14_method_131_code (2 : Nat) (Option.some Jvm.ClassFile.FieldType.int)) ∈ am_tb := am_m9 75 rfl rfl
theorem wd_2119 : (Jvm.Cond.constantLong "SnorePlayLaw" (164 : Nat) (4294967295 : Int64)) ∈ am_tb := am_m9 76 rfl rfl
theorem wd_2120 : (Jvm.Cond.fieldLink "java/lang/String" (15 : Nat) "java/lang/String" "coder" "B") ∈ am_tb := am_m9 77 rfl rfl
theorem wd_2121 : (Jvm.Cond.fieldLink "java/lang/String" (9 : Nat) "java/lang/String" "value" "[B") ∈ am_tb := am_m9 78 rfl rfl
theorem am_nz_xr {c i : Nat} (h : am_ft c i ≤ 2) : am_xr (c + 10) i (am_nz c i) := by
  unfold am_xr am_nz
  rw [if_pos (by omega), show c + 10 - 10 = c by omega]
  by_cases h0 : am_ft c i = 0
  · rw [if_pos h0, if_neg (by omega)]; decide +kernel
  · by_cases h1 : am_ft c i = 1
    · rw [if_neg h0, if_pos h1, if_neg (by omega)]; decide +kernel
    · rw [if_neg h0, if_neg h1, if_pos (by omega)]; decide
theorem ftX0 : ∀ j, j < 13 → am_ft 0 j ≤ 2 := by decide +kernel
theorem nzX0 : ∀ j, j < 13 → defaultValue (tyX0 j) = am_fv 0 (am_ft 0 j) (am_nz 0 j) ∧ (am_ft 0 j = 2 → am_nz 0 j = -1) := by decide +kernel
theorem ftX1 : ∀ j, j < 14 → am_ft 1 j ≤ 2 := by decide +kernel
theorem nzX1 : ∀ j, j < 14 → defaultValue (tyX1 j) = am_fv 0 (am_ft 1 j) (am_nz 1 j) ∧ (am_ft 1 j = 2 → am_nz 1 j = -1) := by decide +kernel
theorem ftX2 : ∀ j, j < 3 → am_ft 2 j ≤ 2 := by decide +kernel
theorem nzX2 : ∀ j, j < 3 → defaultValue (tyX2 j) = am_fv 0 (am_ft 2 j) (am_nz 2 j) ∧ (am_ft 2 j = 2 → am_nz 2 j = -1) := by decide +kernel
theorem ftX3 : ∀ j, j < 7 → am_ft 3 j ≤ 2 := by decide +kernel
theorem nzX3 : ∀ j, j < 7 → defaultValue (tyX3 j) = am_fv 0 (am_ft 3 j) (am_nz 3 j) ∧ (am_ft 3 j = 2 → am_nz 3 j = -1) := by decide +kernel
theorem ftX4 : ∀ j, j < 9 → am_ft 4 j ≤ 2 := by decide +kernel
theorem nzX4 : ∀ j, j < 9 → defaultValue (tyX4 j) = am_fv 0 (am_ft 4 j) (am_nz 4 j) ∧ (am_ft 4 j = 2 → am_nz 4 j = -1) := by decide +kernel
theorem ftX5 : ∀ j, j < 4 → am_ft 5 j ≤ 2 := by decide +kernel
theorem nzX5 : ∀ j, j < 4 → defaultValue (tyX5 j) = am_fv 0 (am_ft 5 j) (am_nz 5 j) ∧ (am_ft 5 j = 2 → am_nz 5 j = -1) := by decide +kernel
theorem ftX6 : ∀ j, j < 3 → am_ft 6 j ≤ 2 := by decide +kernel
theorem nzX6 : ∀ j, j < 3 → defaultValue (tyX6 j) = am_fv 0 (am_ft 6 j) (am_nz 6 j) ∧ (am_ft 6 j = 2 → am_nz 6 j = -1) := by decide +kernel
theorem ftX7 : ∀ j, j < 8 → am_ft 7 j ≤ 2 := by decide +kernel
theorem nzX7 : ∀ j, j < 8 → defaultValue (tyX7 j) = am_fv 0 (am_ft 7 j) (am_nz 7 j) ∧ (am_ft 7 j = 2 → am_nz 7 j = -1) := by decide +kernel
theorem ftX8 : ∀ j, j < 5 → am_ft 8 j ≤ 2 := by decide +kernel
theorem nzX8 : ∀ j, j < 5 → defaultValue (tyX8 j) = am_fv 0 (am_ft 8 j) (am_nz 8 j) ∧ (am_ft 8 j = 2 → am_nz 8 j = -1) := by decide +kernel
theorem ftX9 : ∀ j, j < 8 → am_ft 9 j ≤ 2 := by decide +kernel
theorem nzX9 : ∀ j, j < 8 → defaultValue (tyX9 j) = am_fv 0 (am_ft 9 j) (am_nz 9 j) ∧ (am_ft 9 j = 2 → am_nz 9 j = -1) := by decide +kernel
theorem ftX10 : ∀ j, j < 4 → am_ft 10 j ≤ 2 := by decide +kernel
theorem nzX10 : ∀ j, j < 4 → defaultValue (tyX10 j) = am_fv 0 (am_ft 10 j) (am_nz 10 j) ∧ (am_ft 10 j = 2 → am_nz 10 j = -1) := by decide +kernel
theorem ftX11 : ∀ j, j < 19 → am_ft 11 j ≤ 2 := by decide +kernel
theorem nzX11 : ∀ j, j < 19 → defaultValue (tyX11 j) = am_fv 0 (am_ft 11 j) (am_nz 11 j) ∧ (am_ft 11 j = 2 → am_nz 11 j = -1) := by decide +kernel
theorem ftX12 : ∀ j, j < 40 → am_ft 12 j ≤ 2 := by decide +kernel
theorem nzX12 : ∀ j, j < 40 → defaultValue (tyX12 j) = am_fv 0 (am_ft 12 j) (am_nz 12 j) ∧ (am_ft 12 j = 2 → am_nz 12 j = -1) := by decide +kernel
theorem cw_1 : am_cw (⟨"SnorePlayModel", "within", "(JJJ)Z"⟩ : MethodName) prog_14_method_2_code 6 (some .boolean) 3 := ⟨wd_1604, rfl, wd_137, ⟨by decide +kernel, by decide +kernel⟩, by decide +kernel, by decide⟩
theorem cw_2 : am_cw (⟨"SnorePlayModel", "<init>", "()V"⟩ : MethodName) prog_14_method_3_code 1 none 0 := ⟨wd_1468, rfl, wd_137, ⟨by decide +kernel, by decide +kernel⟩, by decide +kernel, by decide⟩
theorem cw_3 : am_cw (⟨"SnorePlayModel", "plain", "([I)V"⟩ : MethodName) prog_14_method_4_code 2 none 1 := ⟨wd_1472, rfl, wd_137, ⟨by decide +kernel, by decide +kernel⟩, by decide +kernel, by decide⟩
theorem cw_4 : am_cw (⟨"SnorePlayModel", "feed", "(IIIII)I"⟩ : MethodName) prog_14_method_5_code 8 (some .int) 5 := ⟨wd_1597, rfl, wd_137, ⟨by decide +kernel, by decide +kernel⟩, by decide +kernel, by decide⟩
theorem cw_5 : am_cw (⟨"SnorePlayModel", "see", "(I)I"⟩ : MethodName) prog_14_method_6_code 2 (some .int) 1 := ⟨wd_1612, rfl, wd_137, ⟨by decide +kernel, by decide +kernel⟩, by decide +kernel, by decide⟩
theorem cw_6 : am_cw (⟨"SnorePlayModel", "isSmall", "(I)Z"⟩ : MethodName) prog_14_method_7_code 1 (some .boolean) 1 := ⟨wd_1615, rfl, wd_137, ⟨by decide +kernel, by decide +kernel⟩, by decide +kernel, by decide⟩
theorem cw_7 : am_cw (⟨"SnorePlayModel", "isDigit", "(I)Z"⟩ : MethodName) prog_14_method_8_code 1 (some .boolean) 1 := ⟨wd_1625, rfl, wd_137, ⟨by decide +kernel, by decide +kernel⟩, by decide +kernel, by decide⟩
theorem cw_8 : am_cw (⟨"SnorePlayModel", "keyAt", "()I"⟩ : MethodName) prog_14_method_9_code 4 (some .int) 0 := ⟨wd_1619, rfl, wd_137, ⟨by decide +kernel, by decide +kernel⟩, by decide +kernel, by decide⟩
theorem cw_9 : am_cw (⟨"SnorePlayModel", "next", "()V"⟩ : MethodName) prog_14_method_10_code 2 none 0 := ⟨wd_1608, rfl, wd_137, ⟨by decide +kernel, by decide +kernel⟩, by decide +kernel, by decide⟩
theorem cw_10 : am_cw (⟨"SnorePlayModel", "fails", "(I)V"⟩ : MethodName) prog_14_method_11_code 2 none 1 := ⟨wd_1638, rfl, wd_137, ⟨by decide +kernel, by decide +kernel⟩, by decide +kernel, by decide⟩
theorem cw_11 : am_cw (⟨"SnorePlayModel", "is", "(I)Z"⟩ : MethodName) prog_14_method_12_code 2 (some .boolean) 1 := ⟨wd_1634, rfl, wd_137, ⟨by decide +kernel, by decide +kernel⟩, by decide +kernel, by decide⟩
theorem cw_12 : am_cw (⟨"SnorePlayModel", "eats", "(I)Z"⟩ : MethodName) prog_14_method_13_code 2 (some .boolean) 1 := ⟨wd_1630, rfl, wd_137, ⟨by decide +kernel, by decide +kernel⟩, by decide +kernel, by decide⟩
theorem cw_13 : am_cw (⟨"SnorePlayModel", "takes", "(II)I"⟩ : MethodName) prog_14_method_14_code 4 (some .int) 2 := ⟨wd_1646, rfl, wd_137, ⟨by decide +kernel, by decide +kernel⟩, by decide +kernel, by decide⟩
theorem cw_14 : am_cw (⟨"SnorePlayModel", "isIn", "(JI)Z"⟩ : MethodName) prog_14_method_15_code 3 (some .boolean) 2 := ⟨wd_1986, rfl, wd_137, ⟨by decide +kernel, by decide +kernel⟩, by decide +kernel, by decide⟩
theorem cw_15 : am_cw (⟨"SnorePlayModel", "wordOf", "(I)I"⟩ : MethodName) prog_14_method_16_code 2 (some .int) 1 := ⟨wd_1690, rfl, wd_137, ⟨by decide +kernel, by decide +kernel⟩, by decide +kernel, by decide⟩
theorem cw_16 : am_cw (⟨"SnorePlayModel", "codes", "(I)V"⟩ : MethodName) prog_14_method_17_code 2 none 1 := ⟨wd_1686, rfl, wd_137, ⟨by decide +kernel, by decide +kernel⟩, by decide +kernel, by decide⟩
theorem cw_17 : am_cw (⟨"SnorePlayModel", "goesIn", "(I)Z"⟩ : MethodName) prog_14_method_18_code 2 (some .boolean) 1 := ⟨wd_1694, rfl, wd_137, ⟨by decide +kernel, by decide +kernel⟩, by decide +kernel, by decide⟩
theorem cw_18 : am_cw (⟨"SnorePlayModel", "readAtom", "(I)V"⟩ : MethodName) prog_14_method_19_code 2 none 1 := ⟨wd_1682, rfl, wd_137, ⟨by decide +kernel, by decide +kernel⟩, by decide +kernel, by decide⟩
theorem cw_19 : am_cw (⟨"SnorePlayModel", "readIf", "(I)V"⟩ : MethodName) prog_14_method_20_code 2 none 1 := ⟨wd_1698, rfl, wd_137, ⟨by decide +kernel, by decide +kernel⟩, by decide +kernel, by decide⟩
theorem cw_20 : am_cw (⟨"SnorePlayModel", "readTerm", "(I)V"⟩ : MethodName) prog_14_method_21_code 2 none 1 := ⟨wd_1678, rfl, wd_137, ⟨by decide +kernel, by decide +kernel⟩, by decide +kernel, by decide⟩
theorem cw_21 : am_cw (⟨"SnorePlayModel", "readSum", "(I)V"⟩ : MethodName) prog_14_method_22_code 3 none 1 := ⟨wd_1674, rfl, wd_137, ⟨by decide +kernel, by decide +kernel⟩, by decide +kernel, by decide⟩
theorem cw_22 : am_cw (⟨"SnorePlayModel", "readUnit", "(I)V"⟩ : MethodName) prog_14_method_23_code 3 none 1 := ⟨wd_1710, rfl, wd_137, ⟨by decide +kernel, by decide +kernel⟩, by decide +kernel, by decide⟩
theorem cw_23 : am_cw (⟨"SnorePlayModel", "readBoth", "(I)V"⟩ : MethodName) prog_14_method_24_code 2 none 1 := ⟨wd_1706, rfl, wd_137, ⟨by decide +kernel, by decide +kernel⟩, by decide +kernel, by decide⟩
theorem cw_24 : am_cw (⟨"SnorePlayModel", "readTruth", "(I)V"⟩ : MethodName) prog_14_method_25_code 2 none 1 := ⟨wd_1702, rfl, wd_137, ⟨by decide +kernel, by decide +kernel⟩, by decide +kernel, by decide⟩
theorem cw_25 : am_cw (⟨"SnorePlayModel", "named", "(III)I"⟩ : MethodName) prog_14_method_26_code 4 (some .int) 3 := ⟨wd_1642, rfl, wd_137, ⟨by decide +kernel, by decide +kernel⟩, by decide +kernel, by decide⟩
theorem cw_26 : am_cw (⟨"SnorePlayModel", "isBedTold", "(I)Z"⟩ : MethodName) prog_14_method_27_code 3 (some .boolean) 1 := ⟨wd_1662, rfl, wd_137, ⟨by decide +kernel, by decide +kernel⟩, by decide +kernel, by decide⟩
theorem cw_27 : am_cw (⟨"SnorePlayModel", "readSleeper", "()V"⟩ : MethodName) prog_14_method_28_code 2 none 0 := ⟨wd_1658, rfl, wd_137, ⟨by decide +kernel, by decide +kernel⟩, by decide +kernel, by decide⟩
theorem cw_28 : am_cw (⟨"SnorePlayModel", "readOpens", "()V"⟩ : MethodName) prog_14_method_29_code 1 none 0 := ⟨wd_1666, rfl, wd_137, ⟨by decide +kernel, by decide +kernel⟩, by decide +kernel, by decide⟩
theorem cw_29 : am_cw (⟨"SnorePlayModel", "readLaw", "(I)V"⟩ : MethodName) prog_14_method_30_code 3 none 1 := ⟨wd_1670, rfl, wd_137, ⟨by decide +kernel, by decide +kernel⟩, by decide +kernel, by decide⟩
theorem cw_30 : am_cw (⟨"SnorePlayModel", "readLine", "()V"⟩ : MethodName) prog_14_method_31_code 1 none 0 := ⟨wd_1654, rfl, wd_137, ⟨by decide +kernel, by decide +kernel⟩, by decide +kernel, by decide⟩
theorem cw_31 : am_cw (⟨"SnorePlayModel", "closes", "()V"⟩ : MethodName) prog_14_method_32_code 1 none 0 := ⟨wd_1650, rfl, wd_137, ⟨by decide +kernel, by decide +kernel⟩, by decide +kernel, by decide⟩
theorem cw_32 : am_cw (⟨"SnorePlayModel", "house", "(I)I"⟩ : MethodName) prog_14_method_33_code 3 (some .int) 1 := ⟨wd_1601, rfl, wd_137, ⟨by decide +kernel, by decide +kernel⟩, by decide +kernel, by decide⟩
theorem cw_33 : am_cw (⟨"SnorePlayModel", "fault", "(I)I"⟩ : MethodName) prog_14_method_34_code 2 (some .int) 1 := ⟨wd_1714, rfl, wd_137, ⟨by decide +kernel, by decide +kernel⟩, by decide +kernel, by decide⟩
theorem cw_34 : am_cw (⟨"SnorePlayModel", "isSleeper", "(J)Z"⟩ : MethodName) prog_14_method_35_code 3 (some .boolean) 1 := ⟨wd_1722, rfl, wd_137, ⟨by decide +kernel, by decide +kernel⟩, by decide +kernel, by decide⟩
theorem cw_35 : am_cw (⟨"SnorePlayModel", "areTwo", "(JJ)Z"⟩ : MethodName) prog_14_method_36_code 5 (some .boolean) 2 := ⟨wd_1818, rfl, wd_137, ⟨by decide +kernel, by decide +kernel⟩, by decide +kernel, by decide⟩
theorem cw_36 : am_cw (⟨"SnorePlayModel", "lastIn", "(I)I"⟩ : MethodName) prog_14_method_37_code 1 (some .int) 1 := ⟨wd_1744, rfl, wd_137, ⟨by decide +kernel, by decide +kernel⟩, by decide +kernel, by decide⟩
theorem cw_37 : am_cw (⟨"SnorePlayModel", "soundIn", "(I)I"⟩ : MethodName) prog_14_method_38_code 1 (some .int) 1 := ⟨wd_1747, rfl, wd_137, ⟨by decide +kernel, by decide +kernel⟩, by decide +kernel, by decide⟩
theorem cw_38 : am_cw (⟨"SnorePlayModel", "actIn", "(I)I"⟩ : MethodName) prog_14_method_39_code 1 (some .int) 1 := ⟨wd_1754, rfl, wd_137, ⟨by decide +kernel, by decide +kernel⟩, by decide +kernel, by decide⟩
theorem cw_39 : am_cw (⟨"SnorePlayModel", "standOf", "(IIII)I"⟩ : MethodName) prog_14_method_40_code 4 (some .int) 4 := ⟨wd_1733, rfl, wd_137, ⟨by decide +kernel, by decide +kernel⟩, by decide +kernel, by decide⟩
theorem cw_40 : am_cw (⟨"SnorePlayModel", "standNow", "()I"⟩ : MethodName) prog_14_method_41_code 1 (some .int) 0 := ⟨wd_1730, rfl, wd_137, ⟨by decide +kernel, by decide +kernel⟩, by decide +kernel, by decide⟩
theorem cw_41 : am_cw (⟨"SnorePlayModel", "isStand", "(I)V"⟩ : MethodName) prog_14_method_42_code 2 none 1 := ⟨wd_1801, rfl, wd_137, ⟨by decide +kernel, by decide +kernel⟩, by decide +kernel, by decide⟩
theorem cw_42 : am_cw (⟨"SnorePlayModel", "hasEnded", "(I)Z"⟩ : MethodName) prog_14_method_43_code 2 (some .boolean) 1 := ⟨wd_1777, rfl, wd_137, ⟨by decide +kernel, by decide +kernel⟩, by decide +kernel, by decide⟩
theorem cw_43 : am_cw (⟨"SnorePlayModel", "isOver", "(I)Z"⟩ : MethodName) prog_14_method_44_code 2 (some .boolean) 1 := ⟨wd_1773, rfl, wd_137, ⟨by decide +kernel, by decide +kernel⟩, by decide +kernel, by decide⟩
theorem cw_44 : am_cw (⟨"SnorePlayModel", "between", "(III)I"⟩ : MethodName) prog_14_method_45_code 5 (some .int) 3 := ⟨wd_1757, rfl, wd_137, ⟨by decide +kernel, by decide +kernel⟩, by decide +kernel, by decide⟩
theorem cw_45 : am_cw (⟨"SnorePlayModel", "farOf", "(II)I"⟩ : MethodName) prog_14_method_46_code 4 (some .int) 2 := ⟨wd_1751, rfl, wd_137, ⟨by decide +kernel, by decide +kernel⟩, by decide +kernel, by decide⟩
theorem cw_46 : am_cw (⟨"SnorePlayModel", "reckons", "(IIII)I"⟩ : MethodName) prog_14_method_47_code 8 (some .int) 4 := ⟨wd_1741, rfl, wd_137, ⟨by decide +kernel, by decide +kernel⟩, by decide +kernel, by decide⟩
theorem cw_47 : am_cw (⟨"SnorePlayModel", "wouldOf", "(III)I"⟩ : MethodName) prog_14_method_48_code 4 (some .int) 3 := ⟨wd_1737, rfl, wd_137, ⟨by decide +kernel, by decide +kernel⟩, by decide +kernel, by decide⟩
theorem cw_48 : am_cw (⟨"SnorePlayModel", "snorer", "(III)I"⟩ : MethodName) prog_14_method_49_code 8 (some .int) 3 := ⟨wd_1781, rfl, wd_137, ⟨by decide +kernel, by decide +kernel⟩, by decide +kernel, by decide⟩
theorem cw_49 : am_cw (⟨"SnorePlayModel", "beatTo", "(III)I"⟩ : MethodName) prog_14_method_50_code 7 (some .int) 3 := ⟨wd_1785, rfl, wd_137, ⟨by decide +kernel, by decide +kernel⟩, by decide +kernel, by decide⟩
theorem cw_50 : am_cw (⟨"SnorePlayModel", "whyBeat", "(IJ)I"⟩ : MethodName) prog_14_method_51_code 4 (some .int) 2 := ⟨wd_1769, rfl, wd_137, ⟨by decide +kernel, by decide +kernel⟩, by decide +kernel, by decide⟩
theorem cw_51 : am_cw (⟨"SnorePlayModel", "sleeper", "(II)I"⟩ : MethodName) prog_14_method_52_code 3 (some .int) 2 := ⟨wd_1718, rfl, wd_137, ⟨by decide +kernel, by decide +kernel⟩, by decide +kernel, by decide⟩
theorem cw_52 : am_cw (⟨"SnorePlayModel", "would", "(I)I"⟩ : MethodName) prog_14_method_53_code 2 (some .int) 1 := ⟨wd_1726, rfl, wd_137, ⟨by decide +kernel, by decide +kernel⟩, by decide +kernel, by decide⟩
theorem cw_53 : am_cw (⟨"SnorePlayModel", "by", "(II)I"⟩ : MethodName) prog_14_method_54_code 4 (some .int) 2 := ⟨wd_1764, rfl, wd_137, ⟨by decide +kernel, by decide +kernel⟩, by decide +kernel, by decide⟩
theorem cw_54 : am_cw (⟨"SnorePlayModel", "stores", "()V"⟩ : MethodName) prog_14_method_55_code 2 none 0 := ⟨wd_1793, rfl, wd_137, ⟨by decide +kernel, by decide +kernel⟩, by decide +kernel, by decide⟩
theorem cw_55 : am_cw (⟨"SnorePlayModel", "isAgain", "()V"⟩ : MethodName) prog_14_method_56_code 2 none 0 := ⟨wd_1870, rfl, wd_137, ⟨by decide +kernel, by decide +kernel⟩, by decide +kernel, by decide⟩
theorem cw_56 : am_cw (⟨"SnorePlayModel", "notes", "()V"⟩ : MethodName) prog_14_method_57_code 2 none 0 := ⟨wd_1805, rfl, wd_137, ⟨by decide +kernel, by decide +kernel⟩, by decide +kernel, by decide⟩
theorem cw_57 : am_cw (⟨"SnorePlayModel", "goesBeat", "(I)V"⟩ : MethodName) prog_14_method_58_code 2 none 1 := ⟨wd_1797, rfl, wd_137, ⟨by decide +kernel, by decide +kernel⟩, by decide +kernel, by decide⟩
theorem cw_58 : am_cw (⟨"SnorePlayModel", "beat", "(I)I"⟩ : MethodName) prog_14_method_59_code 3 (some .int) 1 := ⟨wd_1789, rfl, wd_137, ⟨by decide +kernel, by decide +kernel⟩, by decide +kernel, by decide⟩
theorem cw_59 : am_cw (⟨"SnorePlayModel", "beats", "(I)I"⟩ : MethodName) prog_14_method_60_code 3 (some .int) 1 := ⟨wd_1809, rfl, wd_137, ⟨by decide +kernel, by decide +kernel⟩, by decide +kernel, by decide⟩
theorem cw_60 : am_cw (⟨"SnorePlayModel", "changes", "(II)V"⟩ : MethodName) prog_14_method_61_code 4 none 2 := ⟨wd_1822, rfl, wd_137, ⟨by decide +kernel, by decide +kernel⟩, by decide +kernel, by decide⟩
theorem cw_61 : am_cw (⟨"SnorePlayModel", "change", "(II)I"⟩ : MethodName) prog_14_method_62_code 3 (some .int) 2 := ⟨wd_1814, rfl, wd_137, ⟨by decide +kernel, by decide +kernel⟩, by decide +kernel, by decide⟩
theorem cw_62 : am_cw (⟨"SnorePlayModel", "dream", "(II)I"⟩ : MethodName) prog_14_method_63_code 3 (some .int) 2 := ⟨wd_1826, rfl, wd_137, ⟨by decide +kernel, by decide +kernel⟩, by decide +kernel, by decide⟩
theorem cw_63 : am_cw (⟨"SnorePlayModel", "hush", "(I)I"⟩ : MethodName) prog_14_method_64_code 2 (some .int) 1 := ⟨wd_1831, rfl, wd_137, ⟨by decide +kernel, by decide +kernel⟩, by decide +kernel, by decide⟩
theorem cw_64 : am_cw (⟨"SnorePlayModel", "undo", "(I)I"⟩ : MethodName) prog_14_method_65_code 3 (some .int) 1 := ⟨wd_1835, rfl, wd_137, ⟨by decide +kernel, by decide +kernel⟩, by decide +kernel, by decide⟩
theorem cw_65 : am_cw (⟨"SnorePlayModel", "whyNot", "(J)I"⟩ : MethodName) prog_14_method_66_code 3 (some .int) 1 := ⟨wd_1853, rfl, wd_137, ⟨by decide +kernel, by decide +kernel⟩, by decide +kernel, by decide⟩
theorem cw_66 : am_cw (⟨"SnorePlayModel", "does", "(I)V"⟩ : MethodName) prog_14_method_67_code 2 none 1 := ⟨wd_1862, rfl, wd_137, ⟨by decide +kernel, by decide +kernel⟩, by decide +kernel, by decide⟩
theorem cw_67 : am_cw (⟨"SnorePlayModel", "tells", "(I)I"⟩ : MethodName) prog_14_method_68_code 3 (some .int) 1 := ⟨wd_1849, rfl, wd_137, ⟨by decide +kernel, by decide +kernel⟩, by decide +kernel, by decide⟩
theorem cw_68 : am_cw (⟨"SnorePlayModel", "noTray", "(I)I"⟩ : MethodName) prog_14_method_69_code 2 (some .int) 1 := ⟨wd_1845, rfl, wd_137, ⟨by decide +kernel, by decide +kernel⟩, by decide +kernel, by decide⟩
theorem cw_69 : am_cw (⟨"SnorePlayModel", "lastNow", "()I"⟩ : MethodName) prog_14_method_70_code 1 (some .int) 0 := ⟨wd_1866, rfl, wd_137, ⟨by decide +kernel, by decide +kernel⟩, by decide +kernel, by decide⟩
theorem cw_70 : am_cw (⟨"SnorePlayModel", "judge", "(II)I"⟩ : MethodName) prog_14_method_71_code 7 (some .int) 2 := ⟨wd_1840, rfl, wd_137, ⟨by decide +kernel, by decide +kernel⟩, by decide +kernel, by decide⟩
theorem cw_71 : am_cw (⟨"SnorePlayModel", "perform", "(I)I"⟩ : MethodName) prog_14_method_72_code 4 (some .int) 1 := ⟨wd_1874, rfl, wd_137, ⟨by decide +kernel, by decide +kernel⟩, by decide +kernel, by decide⟩
theorem cw_72 : am_cw (⟨"SnorePlayModel", "draw", "(I)I"⟩ : MethodName) prog_14_method_73_code 2 (some .int) 1 := ⟨wd_1887, rfl, wd_137, ⟨by decide +kernel, by decide +kernel⟩, by decide +kernel, by decide⟩
theorem cw_73 : am_cw (⟨"SnorePlayModel", "drawn", "()I"⟩ : MethodName) prog_14_method_74_code 3 (some .int) 0 := ⟨wd_1883, rfl, wd_137, ⟨by decide +kernel, by decide +kernel⟩, by decide +kernel, by decide⟩
theorem cw_74 : am_cw (⟨"SnorePlayModel", "night", "(II)I"⟩ : MethodName) prog_14_method_75_code 6 (some .int) 2 := ⟨wd_1878, rfl, wd_137, ⟨by decide +kernel, by decide +kernel⟩, by decide +kernel, by decide⟩
theorem cw_75 : am_cw (⟨"SnorePlayModel", "laysLine", "()V"⟩ : MethodName) prog_14_method_76_code 2 none 0 := ⟨wd_1900, rfl, wd_137, ⟨by decide +kernel, by decide +kernel⟩, by decide +kernel, by decide⟩
theorem cw_76 : am_cw (⟨"SnorePlayModel", "goesHow", "()I"⟩ : MethodName) prog_14_method_77_code 1 (some .int) 0 := ⟨wd_1896, rfl, wd_137, ⟨by decide +kernel, by decide +kernel⟩, by decide +kernel, by decide⟩
theorem cw_77 : am_cw (⟨"SnorePlayModel", "goes", "(I)I"⟩ : MethodName) prog_14_method_78_code 3 (some .int) 1 := ⟨wd_1892, rfl, wd_137, ⟨by decide +kernel, by decide +kernel⟩, by decide +kernel, by decide⟩
theorem cw_78 : am_cw (⟨"SnorePlayModel", "lies", "(I)I"⟩ : MethodName) prog_14_method_79_code 3 (some .int) 1 := ⟨wd_1904, rfl, wd_137, ⟨by decide +kernel, by decide +kernel⟩, by decide +kernel, by decide⟩
theorem cw_79 : am_cw (⟨"SnorePlayModel", "round", "(I)I"⟩ : MethodName) prog_14_method_80_code 2 (some .int) 1 := ⟨wd_1909, rfl, wd_137, ⟨by decide +kernel, by decide +kernel⟩, by decide +kernel, by decide⟩
theorem cw_80 : am_cw (⟨"SnorePlayModel", "adds", "(I)V"⟩ : MethodName) prog_14_method_81_code 2 none 1 := ⟨wd_1925, rfl, wd_137, ⟨by decide +kernel, by decide +kernel⟩, by decide +kernel, by decide⟩
theorem cw_81 : am_cw (⟨"SnorePlayModel", "laysStands", "()V"⟩ : MethodName) prog_14_method_82_code 4 none 0 := ⟨wd_1921, rfl, wd_137, ⟨by decide +kernel, by decide +kernel⟩, by decide +kernel, by decide⟩
theorem cw_82 : am_cw (⟨"SnorePlayModel", "isSo", "(II)Z"⟩ : MethodName) prog_14_method_83_code 3 (some .boolean) 2 := ⟨wd_1929, rfl, wd_137, ⟨by decide +kernel, by decide +kernel⟩, by decide +kernel, by decide⟩
theorem cw_83 : am_cw (⟨"SnorePlayModel", "farBy", "(II)I"⟩ : MethodName) prog_14_method_84_code 4 (some .int) 2 := ⟨wd_1934, rfl, wd_137, ⟨by decide +kernel, by decide +kernel⟩, by decide +kernel, by decide⟩
theorem cw_84 : am_cw (⟨"SnorePlayModel", "laysFar", "(I)I"⟩ : MethodName) prog_14_method_85_code 5 (some .int) 1 := ⟨wd_1917, rfl, wd_137, ⟨by decide +kernel, by decide +kernel⟩, by decide +kernel, by decide⟩
theorem cw_85 : am_cw (⟨"SnorePlayModel", "toldFar", "(I)I"⟩ : MethodName) prog_14_method_86_code 1 (some .int) 1 := ⟨wd_1937, rfl, wd_137, ⟨by decide +kernel, by decide +kernel⟩, by decide +kernel, by decide⟩
theorem cw_86 : am_cw (⟨"SnorePlayModel", "soonest", "(I)I"⟩ : MethodName) prog_14_method_87_code 2 (some .int) 1 := ⟨wd_1913, rfl, wd_137, ⟨by decide +kernel, by decide +kernel⟩, by decide +kernel, by decide⟩
theorem cw_87 : am_cw (⟨"SnorePlayModel", "way", "(II)I"⟩ : MethodName) prog_14_method_88_code 6 (some .int) 2 := ⟨wd_1941, rfl, wd_137, ⟨by decide +kernel, by decide +kernel⟩, by decide +kernel, by decide⟩
theorem cw_88 : am_cw (⟨"SnorePlayModel", "beginsMany", "()V"⟩ : MethodName) prog_14_method_89_code 2 none 0 := ⟨wd_1951, rfl, wd_137, ⟨by decide +kernel, by decide +kernel⟩, by decide +kernel, by decide⟩
theorem cw_89 : am_cw (⟨"SnorePlayModel", "isThen", "()V"⟩ : MethodName) prog_14_method_90_code 2 none 0 := ⟨wd_1955, rfl, wd_137, ⟨by decide +kernel, by decide +kernel⟩, by decide +kernel, by decide⟩
theorem cw_90 : am_cw (⟨"SnorePlayModel", "rows", "(II)J"⟩ : MethodName) prog_14_method_91_code 7 (some .long) 2 := ⟨wd_1945, rfl, wd_137, ⟨by decide +kernel, by decide +kernel⟩, by decide +kernel, by decide⟩
theorem cw_91 : am_cw (⟨"SnorePlayModel", "keptBy", "(II)I"⟩ : MethodName) prog_14_method_92_code 4 (some .int) 2 := ⟨wd_1967, rfl, wd_137, ⟨by decide +kernel, by decide +kernel⟩, by decide +kernel, by decide⟩
theorem cw_92 : am_cw (⟨"SnorePlayModel", "laysKept", "()I"⟩ : MethodName) prog_14_method_93_code 6 (some .int) 0 := ⟨wd_1963, rfl, wd_137, ⟨by decide +kernel, by decide +kernel⟩, by decide +kernel, by decide⟩
theorem cw_93 : am_cw (⟨"SnorePlayModel", "keeps", "()I"⟩ : MethodName) prog_14_method_94_code 1 (some .int) 0 := ⟨wd_1959, rfl, wd_137, ⟨by decide +kernel, by decide +kernel⟩, by decide +kernel, by decide⟩
theorem cw_94 : am_cw (⟨"SnorePlayModel", "keeping", "(I)I"⟩ : MethodName) prog_14_method_95_code 5 (some .int) 1 := ⟨wd_1971, rfl, wd_137, ⟨by decide +kernel, by decide +kernel⟩, by decide +kernel, by decide⟩
theorem cw_95 : am_cw (⟨"SnorePlayModel", "heardOf", "()I"⟩ : MethodName) prog_14_method_96_code 5 (some .int) 0 := ⟨wd_1975, rfl, wd_137, ⟨by decide +kernel, by decide +kernel⟩, by decide +kernel, by decide⟩
theorem cw_96 : am_cw (⟨"SnorePlayModel", "goesPlace", "(II)V"⟩ : MethodName) prog_14_method_97_code 4 none 2 := ⟨wd_1983, rfl, wd_137, ⟨by decide +kernel, by decide +kernel⟩, by decide +kernel, by decide⟩
theorem cw_97 : am_cw (⟨"SnorePlayModel", "isNowBed", "(I)Z"⟩ : MethodName) prog_14_method_98_code 3 (some .boolean) 1 := ⟨wd_1990, rfl, wd_137, ⟨by decide +kernel, by decide +kernel⟩, by decide +kernel, by decide⟩
theorem cw_98 : am_cw (⟨"SnorePlayModel", "placing", "(I)I"⟩ : MethodName) prog_14_method_99_code 3 (some .int) 1 := ⟨wd_1979, rfl, wd_137, ⟨by decide +kernel, by decide +kernel⟩, by decide +kernel, by decide⟩
theorem cw_99 : am_cw (⟨"SnorePlayModel", "fills", "(I)I"⟩ : MethodName) prog_14_method_100_code 5 (some .int) 1 := ⟨wd_1994, rfl, wd_137, ⟨by decide +kernel, by decide +kernel⟩, by decide +kernel, by decide⟩
theorem cw_100 : am_cw (⟨"SnorePlayModel", "noHeard", "(I)I"⟩ : MethodName) prog_14_method_101_code 4 (some .int) 1 := ⟨wd_2002, rfl, wd_137, ⟨by decide +kernel, by decide +kernel⟩, by decide +kernel, by decide⟩
theorem cw_101 : am_cw (⟨"SnorePlayModel", "isHeard", "(III)Z"⟩ : MethodName) prog_14_method_102_code 4 (some .boolean) 3 := ⟨wd_2012, rfl, wd_137, ⟨by decide +kernel, by decide +kernel⟩, by decide +kernel, by decide⟩
theorem cw_102 : am_cw (⟨"SnorePlayModel", "laysHeard", "(I)J"⟩ : MethodName) prog_14_method_103_code 9 (some .long) 1 := ⟨wd_2008, rfl, wd_137, ⟨by decide +kernel, by decide +kernel⟩, by decide +kernel, by decide⟩
theorem cw_103 : am_cw (⟨"SnorePlayModel", "heard", "(I)J"⟩ : MethodName) prog_14_method_104_code 3 (some .long) 1 := ⟨wd_1998, rfl, wd_137, ⟨by decide +kernel, by decide +kernel⟩, by decide +kernel, by decide⟩
theorem cw_104 : am_cw (⟨"SnorePlayModel", "heardBy", "(II)I"⟩ : MethodName) prog_14_method_105_code 7 (some .int) 2 := ⟨wd_2016, rfl, wd_137, ⟨by decide +kernel, by decide +kernel⟩, by decide +kernel, by decide⟩
theorem cw_105 : am_cw (⟨"SnorePlayModel", "suspects", "(II)I"⟩ : MethodName) prog_14_method_106_code 9 (some .int) 2 := ⟨wd_2020, rfl, wd_137, ⟨by decide +kernel, by decide +kernel⟩, by decide +kernel, by decide⟩
theorem cw_106 : am_cw (⟨"SnorePlayModel", "noSaid", "(I)I"⟩ : MethodName) prog_14_method_107_code 4 (some .int) 1 := ⟨wd_2028, rfl, wd_137, ⟨by decide +kernel, by decide +kernel⟩, by decide +kernel, by decide⟩
theorem cw_107 : am_cw (⟨"SnorePlayModel", "isSaid", "(II)Z"⟩ : MethodName) prog_14_method_108_code 5 (some .boolean) 2 := ⟨wd_2036, rfl, wd_137, ⟨by decide +kernel, by decide +kernel⟩, by decide +kernel, by decide⟩
theorem cw_108 : am_cw (⟨"SnorePlayModel", "hushesOf", "(I)I"⟩ : MethodName) prog_14_method_109_code 4 (some .int) 1 := ⟨wd_2032, rfl, wd_137, ⟨by decide +kernel, by decide +kernel⟩, by decide +kernel, by decide⟩
theorem cw_109 : am_cw (⟨"SnorePlayModel", "hushes", "(I)I"⟩ : MethodName) prog_14_method_110_code 3 (some .int) 1 := ⟨wd_2024, rfl, wd_137, ⟨by decide +kernel, by decide +kernel⟩, by decide +kernel, by decide⟩
theorem cw_110 : am_cw (⟨"SnorePlayModel", "mostAlike", "(II)I"⟩ : MethodName) prog_14_method_111_code 7 (some .int) 2 := ⟨wd_2044, rfl, wd_137, ⟨by decide +kernel, by decide +kernel⟩, by decide +kernel, by decide⟩
theorem cw_111 : am_cw (⟨"SnorePlayModel", "attempt", "(I)I"⟩ : MethodName) prog_14_method_112_code 8 (some .int) 1 := ⟨wd_2040, rfl, wd_137, ⟨by decide +kernel, by decide +kernel⟩, by decide +kernel, by decide⟩
theorem cw_112 : am_cw (⟨"SnorePlayModel", "firstBy", "(II)I"⟩ : MethodName) prog_14_method_113_code 4 (some .int) 2 := ⟨wd_2056, rfl, wd_137, ⟨by decide +kernel, by decide +kernel⟩, by decide +kernel, by decide⟩
theorem cw_113 : am_cw (⟨"SnorePlayModel", "otherAt", "(I)I"⟩ : MethodName) prog_14_method_114_code 5 (some .int) 1 := ⟨wd_2060, rfl, wd_137, ⟨by decide +kernel, by decide +kernel⟩, by decide +kernel, by decide⟩
theorem cw_114 : am_cw (⟨"SnorePlayModel", "laysForce", "()I"⟩ : MethodName) prog_14_method_115_code 6 (some .int) 0 := ⟨wd_2052, rfl, wd_137, ⟨by decide +kernel, by decide +kernel⟩, by decide +kernel, by decide⟩
theorem cw_115 : am_cw (⟨"SnorePlayModel", "forces", "()I"⟩ : MethodName) prog_14_method_116_code 1 (some .int) 0 := ⟨wd_2048, rfl, wd_137, ⟨by decide +kernel, by decide +kernel⟩, by decide +kernel, by decide⟩
theorem cw_116 : am_cw (⟨"SnorePlayModel", "best", "()I"⟩ : MethodName) prog_14_method_117_code 3 (some .int) 0 := ⟨wd_2064, rfl, wd_137, ⟨by decide +kernel, by decide +kernel⟩, by decide +kernel, by decide⟩
theorem cw_117 : am_cw (⟨"SnorePlayModel", "laysLikely", "(I)V"⟩ : MethodName) prog_14_method_118_code 5 none 1 := ⟨wd_2077, rfl, wd_137, ⟨by decide +kernel, by decide +kernel⟩, by decide +kernel, by decide⟩
theorem cw_118 : am_cw (⟨"SnorePlayModel", "wholeOf", "(I)J"⟩ : MethodName) prog_14_method_119_code 4 (some .long) 1 := ⟨wd_2080, rfl, wd_137, ⟨by decide +kernel, by decide +kernel⟩, by decide +kernel, by decide⟩
theorem cw_119 : am_cw (⟨"SnorePlayModel", "common", "(JJ)J"⟩ : MethodName) prog_14_method_120_code 4 (some .long) 2 := ⟨wd_2086, rfl, wd_137, ⟨by decide +kernel, by decide +kernel⟩, by decide +kernel, by decide⟩
theorem cw_120 : am_cw (⟨"SnorePlayModel", "part", "(JJI)I"⟩ : MethodName) prog_14_method_121_code 5 (some .int) 3 := ⟨wd_2083, rfl, wd_137, ⟨by decide +kernel, by decide +kernel⟩, by decide +kernel, by decide⟩
theorem cw_121 : am_cw (⟨"SnorePlayModel", "noChance", "(II)I"⟩ : MethodName) prog_14_method_122_code 3 (some .int) 2 := ⟨wd_2072, rfl, wd_137, ⟨by decide +kernel, by decide +kernel⟩, by decide +kernel, by decide⟩
theorem cw_122 : am_cw (⟨"SnorePlayModel", "chance", "(II)I"⟩ : MethodName) prog_14_method_123_code 7 (some .int) 2 := ⟨wd_2068, rfl, wd_137, ⟨by decide +kernel, by decide +kernel⟩, by decide +kernel, by decide⟩
theorem cw_123 : am_cw (⟨"SnorePlayModel", "mean", "(II)I"⟩ : MethodName) prog_14_method_124_code 7 (some .int) 2 := ⟨wd_2090, rfl, wd_137, ⟨by decide +kernel, by decide +kernel⟩, by decide +kernel, by decide⟩
theorem cw_124 : am_cw (⟨"SnorePlayModel", "cut", "(JI)J"⟩ : MethodName) prog_14_method_125_code 3 (some .long) 2 := ⟨wd_2102, rfl, wd_137, ⟨by decide +kernel, by decide +kernel⟩, by decide +kernel, by decide⟩
theorem cw_125 : am_cw (⟨"SnorePlayModel", "numbers", "(III)I"⟩ : MethodName) prog_14_method_126_code 5 (some .int) 3 := ⟨wd_2094, rfl, wd_137, ⟨by decide +kernel, by decide +kernel⟩, by decide +kernel, by decide⟩
theorem cw_126 : am_cw (⟨"SnorePlayModel", "write", "(IIJ)J"⟩ : MethodName) prog_14_method_127_code 6 (some .long) 3 := ⟨wd_2098, rfl, wd_137, ⟨by decide +kernel, by decide +kernel⟩, by decide +kernel, by decide⟩
theorem cw_127 : am_cw (⟨"SnorePlayModel", "lists", "(II)I"⟩ : MethodName) prog_14_method_128_code 6 (some .int) 2 := ⟨wd_2106, rfl, wd_137, ⟨by decide +kernel, by decide +kernel⟩, by decide +kernel, by decide⟩
theorem cw_128 : am_cw (⟨"SnorePlayModel", "image", "(I)I"⟩ : MethodName) prog_14_method_129_code 3 (some .int) 1 := ⟨wd_2110, rfl, wd_137, ⟨by decide +kernel, by decide +kernel⟩, by decide +kernel, by decide⟩
theorem cw_129 : am_cw (⟨"SnorePlayModel", "restore", "(I)I"⟩ : MethodName) prog_14_method_130_code 3 (some .int) 1 := ⟨wd_2114, rfl, wd_137, ⟨by decide +kernel, by decide +kernel⟩, by decide +kernel, by decide⟩
theorem cw_130 : am_cw (⟨"SnorePlayModel", "count", "(I)I"⟩ : MethodName) prog_14_method_131_code 2 (some .int) 1 := ⟨wd_2118, rfl, wd_137, ⟨by decide +kernel, by decide +kernel⟩, by decide +kernel, by decide⟩
theorem cw_131 : am_cw (⟨"SnorePlay", "<init>", "()V"⟩ : MethodName) prog_1_method_1_code 3 none 0 := ⟨wd_149, rfl, wd_124, ⟨by decide +kernel, by decide +kernel⟩, by decide +kernel, by decide⟩
theorem cw_132 : am_cw (⟨"SnorePlay", "feed", "(IIIII)I"⟩ : MethodName) prog_1_method_2_code 6 (some .int) 5 := ⟨wd_613, rfl, wd_124, ⟨by decide +kernel, by decide +kernel⟩, by decide +kernel, by decide⟩
theorem cw_133 : am_cw (⟨"SnorePlay", "putOnTape", "(I)V"⟩ : MethodName) prog_1_method_3_code 3 none 1 := ⟨wd_617, rfl, wd_124, ⟨by decide +kernel, by decide +kernel⟩, by decide +kernel, by decide⟩
theorem cw_134 : am_cw (⟨"SnorePlay", "house", "(I)I"⟩ : MethodName) prog_1_method_4_code 3 (some .int) 1 := ⟨wd_621, rfl, wd_124, ⟨by decide +kernel, by decide +kernel⟩, by decide +kernel, by decide⟩
theorem cw_135 : am_cw (⟨"SnorePlay", "fault", "(I)I"⟩ : MethodName) prog_1_method_5_code 2 (some .int) 1 := ⟨wd_901, rfl, wd_124, ⟨by decide +kernel, by decide +kernel⟩, by decide +kernel, by decide⟩
theorem cw_136 : am_cw (⟨"SnorePlay", "sleeper", "(II)I"⟩ : MethodName) prog_1_method_6_code 3 (some .int) 2 := ⟨wd_905, rfl, wd_124, ⟨by decide +kernel, by decide +kernel⟩, by decide +kernel, by decide⟩
theorem cw_137 : am_cw (⟨"SnorePlay", "would", "(I)I"⟩ : MethodName) prog_1_method_7_code 2 (some .int) 1 := ⟨wd_913, rfl, wd_124, ⟨by decide +kernel, by decide +kernel⟩, by decide +kernel, by decide⟩
theorem cw_138 : am_cw (⟨"SnorePlay", "by", "(II)I"⟩ : MethodName) prog_1_method_8_code 4 (some .int) 2 := ⟨wd_950, rfl, wd_124, ⟨by decide +kernel, by decide +kernel⟩, by decide +kernel, by decide⟩
theorem cw_139 : am_cw (⟨"SnorePlay", "beat", "(I)I"⟩ : MethodName) prog_1_method_9_code 3 (some .int) 1 := ⟨wd_995, rfl, wd_124, ⟨by decide +kernel, by decide +kernel⟩, by decide +kernel, by decide⟩
theorem cw_140 : am_cw (⟨"SnorePlay", "beats", "(I)I"⟩ : MethodName) prog_1_method_10_code 4 (some .int) 1 := ⟨wd_1005, rfl, wd_124, ⟨by decide +kernel, by decide +kernel⟩, by decide +kernel, by decide⟩
theorem cw_141 : am_cw (⟨"SnorePlay", "change", "(II)I"⟩ : MethodName) prog_1_method_11_code 3 (some .int) 2 := ⟨wd_1010, rfl, wd_124, ⟨by decide +kernel, by decide +kernel⟩, by decide +kernel, by decide⟩
theorem cw_142 : am_cw (⟨"SnorePlay", "dream", "(II)I"⟩ : MethodName) prog_1_method_12_code 4 (some .int) 2 := ⟨wd_1018, rfl, wd_124, ⟨by decide +kernel, by decide +kernel⟩, by decide +kernel, by decide⟩
theorem cw_143 : am_cw (⟨"SnorePlay", "hush", "(I)I"⟩ : MethodName) prog_1_method_13_code 3 (some .int) 1 := ⟨wd_1022, rfl, wd_124, ⟨by decide +kernel, by decide +kernel⟩, by decide +kernel, by decide⟩
theorem cw_144 : am_cw (⟨"SnorePlay", "undo", "(I)I"⟩ : MethodName) prog_1_method_14_code 2 (some .int) 1 := ⟨wd_1026, rfl, wd_124, ⟨by decide +kernel, by decide +kernel⟩, by decide +kernel, by decide⟩
theorem cw_145 : am_cw (⟨"SnorePlay", "judge", "(II)I"⟩ : MethodName) prog_1_method_15_code 6 (some .int) 2 := ⟨wd_1035, rfl, wd_124, ⟨by decide +kernel, by decide +kernel⟩, by decide +kernel, by decide⟩
theorem cw_146 : am_cw (⟨"SnorePlay", "perform", "(I)I"⟩ : MethodName) prog_1_method_16_code 4 (some .int) 1 := ⟨wd_1053, rfl, wd_124, ⟨by decide +kernel, by decide +kernel⟩, by decide +kernel, by decide⟩
theorem cw_147 : am_cw (⟨"SnorePlay", "night", "(II)I"⟩ : MethodName) prog_1_method_17_code 6 (some .int) 2 := ⟨wd_1057, rfl, wd_124, ⟨by decide +kernel, by decide +kernel⟩, by decide +kernel, by decide⟩
theorem cw_148 : am_cw (⟨"SnorePlay", "draw", "(I)I"⟩ : MethodName) prog_1_method_18_code 2 (some .int) 1 := ⟨wd_1065, rfl, wd_124, ⟨by decide +kernel, by decide +kernel⟩, by decide +kernel, by decide⟩
theorem cw_149 : am_cw (⟨"SnorePlay", "drawDeed", "()I"⟩ : MethodName) prog_1_method_19_code 3 (some .int) 0 := ⟨wd_1061, rfl, wd_124, ⟨by decide +kernel, by decide +kernel⟩, by decide +kernel, by decide⟩
theorem cw_150 : am_cw (⟨"SnorePlay", "rest", "(II)I"⟩ : MethodName) prog_1_method_20_code 2 (some .int) 2 := ⟨wd_988, rfl, wd_124, ⟨by decide +kernel, by decide +kernel⟩, by decide +kernel, by decide⟩
theorem cw_151 : am_cw (⟨"SnorePlay", "enactAll", "(LSnorePlay$Play;LSnorePlay$Tray;)I"⟩ : MethodName) prog_1_method_21_code 4 (some .int) 2 := ⟨wd_1043, rfl, wd_124, ⟨by decide +kernel, by decide +kernel⟩, by decide +kernel, by decide⟩
theorem cw_152 : am_cw (⟨"SnorePlay", "trayRefusal", "(I)I"⟩ : MethodName) prog_1_method_22_code 2 (some .int) 1 := ⟨wd_1039, rfl, wd_124, ⟨by decide +kernel, by decide +kernel⟩, by decide +kernel, by decide⟩
theorem cw_153 : am_cw (⟨"SnorePlay", "goes", "(I)I"⟩ : MethodName) prog_1_method_23_code 3 (some .int) 1 := ⟨wd_1071, rfl, wd_124, ⟨by decide +kernel, by decide +kernel⟩, by decide +kernel, by decide⟩
theorem cw_154 : am_cw (⟨"SnorePlay", "lies", "(I)I"⟩ : MethodName) prog_1_method_24_code 2 (some .int) 1 := ⟨wd_1129, rfl, wd_124, ⟨by decide +kernel, by decide +kernel⟩, by decide +kernel, by decide⟩
theorem cw_155 : am_cw (⟨"SnorePlay", "round", "(I)I"⟩ : MethodName) prog_1_method_25_code 2 (some .int) 1 := ⟨wd_1138, rfl, wd_124, ⟨by decide +kernel, by decide +kernel⟩, by decide +kernel, by decide⟩
theorem cw_156 : am_cw (⟨"SnorePlay", "soonest", "(I)I"⟩ : MethodName) prog_1_method_26_code 2 (some .int) 1 := ⟨wd_1142, rfl, wd_124, ⟨by decide +kernel, by decide +kernel⟩, by decide +kernel, by decide⟩
theorem cw_157 : am_cw (⟨"SnorePlay", "way", "(II)I"⟩ : MethodName) prog_1_method_27_code 3 (some .int) 2 := ⟨wd_1169, rfl, wd_124, ⟨by decide +kernel, by decide +kernel⟩, by decide +kernel, by decide⟩
theorem cw_158 : am_cw (⟨"SnorePlay", "rows", "(II)J"⟩ : MethodName) prog_1_method_28_code 3 (some .long) 2 := ⟨wd_1183, rfl, wd_124, ⟨by decide +kernel, by decide +kernel⟩, by decide +kernel, by decide⟩
theorem cw_159 : am_cw (⟨"SnorePlay", "keeps", "()I"⟩ : MethodName) prog_1_method_29_code 1 (some .int) 0 := ⟨wd_1209, rfl, wd_124, ⟨by decide +kernel, by decide +kernel⟩, by decide +kernel, by decide⟩
theorem cw_160 : am_cw (⟨"SnorePlay", "keeping", "(I)I"⟩ : MethodName) prog_1_method_30_code 2 (some .int) 1 := ⟨wd_1223, rfl, wd_124, ⟨by decide +kernel, by decide +kernel⟩, by decide +kernel, by decide⟩
theorem cw_161 : am_cw (⟨"SnorePlay", "heardOf", "()I"⟩ : MethodName) prog_1_method_31_code 1 (some .int) 0 := ⟨wd_1236, rfl, wd_124, ⟨by decide +kernel, by decide +kernel⟩, by decide +kernel, by decide⟩
theorem cw_162 : am_cw (⟨"SnorePlay", "placing", "(I)I"⟩ : MethodName) prog_1_method_32_code 2 (some .int) 1 := ⟨wd_1245, rfl, wd_124, ⟨by decide +kernel, by decide +kernel⟩, by decide +kernel, by decide⟩
theorem cw_163 : am_cw (⟨"SnorePlay", "fills", "(I)I"⟩ : MethodName) prog_1_method_33_code 4 (some .int) 1 := ⟨wd_1275, rfl, wd_124, ⟨by decide +kernel, by decide +kernel⟩, by decide +kernel, by decide⟩
theorem cw_164 : am_cw (⟨"SnorePlay", "heard", "(I)J"⟩ : MethodName) prog_1_method_34_code 3 (some .long) 1 := ⟨wd_1280, rfl, wd_124, ⟨by decide +kernel, by decide +kernel⟩, by decide +kernel, by decide⟩
theorem cw_165 : am_cw (⟨"SnorePlay", "heardBy", "(II)I"⟩ : MethodName) prog_1_method_35_code 4 (some .int) 2 := ⟨wd_1327, rfl, wd_124, ⟨by decide +kernel, by decide +kernel⟩, by decide +kernel, by decide⟩
theorem cw_166 : am_cw (⟨"SnorePlay", "suspects", "(II)I"⟩ : MethodName) prog_1_method_36_code 4 (some .int) 2 := ⟨wd_1340, rfl, wd_124, ⟨by decide +kernel, by decide +kernel⟩, by decide +kernel, by decide⟩
theorem cw_167 : am_cw (⟨"SnorePlay", "hushes", "(I)I"⟩ : MethodName) prog_1_method_37_code 3 (some .int) 1 := ⟨wd_1349, rfl, wd_124, ⟨by decide +kernel, by decide +kernel⟩, by decide +kernel, by decide⟩
theorem cw_168 : am_cw (⟨"SnorePlay", "attempt", "(I)I"⟩ : MethodName) prog_1_method_38_code 8 (some .int) 1 := ⟨wd_1361, rfl, wd_124, ⟨by decide +kernel, by decide +kernel⟩, by decide +kernel, by decide⟩
theorem cw_169 : am_cw (⟨"SnorePlay", "heardRefusal", "(I)I"⟩ : MethodName) prog_1_method_39_code 3 (some .int) 1 := ⟨wd_1284, rfl, wd_124, ⟨by decide +kernel, by decide +kernel⟩, by decide +kernel, by decide⟩
theorem cw_170 : am_cw (⟨"SnorePlay", "saidRefusal", "(I)I"⟩ : MethodName) prog_1_method_40_code 3 (some .int) 1 := ⟨wd_1353, rfl, wd_124, ⟨by decide +kernel, by decide +kernel⟩, by decide +kernel, by decide⟩
theorem cw_171 : am_cw (⟨"SnorePlay", "hushesBy", "(LSnorePlay$Tray;)I"⟩ : MethodName) prog_1_method_41_code 5 (some .int) 1 := ⟨wd_1357, rfl, wd_124, ⟨by decide +kernel, by decide +kernel⟩, by decide +kernel, by decide⟩
theorem cw_172 : am_cw (⟨"SnorePlay", "largestGroup", "(II)I"⟩ : MethodName) prog_1_method_42_code 7 (some .int) 2 := ⟨wd_1365, rfl, wd_124, ⟨by decide +kernel, by decide +kernel⟩, by decide +kernel, by decide⟩
theorem cw_173 : am_cw (⟨"SnorePlay", "forces", "()I"⟩ : MethodName) prog_1_method_43_code 1 (some .int) 0 := ⟨wd_1371, rfl, wd_124, ⟨by decide +kernel, by decide +kernel⟩, by decide +kernel, by decide⟩
theorem cw_174 : am_cw (⟨"SnorePlay", "best", "()I"⟩ : MethodName) prog_1_method_44_code 1 (some .int) 0 := ⟨wd_1387, rfl, wd_124, ⟨by decide +kernel, by decide +kernel⟩, by decide +kernel, by decide⟩
theorem cw_175 : am_cw (⟨"SnorePlay", "chance", "(II)I"⟩ : MethodName) prog_1_method_45_code 3 (some .int) 2 := ⟨wd_1396, rfl, wd_124, ⟨by decide +kernel, by decide +kernel⟩, by decide +kernel, by decide⟩
theorem cw_176 : am_cw (⟨"SnorePlay", "mean", "(II)I"⟩ : MethodName) prog_1_method_46_code 3 (some .int) 2 := ⟨wd_1429, rfl, wd_124, ⟨by decide +kernel, by decide +kernel⟩, by decide +kernel, by decide⟩
theorem cw_177 : am_cw (⟨"SnorePlay", "portion", "(IIZ)I"⟩ : MethodName) prog_1_method_47_code 10 (some .int) 3 := ⟨wd_1400, rfl, wd_124, ⟨by decide +kernel, by decide +kernel⟩, by decide +kernel, by decide⟩
theorem cw_178 : am_cw (⟨"SnorePlay", "numbers", "(III)I"⟩ : MethodName) prog_1_method_48_code 4 (some .int) 3 := ⟨wd_1433, rfl, wd_124, ⟨by decide +kernel, by decide +kernel⟩, by decide +kernel, by decide⟩
theorem cw_179 : am_cw (⟨"SnorePlay", "write", "(IIJ)J"⟩ : MethodName) prog_1_method_49_code 6 (some .long) 3 := ⟨wd_1442, rfl, wd_124, ⟨by decide +kernel, by decide +kernel⟩, by decide +kernel, by decide⟩
theorem cw_180 : am_cw (⟨"SnorePlay", "lists", "(II)I"⟩ : MethodName) prog_1_method_50_code 5 (some .int) 2 := ⟨wd_1451, rfl, wd_124, ⟨by decide +kernel, by decide +kernel⟩, by decide +kernel, by decide⟩
theorem cw_181 : am_cw (⟨"SnorePlay", "image", "(I)I"⟩ : MethodName) prog_1_method_51_code 2 (some .int) 1 := ⟨wd_1455, rfl, wd_124, ⟨by decide +kernel, by decide +kernel⟩, by decide +kernel, by decide⟩
theorem cw_182 : am_cw (⟨"SnorePlay", "restore", "(I)I"⟩ : MethodName) prog_1_method_52_code 2 (some .int) 1 := ⟨wd_1459, rfl, wd_124, ⟨by decide +kernel, by decide +kernel⟩, by decide +kernel, by decide⟩
theorem cw_183 : am_cw (⟨"SnorePlay", "count", "(I)I"⟩ : MethodName) prog_1_method_53_code 2 (some .int) 1 := ⟨wd_1463, rfl, wd_124, ⟨by decide +kernel, by decide +kernel⟩, by decide +kernel, by decide⟩
theorem cw_184 : am_cw (⟨"SnorePlay$Graph", "<init>", "(LSnorePlay$Stage;LSnorePlay$Play;)V"⟩ : MethodName) prog_2_method_1_code 3 none 2 := ⟨wd_388, rfl, wd_131, ⟨by decide +kernel, by decide +kernel⟩, by decide +kernel, by decide⟩
theorem cw_185 : am_cw (⟨"SnorePlay$Graph", "prepare", "(LSnorePlay$Play;)V"⟩ : MethodName) prog_2_method_2_code 5 none 1 := ⟨wd_1075, rfl, wd_131, ⟨by decide +kernel, by decide +kernel⟩, by decide +kernel, by decide⟩
theorem cw_186 : am_cw (⟨"SnorePlay$Graph", "reach", "(I)V"⟩ : MethodName) prog_2_method_3_code 2 none 1 := ⟨wd_1091, rfl, wd_131, ⟨by decide +kernel, by decide +kernel⟩, by decide +kernel, by decide⟩
theorem cw_187 : am_cw (⟨"SnorePlay$Graph", "workOut", "(I)V"⟩ : MethodName) prog_2_method_4_code 3 none 1 := ⟨wd_1107, rfl, wd_131, ⟨by decide +kernel, by decide +kernel⟩, by decide +kernel, by decide⟩
theorem cw_188 : am_cw (⟨"SnorePlay$Graph", "sleepers", "()I"⟩ : MethodName) prog_2_method_5_code 1 (some .int) 0 := ⟨wd_1164, rfl, wd_131, ⟨by decide +kernel, by decide +kernel⟩, by decide +kernel, by decide⟩
theorem cw_189 : am_cw (⟨"SnorePlay$Graph", "isStill", "(I)Z"⟩ : MethodName) prog_2_method_6_code 2 (some .boolean) 1 := ⟨wd_1099, rfl, wd_131, ⟨by decide +kernel, by decide +kernel⟩, by decide +kernel, by decide⟩
theorem cw_190 : am_cw (⟨"SnorePlay$Graph", "isEnd", "(I)Z"⟩ : MethodName) prog_2_method_7_code 2 (some .boolean) 1 := ⟨wd_1103, rfl, wd_131, ⟨by decide +kernel, by decide +kernel⟩, by decide +kernel, by decide⟩
theorem cw_191 : am_cw (⟨"SnorePlay$Graph", "goesOn", "(I)Z"⟩ : MethodName) prog_2_method_8_code 2 (some .boolean) 1 := ⟨wd_1095, rfl, wd_131, ⟨by decide +kernel, by decide +kernel⟩, by decide +kernel, by decide⟩
theorem cw_192 : am_cw (⟨"SnorePlay$Graph", "actOf", "(I)I"⟩ : MethodName) prog_2_method_9_code 2 (some .int) 1 := ⟨wd_1417, rfl, wd_131, ⟨by decide +kernel, by decide +kernel⟩, by decide +kernel, by decide⟩
theorem cw_193 : am_cw (⟨"SnorePlay$Graph", "soundOf", "(I)I"⟩ : MethodName) prog_2_method_10_code 2 (some .int) 1 := ⟨wd_1310, rfl, wd_131, ⟨by decide +kernel, by decide +kernel⟩, by decide +kernel, by decide⟩
theorem cw_194 : am_cw (⟨"SnorePlay$Graph", "lastOf", "(I)I"⟩ : MethodName) prog_2_method_11_code 2 (some .int) 1 := ⟨wd_1124, rfl, wd_131, ⟨by decide +kernel, by decide +kernel⟩, by decide +kernel, by decide⟩
theorem cw_195 : am_cw (⟨"SnorePlay$Graph", "after", "(II)I"⟩ : MethodName) prog_2_method_12_code 4 (some .int) 2 := ⟨wd_1120, rfl, wd_131, ⟨by decide +kernel, by decide +kernel⟩, by decide +kernel, by decide⟩
theorem cw_196 : am_cw (⟨"SnorePlay$Graph", "leaveAlone", "()V"⟩ : MethodName) prog_2_method_13_code 2 none 0 := ⟨wd_1116, rfl, wd_131, ⟨by decide +kernel, by decide +kernel⟩, by decide +kernel, by decide⟩
theorem cw_197 : am_cw (⟨"SnorePlay$Graph", "snorerAlone", "(I)I"⟩ : MethodName) prog_2_method_14_code 4 (some .int) 1 := ⟨wd_1134, rfl, wd_131, ⟨by decide +kernel, by decide +kernel⟩, by decide +kernel, by decide⟩
theorem cw_198 : am_cw (⟨"SnorePlay$House", "<init>", "(I)V"⟩ : MethodName) prog_3_method_1_code 2 none 1 := ⟨wd_198, rfl, wd_127, ⟨by decide +kernel, by decide +kernel⟩, by decide +kernel, by decide⟩
theorem cw_199 : am_cw (⟨"SnorePlay$House", "hasTold", "(I)Z"⟩ : MethodName) prog_3_method_2_code 3 (some .boolean) 1 := ⟨wd_795, rfl, wd_127, ⟨by decide +kernel, by decide +kernel⟩, by decide +kernel, by decide⟩
theorem cw_200 : am_cw (⟨"SnorePlay$Past", "<init>", "(LSnorePlay$House;)V"⟩ : MethodName) prog_4_method_1_code 3 none 1 := ⟨wd_514, rfl, wd_135, ⟨by decide +kernel, by decide +kernel⟩, by decide +kernel, by decide⟩
theorem cw_201 : am_cw (⟨"SnorePlay$Past", "forget", "()V"⟩ : MethodName) prog_4_method_2_code 1 none 0 := ⟨wd_897, rfl, wd_135, ⟨by decide +kernel, by decide +kernel⟩, by decide +kernel, by decide⟩
theorem cw_202 : am_cw (⟨"SnorePlay$Past", "keep", "(LSnorePlay$Play;)V"⟩ : MethodName) prog_4_method_3_code 2 none 1 := ⟨wd_999, rfl, wd_135, ⟨by decide +kernel, by decide +kernel⟩, by decide +kernel, by decide⟩
theorem cw_203 : am_cw (⟨"SnorePlay$Past", "bringBack", "(LSnorePlay$Play;I)V"⟩ : MethodName) prog_4_method_4_code 3 none 2 := ⟨wd_1030, rfl, wd_135, ⟨by decide +kernel, by decide +kernel⟩, by decide +kernel, by decide⟩
theorem cw_204 : am_cw (⟨"SnorePlay$Placer", "<init>", "(LSnorePlay$Stage;LSnorePlay$Play;)V"⟩ : MethodName) prog_5_method_1_code 3 none 2 := ⟨wd_483, rfl, wd_134, ⟨by decide +kernel, by decide +kernel⟩, by decide +kernel, by decide⟩
theorem cw_205 : am_cw (⟨"SnorePlay$Placer", "place", "(LSnorePlay$Play;)V"⟩ : MethodName) prog_5_method_2_code 5 none 1 := ⟨wd_1249, rfl, wd_134, ⟨by decide +kernel, by decide +kernel⟩, by decide +kernel, by decide⟩
theorem cw_206 : am_cw (⟨"SnorePlay$Placer", "sortBeds", "(LSnorePlay$Play;)V"⟩ : MethodName) prog_5_method_3_code 5 none 1 := ⟨wd_1255, rfl, wd_134, ⟨by decide +kernel, by decide +kernel⟩, by decide +kernel, by decide⟩
theorem cw_207 : am_cw (⟨"SnorePlay$Placer", "nextOrder", "(I)Z"⟩ : MethodName) prog_5_method_4_code 6 (some .boolean) 1 := ⟨wd_1267, rfl, wd_134, ⟨by decide +kernel, by decide +kernel⟩, by decide +kernel, by decide⟩
theorem cw_208 : am_cw (⟨"SnorePlay$Placer", "swap", "(II)V"⟩ : MethodName) prog_5_method_5_code 4 none 2 := ⟨wd_1271, rfl, wd_134, ⟨by decide +kernel, by decide +kernel⟩, by decide +kernel, by decide⟩
theorem cw_209 : am_cw (⟨"SnorePlay$Play", "<init>", "(LSnorePlay$House;)V"⟩ : MethodName) prog_6_method_1_code 2 none 1 := ⟨wd_326, rfl, wd_129, ⟨by decide +kernel, by decide +kernel⟩, by decide +kernel, by decide⟩
theorem cw_210 : am_cw (⟨"SnorePlay$Play", "open", "(LSnorePlay$House;)V"⟩ : MethodName) prog_6_method_2_code 2 none 1 := ⟨wd_331, rfl, wd_129, ⟨by decide +kernel, by decide +kernel⟩, by decide +kernel, by decide⟩
theorem cw_211 : am_cw (⟨"SnorePlay$Play", "takeFrom", "(LSnorePlay$Play;)V"⟩ : MethodName) prog_6_method_3_code 2 none 1 := ⟨wd_976, rfl, wd_129, ⟨by decide +kernel, by decide +kernel⟩, by decide +kernel, by decide⟩
theorem cw_212 : am_cw (⟨"SnorePlay$Play", "has", "(I)Z"⟩ : MethodName) prog_6_method_4_code 2 (some .boolean) 1 := ⟨wd_909, rfl, wd_129, ⟨by decide +kernel, by decide +kernel⟩, by decide +kernel, by decide⟩
theorem cw_213 : am_cw (⟨"SnorePlay$Play", "hasEnded", "()Z"⟩ : MethodName) prog_6_method_5_code 1 (some .boolean) 0 := ⟨wd_967, rfl, wd_129, ⟨by decide +kernel, by decide +kernel⟩, by decide +kernel, by decide⟩
theorem cw_214 : am_cw (⟨"SnorePlay$Play", "goesOn", "()Z"⟩ : MethodName) prog_6_method_6_code 1 (some .boolean) 0 := ⟨wd_963, rfl, wd_129, ⟨by decide +kernel, by decide +kernel⟩, by decide +kernel, by decide⟩
theorem cw_215 : am_cw (⟨"SnorePlay$Play", "far", "(I)I"⟩ : MethodName) prog_6_method_7_code 2 (some .int) 1 := ⟨wd_921, rfl, wd_129, ⟨by decide +kernel, by decide +kernel⟩, by decide +kernel, by decide⟩
theorem cw_216 : am_cw (⟨"SnorePlay$Play", "swapBeds", "(II)V"⟩ : MethodName) prog_6_method_8_code 4 none 2 := ⟨wd_1014, rfl, wd_129, ⟨by decide +kernel, by decide +kernel⟩, by decide +kernel, by decide⟩
theorem cw_217 : am_cw (⟨"SnorePlay$Play", "node", "()I"⟩ : MethodName) prog_6_method_9_code 1 (some .int) 0 := ⟨wd_1083, rfl, wd_129, ⟨by decide +kernel, by decide +kernel⟩, by decide +kernel, by decide⟩
theorem cw_218 : am_cw (⟨"SnorePlay$Play", "standAt", "(I)V"⟩ : MethodName) prog_6_method_10_code 2 none 1 := ⟨wd_1111, rfl, wd_129, ⟨by decide +kernel, by decide +kernel⟩, by decide +kernel, by decide⟩
theorem cw_219 : am_cw (⟨"SnorePlay$Play", "setting", "()J"⟩ : MethodName) prog_6_method_11_code 4 (some .long) 0 := ⟨wd_1079, rfl, wd_129, ⟨by decide +kernel, by decide +kernel⟩, by decide +kernel, by decide⟩
theorem cw_220 : am_cw (⟨"SnorePlay$Reader", "<init>", "()V"⟩ : MethodName) prog_7_method_1_code 1 none 0 := ⟨wd_157, rfl, wd_125, ⟨by decide +kernel, by decide +kernel⟩, by decide +kernel, by decide⟩
theorem cw_221 : am_cw (⟨"SnorePlay$Reader", "faultKind", "()I"⟩ : MethodName) prog_7_method_2_code 1 (some .int) 0 := ⟨wd_888, rfl, wd_125, ⟨by decide +kernel, by decide +kernel⟩, by decide +kernel, by decide⟩
theorem cw_222 : am_cw (⟨"SnorePlay$Reader", "faultPlace", "()I"⟩ : MethodName) prog_7_method_3_code 1 (some .int) 0 := ⟨wd_892, rfl, wd_125, ⟨by decide +kernel, by decide +kernel⟩, by decide +kernel, by decide⟩
theorem cw_223 : am_cw (⟨"SnorePlay$Reader", "readText", "([BII)LSnorePlay$House;"⟩ : MethodName) prog_7_method_4_code 5 (some (.object "SnorePlay$House")) 3 := ⟨wd_625, rfl, wd_125, ⟨by decide +kernel, by decide +kernel⟩, by decide +kernel, by decide⟩
theorem cw_224 : am_cw (⟨"SnorePlay$Reader", "readHead", "()V"⟩ : MethodName) prog_7_method_5_code 1 none 0 := ⟨wd_724, rfl, wd_125, ⟨by decide +kernel, by decide +kernel⟩, by decide +kernel, by decide⟩
theorem cw_225 : am_cw (⟨"SnorePlay$Reader", "readLine", "()V"⟩ : MethodName) prog_7_method_6_code 1 none 0 := ⟨wd_778, rfl, wd_125, ⟨by decide +kernel, by decide +kernel⟩, by decide +kernel, by decide⟩
theorem cw_226 : am_cw (⟨"SnorePlay$Reader", "readSleeper", "()V"⟩ : MethodName) prog_7_method_7_code 3 none 0 := ⟨wd_784, rfl, wd_125, ⟨by decide +kernel, by decide +kernel⟩, by decide +kernel, by decide⟩
theorem cw_227 : am_cw (⟨"SnorePlay$Reader", "readLaw", "()[I"⟩ : MethodName) prog_7_method_8_code 1 (some (.array .int)) 0 := ⟨wd_805, rfl, wd_125, ⟨by decide +kernel, by decide +kernel⟩, by decide +kernel, by decide⟩
theorem cw_228 : am_cw (⟨"SnorePlay$Reader", "readSum", "(I)V"⟩ : MethodName) prog_7_method_9_code 6 none 1 := ⟨wd_810, rfl, wd_125, ⟨by decide +kernel, by decide +kernel⟩, by decide +kernel, by decide⟩
theorem cw_229 : am_cw (⟨"SnorePlay$Reader", "readAtom", "(I)V"⟩ : MethodName) prog_7_method_10_code 3 none 1 := ⟨wd_814, rfl, wd_125, ⟨by decide +kernel, by decide +kernel⟩, by decide +kernel, by decide⟩
theorem cw_230 : am_cw (⟨"SnorePlay$Reader", "valueNamed", "()I"⟩ : MethodName) prog_7_method_11_code 1 (some .int) 0 := ⟨wd_818, rfl, wd_125, ⟨by decide +kernel, by decide +kernel⟩, by decide +kernel, by decide⟩
theorem cw_231 : am_cw (⟨"SnorePlay$Reader", "goWithin", "(I)Z"⟩ : MethodName) prog_7_method_12_code 2 (some .boolean) 1 := ⟨wd_831, rfl, wd_125, ⟨by decide +kernel, by decide +kernel⟩, by decide +kernel, by decide⟩
theorem cw_232 : am_cw (⟨"SnorePlay$Reader", "readChoice", "(I)V"⟩ : MethodName) prog_7_method_13_code 4 none 1 := ⟨wd_837, rfl, wd_125, ⟨by decide +kernel, by decide +kernel⟩, by decide +kernel, by decide⟩
theorem cw_233 : am_cw (⟨"SnorePlay$Reader", "readTruth", "(I)V"⟩ : MethodName) prog_7_method_14_code 3 none 1 := ⟨wd_841, rfl, wd_125, ⟨by decide +kernel, by decide +kernel⟩, by decide +kernel, by decide⟩
theorem cw_234 : am_cw (⟨"SnorePlay$Reader", "readBoth", "(I)V"⟩ : MethodName) prog_7_method_15_code 3 none 1 := ⟨wd_845, rfl, wd_125, ⟨by decide +kernel, by decide +kernel⟩, by decide +kernel, by decide⟩
theorem cw_235 : am_cw (⟨"SnorePlay$Reader", "readUnit", "(I)V"⟩ : MethodName) prog_7_method_16_code 2 none 1 := ⟨wd_849, rfl, wd_125, ⟨by decide +kernel, by decide +kernel⟩, by decide +kernel, by decide⟩
theorem cw_236 : am_cw (⟨"SnorePlay$Reader", "readComparison", "(I)V"⟩ : MethodName) prog_7_method_17_code 3 none 1 := ⟨wd_856, rfl, wd_125, ⟨by decide +kernel, by decide +kernel⟩, by decide +kernel, by decide⟩
theorem cw_237 : am_cw (⟨"SnorePlay$Reader", "append", "(I)V"⟩ : MethodName) prog_7_method_18_code 2 none 1 := ⟨wd_826, rfl, wd_125, ⟨by decide +kernel, by decide +kernel⟩, by decide +kernel, by decide⟩
theorem cw_238 : am_cw (⟨"SnorePlay$Reader", "aim", "(I)V"⟩ : MethodName) prog_7_method_19_code 2 none 1 := ⟨wd_867, rfl, wd_125, ⟨by decide +kernel, by decide +kernel⟩, by decide +kernel, by decide⟩
theorem cw_239 : am_cw (⟨"SnorePlay$Search", "<init>", "(LSnorePlay$Graph;)V"⟩ : MethodName) prog_8_method_1_code 2 none 1 := ⟨wd_442, rfl, wd_132, ⟨by decide +kernel, by decide +kernel⟩, by decide +kernel, by decide⟩
theorem cw_240 : am_cw (⟨"SnorePlay$Search", "isGoal", "(IZ)Z"⟩ : MethodName) prog_8_method_2_code 3 (some .boolean) 2 := ⟨wd_1154, rfl, wd_132, ⟨by decide +kernel, by decide +kernel⟩, by decide +kernel, by decide⟩
theorem cw_241 : am_cw (⟨"SnorePlay$Search", "clear", "([IZ)V"⟩ : MethodName) prog_8_method_3_code 4 none 2 := ⟨wd_1150, rfl, wd_132, ⟨by decide +kernel, by decide +kernel⟩, by decide +kernel, by decide⟩
theorem cw_242 : am_cw (⟨"SnorePlay$Search", "fewest", "(Z)I"⟩ : MethodName) prog_8_method_4_code 6 (some .int) 1 := ⟨wd_1146, rfl, wd_132, ⟨by decide +kernel, by decide +kernel⟩, by decide +kernel, by decide⟩
theorem cw_243 : am_cw (⟨"SnorePlay$Search", "deedTo", "([III)I"⟩ : MethodName) prog_8_method_5_code 5 (some .int) 3 := ⟨wd_1160, rfl, wd_132, ⟨by decide +kernel, by decide +kernel⟩, by decide +kernel, by decide⟩
theorem cw_244 : am_cw (⟨"SnorePlay$Search", "fewestDeed", "(ZI)I"⟩ : MethodName) prog_8_method_6_code 4 (some .int) 2 := ⟨wd_1173, rfl, wd_132, ⟨by decide +kernel, by decide +kernel⟩, by decide +kernel, by decide⟩
theorem cw_245 : am_cw (⟨"SnorePlay$Search", "deedDownwards", "(I)I"⟩ : MethodName) prog_8_method_7_code 4 (some .int) 1 := ⟨wd_1178, rfl, wd_132, ⟨by decide +kernel, by decide +kernel⟩, by decide +kernel, by decide⟩
theorem cw_246 : am_cw (⟨"SnorePlay$Search", "longest", "()I"⟩ : MethodName) prog_8_method_8_code 5 (some .int) 0 := ⟨wd_1213, rfl, wd_132, ⟨by decide +kernel, by decide +kernel⟩, by decide +kernel, by decide⟩
theorem cw_247 : am_cw (⟨"SnorePlay$Search", "isBoundBelow", "(II)Z"⟩ : MethodName) prog_8_method_9_code 5 (some .boolean) 2 := ⟨wd_1218, rfl, wd_132, ⟨by decide +kernel, by decide +kernel⟩, by decide +kernel, by decide⟩
theorem cw_248 : am_cw (⟨"SnorePlay$Search", "longestDeed", "(I)I"⟩ : MethodName) prog_8_method_10_code 5 (some .int) 1 := ⟨wd_1227, rfl, wd_132, ⟨by decide +kernel, by decide +kernel⟩, by decide +kernel, by decide⟩
theorem cw_249 : am_cw (⟨"SnorePlay$Search", "endlessDeed", "(I)I"⟩ : MethodName) prog_8_method_11_code 4 (some .int) 1 := ⟨wd_1232, rfl, wd_132, ⟨by decide +kernel, by decide +kernel⟩, by decide +kernel, by decide⟩
theorem cw_250 : am_cw (⟨"SnorePlay$Search", "snorers", "()I"⟩ : MethodName) prog_8_method_12_code 5 (some .int) 0 := ⟨wd_1240, rfl, wd_132, ⟨by decide +kernel, by decide +kernel⟩, by decide +kernel, by decide⟩
theorem cw_251 : am_cw (⟨"SnorePlay$Search", "forcedIn", "()I"⟩ : MethodName) prog_8_method_13_code 4 (some .int) 0 := ⟨wd_1375, rfl, wd_132, ⟨by decide +kernel, by decide +kernel⟩, by decide +kernel, by decide⟩
theorem cw_252 : am_cw (⟨"SnorePlay$Search", "forceWithin", "(II)Z"⟩ : MethodName) prog_8_method_14_code 4 (some .boolean) 2 := ⟨wd_1379, rfl, wd_132, ⟨by decide +kernel, by decide +kernel⟩, by decide +kernel, by decide⟩
theorem cw_253 : am_cw (⟨"SnorePlay$Search", "allLeadBelow", "(II)Z"⟩ : MethodName) prog_8_method_15_code 5 (some .boolean) 2 := ⟨wd_1383, rfl, wd_132, ⟨by decide +kernel, by decide +kernel⟩, by decide +kernel, by decide⟩
theorem cw_254 : am_cw (⟨"SnorePlay$Search", "forcingDeed", "()I"⟩ : MethodName) prog_8_method_16_code 2 (some .int) 0 := ⟨wd_1391, rfl, wd_132, ⟨by decide +kernel, by decide +kernel⟩, by decide +kernel, by decide⟩
theorem cw_255 : am_cw (⟨"SnorePlay$Stage", "<init>", "()V"⟩ : MethodName) prog_9_method_1_code 1 none 0 := ⟨wd_290, rfl, wd_128, ⟨by decide +kernel, by decide +kernel⟩, by decide +kernel, by decide⟩
theorem cw_256 : am_cw (⟨"SnorePlay$Stage", "isBeat", "(J)Z"⟩ : MethodName) prog_9_method_2_code 2 (some .boolean) 1 := ⟨wd_953, rfl, wd_128, ⟨by decide +kernel, by decide +kernel⟩, by decide +kernel, by decide⟩
theorem cw_257 : am_cw (⟨"SnorePlay$Stage", "whyNot", "(LSnorePlay$Play;J)I"⟩ : MethodName) prog_9_method_3_code 6 (some .int) 2 := ⟨wd_958, rfl, wd_128, ⟨by decide +kernel, by decide +kernel⟩, by decide +kernel, by decide⟩
theorem cw_258 : am_cw (⟨"SnorePlay$Stage", "enact", "(LSnorePlay$Play;I)V"⟩ : MethodName) prog_9_method_4_code 3 none 2 := ⟨wd_1047, rfl, wd_128, ⟨by decide +kernel, by decide +kernel⟩, by decide +kernel, by decide⟩
theorem cw_259 : am_cw (⟨"SnorePlay$Stage", "step", "(LSnorePlay$Play;I)I"⟩ : MethodName) prog_9_method_5_code 7 (some .int) 2 := ⟨wd_980, rfl, wd_128, ⟨by decide +kernel, by decide +kernel⟩, by decide +kernel, by decide⟩
theorem cw_260 : am_cw (⟨"SnorePlay$Stage", "amount", "(LSnorePlay$Play;I)I"⟩ : MethodName) prog_9_method_6_code 6 (some .int) 2 := ⟨wd_917, rfl, wd_128, ⟨by decide +kernel, by decide +kernel⟩, by decide +kernel, by decide⟩
theorem cw_261 : am_cw (⟨"SnorePlay$Stage", "tone", "(LSnorePlay$Play;I)I"⟩ : MethodName) prog_9_method_7_code 6 (some .int) 2 := ⟨wd_985, rfl, wd_128, ⟨by decide +kernel, by decide +kernel⟩, by decide +kernel, by decide⟩
theorem cw_262 : am_cw (⟨"SnorePlay$Stage", "slot", "(LSnorePlay$Play;II)I"⟩ : MethodName) prog_9_method_8_code 4 (some .int) 3 := ⟨wd_927, rfl, wd_128, ⟨by decide +kernel, by decide +kernel⟩, by decide +kernel, by decide⟩
theorem cw_263 : am_cw (⟨"SnorePlay$Stage", "mark", "(LSnorePlay$Play;I)I"⟩ : MethodName) prog_9_method_9_code 2 (some .int) 2 := ⟨wd_930, rfl, wd_128, ⟨by decide +kernel, by decide +kernel⟩, by decide +kernel, by decide⟩
theorem cw_264 : am_cw (⟨"SnorePlay$Stage", "setValues", "(LSnorePlay$Play;II)V"⟩ : MethodName) prog_9_method_10_code 4 none 3 := ⟨wd_934, rfl, wd_128, ⟨by decide +kernel, by decide +kernel⟩, by decide +kernel, by decide⟩
theorem cw_265 : am_cw (⟨"SnorePlay$Stage", "tell", "([I)I"⟩ : MethodName) prog_9_method_11_code 7 (some .int) 1 := ⟨wd_938, rfl, wd_128, ⟨by decide +kernel, by decide +kernel⟩, by decide +kernel, by decide⟩
theorem cw_266 : am_cw (⟨"SnorePlay$Stage", "combined", "(IJJ)I"⟩ : MethodName) prog_9_method_12_code 7 (some .int) 3 := ⟨wd_941, rfl, wd_128, ⟨by decide +kernel, by decide +kernel⟩, by decide +kernel, by decide⟩
theorem cw_267 : am_cw (⟨"SnorePlay$Stage", "endsIn", "(LSnorePlay$Play;I)I"⟩ : MethodName) prog_9_method_13_code 5 (some .int) 2 := ⟨wd_1261, rfl, wd_128, ⟨by decide +kernel, by decide +kernel⟩, by decide +kernel, by decide⟩
theorem cw_268 : am_cw (⟨"SnorePlay$Tally", "<init>", "(LSnorePlay$Graph;)V"⟩ : MethodName) prog_10_method_1_code 2 none 1 := ⟨wd_458, rfl, wd_133, ⟨by decide +kernel, by decide +kernel⟩, by decide +kernel, by decide⟩
theorem cw_269 : am_cw (⟨"SnorePlay$Tally", "begin", "()V"⟩ : MethodName) prog_10_method_2_code 1 none 0 := ⟨wd_1193, rfl, wd_133, ⟨by decide +kernel, by decide +kernel⟩, by decide +kernel, by decide⟩
theorem cw_270 : am_cw (⟨"SnorePlay$Tally", "endBeat", "()V"⟩ : MethodName) prog_10_method_3_code 2 none 0 := ⟨wd_1203, rfl, wd_133, ⟨by decide +kernel, by decide +kernel⟩, by decide +kernel, by decide⟩
theorem cw_271 : am_cw (⟨"SnorePlay$Tally", "rowsOf", "(II)J"⟩ : MethodName) prog_10_method_4_code 7 (some .long) 2 := ⟨wd_1189, rfl, wd_133, ⟨by decide +kernel, by decide +kernel⟩, by decide +kernel, by decide⟩
theorem cw_272 : am_cw (⟨"SnorePlay$Tally", "drawLots", "(I)V"⟩ : MethodName) prog_10_method_5_code 4 none 1 := ⟨wd_1404, rfl, wd_133, ⟨by decide +kernel, by decide +kernel⟩, by decide +kernel, by decide⟩
theorem cw_273 : am_cw (⟨"SnorePlay$Tally", "drawLot", "(I)V"⟩ : MethodName) prog_10_method_6_code 3 none 1 := ⟨wd_1408, rfl, wd_133, ⟨by decide +kernel, by decide +kernel⟩, by decide +kernel, by decide⟩
theorem cw_274 : am_cw (⟨"SnorePlay$Tally", "endsDrawn", "()J"⟩ : MethodName) prog_10_method_7_code 4 (some .long) 0 := ⟨wd_1421, rfl, wd_133, ⟨by decide +kernel, by decide +kernel⟩, by decide +kernel, by decide⟩
theorem cw_275 : am_cw (⟨"SnorePlay$Tally", "actsDrawn", "()J"⟩ : MethodName) prog_10_method_8_code 4 (some .long) 0 := ⟨wd_1413, rfl, wd_133, ⟨by decide +kernel, by decide +kernel⟩, by decide +kernel, by decide⟩
theorem cw_276 : am_cw (⟨"SnorePlay$Tally", "commonDivisor", "(JJ)J"⟩ : MethodName) prog_10_method_9_code 11 (some .long) 2 := ⟨wd_1425, rfl, wd_133, ⟨by decide +kernel, by decide +kernel⟩, by decide +kernel, by decide⟩
theorem cw_277 : am_cw (⟨"SnorePlay$Tally", "fits", "(IJ)Z"⟩ : MethodName) prog_10_method_10_code 4 (some .boolean) 2 := ⟨wd_1305, rfl, wd_133, ⟨by decide +kernel, by decide +kernel⟩, by decide +kernel, by decide⟩
theorem cw_278 : am_cw (⟨"SnorePlay$Tally", "isMet", "(II)Z"⟩ : MethodName) prog_10_method_11_code 3 (some .boolean) 2 := ⟨wd_1297, rfl, wd_133, ⟨by decide +kernel, by decide +kernel⟩, by decide +kernel, by decide⟩
theorem cw_279 : am_cw (⟨"SnorePlay$Tally", "listen", "(LSnorePlay$Tray;)V"⟩ : MethodName) prog_10_method_12_code 4 none 1 := ⟨wd_1292, rfl, wd_133, ⟨by decide +kernel, by decide +kernel⟩, by decide +kernel, by decide⟩
theorem cw_280 : am_cw (⟨"SnorePlay$Tally", "meetFrom", "(IIJ)V"⟩ : MethodName) prog_10_method_13_code 7 none 3 := ⟨wd_1301, rfl, wd_133, ⟨by decide +kernel, by decide +kernel⟩, by decide +kernel, by decide⟩
theorem cw_281 : am_cw (⟨"SnorePlay$Tally", "fittingFrom", "(IIJ)J"⟩ : MethodName) prog_10_method_14_code 8 (some .long) 3 := ⟨wd_1315, rfl, wd_133, ⟨by decide +kernel, by decide +kernel⟩, by decide +kernel, by decide⟩
theorem cw_282 : am_cw (⟨"SnorePlay$Tally", "fittingBehind", "(IIJ)J"⟩ : MethodName) prog_10_method_15_code 5 (some .long) 3 := ⟨wd_1319, rfl, wd_133, ⟨by decide +kernel, by decide +kernel⟩, by decide +kernel, by decide⟩
theorem cw_283 : am_cw (⟨"SnorePlay$Tally", "heardRows", "()J"⟩ : MethodName) prog_10_method_16_code 1 (some .long) 0 := ⟨wd_1323, rfl, wd_133, ⟨by decide +kernel, by decide +kernel⟩, by decide +kernel, by decide⟩
theorem cw_284 : am_cw (⟨"SnorePlay$Tally", "firstHeardDeed", "(LSnorePlay$Tray;I)I"⟩ : MethodName) prog_10_method_17_code 5 (some .int) 2 := ⟨wd_1331, rfl, wd_133, ⟨by decide +kernel, by decide +kernel⟩, by decide +kernel, by decide⟩
theorem cw_285 : am_cw (⟨"SnorePlay$Tally", "fittingDeed", "(IIJ)I"⟩ : MethodName) prog_10_method_18_code 6 (some .int) 3 := ⟨wd_1336, rfl, wd_133, ⟨by decide +kernel, by decide +kernel⟩, by decide +kernel, by decide⟩
theorem cw_286 : am_cw (⟨"SnorePlay$Tally", "heardSnorers", "(LSnorePlay$Tray;I)I"⟩ : MethodName) prog_10_method_19_code 7 (some .int) 2 := ⟨wd_1344, rfl, wd_133, ⟨by decide +kernel, by decide +kernel⟩, by decide +kernel, by decide⟩
theorem cw_287 : am_cw (⟨"SnorePlay$Tokens", "<init>", "()V"⟩ : MethodName) prog_11_method_1_code 1 none 0 := ⟨wd_163, rfl, wd_126, ⟨by decide +kernel, by decide +kernel⟩, by decide +kernel, by decide⟩
theorem cw_288 : am_cw (⟨"SnorePlay$Tokens", "begin", "([BI)V"⟩ : MethodName) prog_11_method_2_code 3 none 2 := ⟨wd_629, rfl, wd_126, ⟨by decide +kernel, by decide +kernel⟩, by decide +kernel, by decide⟩
theorem cw_289 : am_cw (⟨"SnorePlay$Tokens", "isFaultless", "()Z"⟩ : MethodName) prog_11_method_3_code 1 (some .boolean) 0 := ⟨wd_770, rfl, wd_126, ⟨by decide +kernel, by decide +kernel⟩, by decide +kernel, by decide⟩
theorem cw_290 : am_cw (⟨"SnorePlay$Tokens", "atEnd", "()Z"⟩ : MethodName) prog_11_method_4_code 1 (some .boolean) 0 := ⟨wd_774, rfl, wd_126, ⟨by decide +kernel, by decide +kernel⟩, by decide +kernel, by decide⟩
theorem cw_291 : am_cw (⟨"SnorePlay$Tokens", "isNumber", "()Z"⟩ : MethodName) prog_11_method_5_code 1 (some .boolean) 0 := ⟨wd_791, rfl, wd_126, ⟨by decide +kernel, by decide +kernel⟩, by decide +kernel, by decide⟩
theorem cw_292 : am_cw (⟨"SnorePlay$Tokens", "is", "(Ljava/lang/String;)Z"⟩ : MethodName) prog_11_method_6_code 3 (some .boolean) 1 := ⟨wd_733, rfl, wd_126, ⟨by decide +kernel, by decide +kernel⟩, by decide +kernel, by decide⟩
theorem cw_293 : am_cw (⟨"SnorePlay$Tokens", "refuse", "(I)V"⟩ : MethodName) prog_11_method_7_code 2 none 1 := ⟨wd_758, rfl, wd_126, ⟨by decide +kernel, by decide +kernel⟩, by decide +kernel, by decide⟩
theorem cw_294 : am_cw (⟨"SnorePlay$Tokens", "want", "(Ljava/lang/String;)V"⟩ : MethodName) prog_11_method_8_code 2 none 1 := ⟨wd_729, rfl, wd_126, ⟨by decide +kernel, by decide +kernel⟩, by decide +kernel, by decide⟩
theorem cw_295 : am_cw (⟨"SnorePlay$Tokens", "wantNumber", "(II)I"⟩ : MethodName) prog_11_method_9_code 4 (some .int) 2 := ⟨wd_763, rfl, wd_126, ⟨by decide +kernel, by decide +kernel⟩, by decide +kernel, by decide⟩
theorem cw_296 : am_cw (⟨"SnorePlay$Tokens", "advance", "()V"⟩ : MethodName) prog_11_method_10_code 2 none 0 := ⟨wd_633, rfl, wd_126, ⟨by decide +kernel, by decide +kernel⟩, by decide +kernel, by decide⟩
theorem cw_297 : am_cw (⟨"SnorePlay$Tray", "<init>", "()V"⟩ : MethodName) prog_12_method_1_code 1 none 0 := ⟨wd_532, rfl, wd_136, ⟨by decide +kernel, by decide +kernel⟩, by decide +kernel, by decide⟩
theorem cw_298 : am_cw (⟨"SnorePlay$Tray", "lay", "(II)V"⟩ : MethodName) prog_12_method_2_code 3 none 2 := ⟨wd_1437, rfl, wd_136, ⟨by decide +kernel, by decide +kernel⟩, by decide +kernel, by decide⟩
theorem cw_299 : am_cw (⟨"SnorePlay$Tray", "put", "(IJ)J"⟩ : MethodName) prog_12_method_3_code 6 (some .long) 2 := ⟨wd_1447, rfl, wd_136, ⟨by decide +kernel, by decide +kernel⟩, by decide +kernel, by decide⟩
theorem cw_300 : am_cw (⟨"SnorePlay$Tray", "rowRefusal", "(II)I"⟩ : MethodName) prog_12_method_4_code 4 (some .int) 2 := ⟨wd_1288, rfl, wd_136, ⟨by decide +kernel, by decide +kernel⟩, by decide +kernel, by decide⟩
theorem cw_301 : am_cw (⟨"java/lang/Math", "floorMod", "(II)I"⟩ : MethodName) prog_17_method_50_code 3 (some .int) 2 := ⟨wd_991, rfl, wd_140, ⟨by decide +kernel, by decide +kernel⟩, by decide +kernel, by decide⟩
theorem cw_302 : am_cw (⟨"java/lang/Math", "abs", "(I)I"⟩ : MethodName) prog_17_method_59_code 1 (some .int) 1 := ⟨wd_924, rfl, wd_140, ⟨by decide +kernel, by decide +kernel⟩, by decide +kernel, by decide⟩
theorem cw_303 : am_cw (⟨"java/lang/Math", "max", "(II)I"⟩ : MethodName) prog_17_method_65_code 2 (some .int) 2 := ⟨wd_665, rfl, wd_140, ⟨by decide +kernel, by decide +kernel⟩, by decide +kernel, by decide⟩
theorem cw_304 : am_cw (⟨"java/lang/Math", "min", "(II)I"⟩ : MethodName) prog_17_method_69_code 2 (some .int) 2 := ⟨wd_668, rfl, wd_140, ⟨by decide +kernel, by decide +kernel⟩, by decide +kernel, by decide⟩
theorem cw_305 : am_cw (⟨"java/lang/String", "length", "()I"⟩ : MethodName) prog_18_method_54_code 1 (some .int) 0 := ⟨wd_652, rfl, wd_138, ⟨by decide +kernel, by decide +kernel⟩, by decide +kernel, by decide⟩
theorem cw_306 : am_cw (⟨"java/lang/String", "charAt", "(I)C"⟩ : MethodName) prog_18_method_56_code 2 (some .char) 1 := ⟨wd_738, rfl, wd_138, ⟨by decide +kernel, by decide +kernel⟩, by decide +kernel, by decide⟩
theorem cw_307 : am_cw (⟨"java/lang/String", "indexOf", "(I)I"⟩ : MethodName) prog_18_method_79_code 2 (some .int) 1 := ⟨wd_638, rfl, wd_138, ⟨by decide +kernel, by decide +kernel⟩, by decide +kernel, by decide⟩
theorem cw_308 : am_cw (⟨"java/lang/String", "indexOf", "(II)I"⟩ : MethodName) prog_18_method_80_code 3 (some .int) 2 := ⟨wd_642, rfl, wd_138, ⟨by decide +kernel, by decide +kernel⟩, by decide +kernel, by decide⟩
theorem cw_309 : am_cw (⟨"java/lang/String", "coder", "()B"⟩ : MethodName) prog_18_method_152_code 1 (some .byte) 0 := ⟨wd_656, rfl, wd_138, ⟨by decide +kernel, by decide +kernel⟩, by decide +kernel, by decide⟩
theorem cw_310 : am_cw (⟨"java/lang/String", "isLatin1", "()Z"⟩ : MethodName) prog_18_method_154_code 1 (some .boolean) 0 := ⟨wd_646, rfl, wd_138, ⟨by decide +kernel, by decide +kernel⟩, by decide +kernel, by decide⟩
theorem cw_311 : am_cw (⟨"java/lang/String", "checkIndex", "(II)V"⟩ : MethodName) prog_18_method_155_code 2 none 2 := ⟨wd_744, rfl, wd_138, ⟨by decide +kernel, by decide +kernel⟩, by decide +kernel, by decide⟩
theorem cw_313 : am_cw (⟨"java/lang/StringLatin1", "charAt", "([BI)C"⟩ : MethodName) prog_19_method_2_code 2 (some .char) 2 := ⟨wd_741, rfl, wd_139, ⟨by decide +kernel, by decide +kernel⟩, by decide +kernel, by decide⟩
theorem cw_314 : am_cw (⟨"java/lang/StringLatin1", "canEncode", "(I)Z"⟩ : MethodName) prog_19_method_4_code 1 (some .boolean) 1 := ⟨wd_662, rfl, wd_139, ⟨by decide +kernel, by decide +kernel⟩, by decide +kernel, by decide⟩
theorem cw_315 : am_cw (⟨"java/lang/StringLatin1", "indexOf", "([BIII)I"⟩ : MethodName) prog_19_method_22_code 4 (some .int) 4 := ⟨wd_659, rfl, wd_139, ⟨by decide +kernel, by decide +kernel⟩, by decide +kernel, by decide⟩
theorem cw_316 : am_cw (⟨"java/lang/StringLatin1", "indexOfChar", "([BIII)I"⟩ : MethodName) prog_19_method_23_code 6 (some .int) 4 := ⟨wd_671, rfl, wd_139, ⟨by decide +kernel, by decide +kernel⟩, by decide +kernel, by decide⟩
theorem cw_317 : am_cw (⟨"java/util/Arrays", "fill", "([JJ)V"⟩ : MethodName) prog_22_method_101_code 5 none 2 := ⟨wd_1196, rfl, wd_144, ⟨by decide +kernel, by decide +kernel⟩, by decide +kernel, by decide⟩
theorem cw_318 : am_cw (⟨"java/util/Arrays", "fill", "([II)V"⟩ : MethodName) prog_22_method_103_code 4 none 2 := ⟨wd_1087, rfl, wd_144, ⟨by decide +kernel, by decide +kernel⟩, by decide +kernel, by decide⟩
theorem cw_319 : am_cw (⟨"java/util/Arrays", "copyOf", "([II)[I"⟩ : MethodName) prog_22_method_123_code 3 (some (.array .int)) 2 := ⟨wd_874, rfl, wd_144, ⟨by decide +kernel, by decide +kernel⟩, by decide +kernel, by decide⟩
theorem cw_320 : am_cw (⟨"jdk/internal/util/Preconditions", "checkIndex", "(IILjava/util/function/BiFunction;)I"⟩ : MethodName) prog_23_method_11_code 3 (some .int) 3 := ⟨wd_747, rfl, wd_142, ⟨by decide +kernel, by decide +kernel⟩, by decide +kernel, by decide⟩
theorem cw_321 : am_cw (⟨"jdk/internal/util/Preconditions", "checkFromToIndex", "(IIILjava/util/function/BiFunction;)I"⟩ : MethodName) prog_23_method_12_code 4 (some .int) 4 := ⟨wd_694, rfl, wd_142, ⟨by decide +kernel, by decide +kernel⟩, by decide +kernel, by decide⟩
