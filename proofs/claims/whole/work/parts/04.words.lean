theorem tk_0 {w : Cond} (h : w ∈ k2_sels lw_privs) : w ∈ lw_tbl := List.mem_append_left _ h
theorem tk_t {w : Cond} (h : w ∈ tables_1) : w ∈ lw_tbl := List.mem_append_right _ h
theorem tk_1 {w : Cond} (h : w ∈ tables_1_1) : w ∈ lw_tbl := tk_t (by unfold tables_1; exact List.mem_append_left _ h)
theorem tk_2 {w : Cond} (h : w ∈ tables_1_2) : w ∈ lw_tbl := tk_t (by unfold tables_1; exact List.mem_append_right _ (List.mem_append_left _ h))
theorem tk_3 {w : Cond} (h : w ∈ tables_1_3) : w ∈ lw_tbl := tk_t (by unfold tables_1; exact List.mem_append_right _ (List.mem_append_right _ (List.mem_append_left _ h)))
theorem tk_4 {w : Cond} (h : w ∈ tables_1_4) : w ∈ lw_tbl := tk_t (by unfold tables_1; exact List.mem_append_right _ (List.mem_append_right _ (List.mem_append_right _ (List.mem_append_left _ h))))
theorem tk_5 {w : Cond} (h : w ∈ tables_1_5) : w ∈ lw_tbl := tk_t (by unfold tables_1; exact List.mem_append_right _ (List.mem_append_right _ (List.mem_append_right _ (List.mem_append_right _ (List.mem_append_left _ h)))))
theorem tk_6 {w : Cond} (h : w ∈ tables_1_6) : w ∈ lw_tbl := tk_t (by unfold tables_1; exact List.mem_append_right _ (List.mem_append_right _ (List.mem_append_right _ (List.mem_append_right _ (List.mem_append_right _ (List.mem_append_left _ h))))))
theorem tk_7 {w : Cond} (h : w ∈ tables_1_7) : w ∈ lw_tbl := tk_t (by unfold tables_1; exact List.mem_append_right _ (List.mem_append_right _ (List.mem_append_right _ (List.mem_append_right _ (List.mem_append_right _ (List.mem_append_right _ (List.mem_append_left _ h)))))))
theorem tk_8 {w : Cond} (h : w ∈ tables_1_8) : w ∈ lw_tbl := tk_t (by unfold tables_1; exact List.mem_append_right _ (List.mem_append_right _ (List.mem_append_right _ (List.mem_append_right _ (List.mem_append_right _ (List.mem_append_right _ (List.mem_append_right _ (List.mem_append_left _ h))))))))
theorem tk_9 {w : Cond} (h : w ∈ tables_1_9) : w ∈ lw_tbl := tk_t (by unfold tables_1; exact List.mem_append_right _ (List.mem_append_right _ (List.mem_append_right _ (List.mem_append_right _ (List.mem_append_right _ (List.mem_append_right _ (List.mem_append_right _ (List.mem_append_right _ (List.mem_append_left _ h)))))))))
theorem tk_10 {w : Cond} (h : w ∈ tables_1_10) : w ∈ lw_tbl := tk_t (by unfold tables_1; exact List.mem_append_right _ (List.mem_append_right _ (List.mem_append_right _ (List.mem_append_right _ (List.mem_append_right _ (List.mem_append_right _ (List.mem_append_right _ (List.mem_append_right _ (List.mem_append_right _ (List.mem_append_left _ h))))))))))
theorem tk_11 {w : Cond} (h : w ∈ tables_1_11) : w ∈ lw_tbl := tk_t (by unfold tables_1; exact List.mem_append_right _ (List.mem_append_right _ (List.mem_append_right _ (List.mem_append_right _ (List.mem_append_right _ (List.mem_append_right _ (List.mem_append_right _ (List.mem_append_right _ (List.mem_append_right _ (List.mem_append_right _ (h)))))))))))
theorem w0 : Cond.selects "BellPlate$Tower" ⟨"BellPlate$Tower", "value", "(I[II)I"⟩ ⟨"BellPlate$Tower", "value", "(I[II)I"⟩ ∈ lw_ok := okm (tk_0 (List.mem_of_getElem? (l := k2_sels lw_privs) (i := 0) (by decide +kernel))) rfl
theorem w1 : Cond.selects "BellPlate$Lists" ⟨"BellPlate$Lists", "makeRoom", "(I)V"⟩ ⟨"BellPlate$Lists", "makeRoom", "(I)V"⟩ ∈ lw_ok := okm (tk_0 (List.mem_of_getElem? (l := k2_sels lw_privs) (i := 1) (by decide +kernel))) rfl
theorem w2 : Cond.selects "BellPlate$Lists" ⟨"BellPlate$Lists", "makeLowBlocks", "(I)I"⟩ ⟨"BellPlate$Lists", "makeLowBlocks", "(I)I"⟩ ∈ lw_ok := okm (tk_0 (List.mem_of_getElem? (l := k2_sels lw_privs) (i := 2) (by decide +kernel))) rfl
theorem w3 : Cond.selects "BellPlate$Lists" ⟨"BellPlate$Lists", "weighHigh", "(I)V"⟩ ⟨"BellPlate$Lists", "weighHigh", "(I)V"⟩ ∈ lw_ok := okm (tk_0 (List.mem_of_getElem? (l := k2_sels lw_privs) (i := 3) (by decide +kernel))) rfl
theorem w4 : Cond.selects "BellPlate$Lists" ⟨"BellPlate$Lists", "joinBlocks", "(II)J"⟩ ⟨"BellPlate$Lists", "joinBlocks", "(II)J"⟩ ∈ lw_ok := okm (tk_0 (List.mem_of_getElem? (l := k2_sels lw_privs) (i := 4) (by decide +kernel))) rfl
theorem w5 : Cond.selects "BellPlate$Lists" ⟨"BellPlate$Lists", "enter", "(J)I"⟩ ⟨"BellPlate$Lists", "enter", "(J)I"⟩ ∈ lw_ok := okm (tk_0 (List.mem_of_getElem? (l := k2_sels lw_privs) (i := 5) (by decide +kernel))) rfl
theorem w6 : Cond.selects "BellPlate$Reader" ⟨"BellPlate$Reader", "advance", "()V"⟩ ⟨"BellPlate$Reader", "advance", "()V"⟩ ∈ lw_ok := okm (tk_0 (List.mem_of_getElem? (l := k2_sels lw_privs) (i := 6) (by decide +kernel))) rfl
theorem w7 : Cond.selects "BellPlate$Reader" ⟨"BellPlate$Reader", "readWord", "()V"⟩ ⟨"BellPlate$Reader", "readWord", "()V"⟩ ∈ lw_ok := okm (tk_0 (List.mem_of_getElem? (l := k2_sels lw_privs) (i := 7) (by decide +kernel))) rfl
theorem w8 : Cond.selects "BellPlate$Reader" ⟨"BellPlate$Reader", "readNumber", "()V"⟩ ⟨"BellPlate$Reader", "readNumber", "()V"⟩ ∈ lw_ok := okm (tk_0 (List.mem_of_getElem? (l := k2_sels lw_privs) (i := 8) (by decide +kernel))) rfl
theorem w9 : Cond.selects "BellPlate$Reader" ⟨"BellPlate$Reader", "thingLine", "()V"⟩ ⟨"BellPlate$Reader", "thingLine", "()V"⟩ ∈ lw_ok := okm (tk_0 (List.mem_of_getElem? (l := k2_sels lw_privs) (i := 9) (by decide +kernel))) rfl
theorem w10 : Cond.selects "BellPlate$Reader" ⟨"BellPlate$Reader", "fail", "(I)V"⟩ ⟨"BellPlate$Reader", "fail", "(I)V"⟩ ∈ lw_ok := okm (tk_0 (List.mem_of_getElem? (l := k2_sels lw_privs) (i := 10) (by decide +kernel))) rfl
theorem w11 : Cond.selects "BellPlate$Reader" ⟨"BellPlate$Reader", "expect", "(I)V"⟩ ⟨"BellPlate$Reader", "expect", "(I)V"⟩ ∈ lw_ok := okm (tk_0 (List.mem_of_getElem? (l := k2_sels lw_privs) (i := 11) (by decide +kernel))) rfl
theorem w12 : Cond.selects "BellPlate$Reader" ⟨"BellPlate$Reader", "mostLine", "()V"⟩ ⟨"BellPlate$Reader", "mostLine", "()V"⟩ ∈ lw_ok := okm (tk_0 (List.mem_of_getElem? (l := k2_sels lw_privs) (i := 12) (by decide +kernel))) rfl
theorem w13 : Cond.selects "BellPlate$Reader" ⟨"BellPlate$Reader", "numberUpTo", "(I)I"⟩ ⟨"BellPlate$Reader", "numberUpTo", "(I)I"⟩ ∈ lw_ok := okm (tk_0 (List.mem_of_getElem? (l := k2_sels lw_privs) (i := 13) (by decide +kernel))) rfl
theorem w14 : Cond.selects "BellPlate$Reader" ⟨"BellPlate$Reader", "barLine", "()V"⟩ ⟨"BellPlate$Reader", "barLine", "()V"⟩ ∈ lw_ok := okm (tk_0 (List.mem_of_getElem? (l := k2_sels lw_privs) (i := 14) (by decide +kernel))) rfl
theorem w15 : Cond.selects "BellPlate$Reader" ⟨"BellPlate$Reader", "allowLine", "()V"⟩ ⟨"BellPlate$Reader", "allowLine", "()V"⟩ ∈ lw_ok := okm (tk_0 (List.mem_of_getElem? (l := k2_sels lw_privs) (i := 15) (by decide +kernel))) rfl
theorem w16 : Cond.selects "BellPlate$Reader" ⟨"BellPlate$Reader", "expression", "(II)V"⟩ ⟨"BellPlate$Reader", "expression", "(II)V"⟩ ∈ lw_ok := okm (tk_0 (List.mem_of_getElem? (l := k2_sels lw_privs) (i := 16) (by decide +kernel))) rfl
theorem w17 : Cond.selects "BellPlate$Reader" ⟨"BellPlate$Reader", "part", "(I)V"⟩ ⟨"BellPlate$Reader", "part", "(I)V"⟩ ∈ lw_ok := okm (tk_0 (List.mem_of_getElem? (l := k2_sels lw_privs) (i := 17) (by decide +kernel))) rfl
theorem w18 : Cond.selects "BellPlate$Reader" ⟨"BellPlate$Reader", "faultOfPart", "(I)I"⟩ ⟨"BellPlate$Reader", "faultOfPart", "(I)I"⟩ ∈ lw_ok := okm (tk_0 (List.mem_of_getElem? (l := k2_sels lw_privs) (i := 18) (by decide +kernel))) rfl
theorem w19 : Cond.selects "BellPlate$Reader" ⟨"BellPlate$Reader", "codeOfPart", "()I"⟩ ⟨"BellPlate$Reader", "codeOfPart", "()I"⟩ ∈ lw_ok := okm (tk_0 (List.mem_of_getElem? (l := k2_sels lw_privs) (i := 19) (by decide +kernel))) rfl
theorem w20 : Cond.selects "BellPlate$Reader" ⟨"BellPlate$Reader", "levelOfToken", "()I"⟩ ⟨"BellPlate$Reader", "levelOfToken", "()I"⟩ ∈ lw_ok := okm (tk_0 (List.mem_of_getElem? (l := k2_sels lw_privs) (i := 20) (by decide +kernel))) rfl
theorem w21 : Cond.selects "BellPlate$Reader" ⟨"BellPlate$Reader", "codeOfSign", "()I"⟩ ⟨"BellPlate$Reader", "codeOfSign", "()I"⟩ ∈ lw_ok := okm (tk_0 (List.mem_of_getElem? (l := k2_sels lw_privs) (i := 21) (by decide +kernel))) rfl
theorem w22 : Cond.selects "BellPlate$Reader" ⟨"BellPlate$Reader", "costLine", "()V"⟩ ⟨"BellPlate$Reader", "costLine", "()V"⟩ ∈ lw_ok := okm (tk_0 (List.mem_of_getElem? (l := k2_sels lw_privs) (i := 22) (by decide +kernel))) rfl
theorem w23 : Cond.selects "BellPlate$Rest" ⟨"BellPlate$Rest", "keep", "(IJ)V"⟩ ⟨"BellPlate$Rest", "keep", "(IJ)V"⟩ ∈ lw_ok := okm (tk_0 (List.mem_of_getElem? (l := k2_sels lw_privs) (i := 23) (by decide +kernel))) rfl
theorem w24 : Cond.selects "BellPlate$Chooser" ⟨"BellPlate$Chooser", "addTimes", "(JI)V"⟩ ⟨"BellPlate$Chooser", "addTimes", "(JI)V"⟩ ∈ lw_ok := okm (tk_0 (List.mem_of_getElem? (l := k2_sels lw_privs) (i := 24) (by decide +kernel))) rfl
theorem w25 : Cond.selects "BellPlate$Chooser" ⟨"BellPlate$Chooser", "stillest", "(J)I"⟩ ⟨"BellPlate$Chooser", "stillest", "(J)I"⟩ ∈ lw_ok := okm (tk_0 (List.mem_of_getElem? (l := k2_sels lw_privs) (i := 25) (by decide +kernel))) rfl
theorem w26 : Cond.selects "BellPlate$Chooser" ⟨"BellPlate$Chooser", "evenest", "(JIZ)I"⟩ ⟨"BellPlate$Chooser", "evenest", "(JIZ)I"⟩ ∈ lw_ok := okm (tk_0 (List.mem_of_getElem? (l := k2_sels lw_privs) (i := 26) (by decide +kernel))) rfl
theorem w27 : Cond.selects "BellPlate" ⟨"BellPlate", "isQuestion", "(II)Z"⟩ ⟨"BellPlate", "isQuestion", "(II)Z"⟩ ∈ lw_ok := okm (tk_0 (List.mem_of_getElem? (l := k2_sels lw_privs) (i := 27) (by decide +kernel))) rfl
theorem w28 : Cond.selects "BellPlate$Planner" ⟨"BellPlate$Planner", "groupAnswers", "(III)V"⟩ ⟨"BellPlate$Planner", "groupAnswers", "(III)V"⟩ ∈ lw_ok := okm (tk_0 (List.mem_of_getElem? (l := k2_sels lw_privs) (i := 28) (by decide +kernel))) rfl
theorem w29 : Cond.selects "BellPlate$Planner" ⟨"BellPlate$Planner", "findSplits", "(I)V"⟩ ⟨"BellPlate$Planner", "findSplits", "(I)V"⟩ ∈ lw_ok := okm (tk_0 (List.mem_of_getElem? (l := k2_sels lw_privs) (i := 29) (by decide +kernel))) rfl
theorem w30 : Cond.selects "BellPlate$Planner" ⟨"BellPlate$Planner", "isNewSplit", "(II)Z"⟩ ⟨"BellPlate$Planner", "isNewSplit", "(II)Z"⟩ ∈ lw_ok := okm (tk_0 (List.mem_of_getElem? (l := k2_sels lw_privs) (i := 30) (by decide +kernel))) rfl
theorem w31 : Cond.selects "BellPlate$Planner" ⟨"BellPlate$Planner", "depthOf", "(II)I"⟩ ⟨"BellPlate$Planner", "depthOf", "(II)I"⟩ ∈ lw_ok := okm (tk_0 (List.mem_of_getElem? (l := k2_sels lw_privs) (i := 31) (by decide +kernel))) rfl
theorem w32 : Cond.selects "BellPlate$Planner" ⟨"BellPlate$Planner", "isAlike", "(I)Z"⟩ ⟨"BellPlate$Planner", "isAlike", "(I)Z"⟩ ∈ lw_ok := okm (tk_0 (List.mem_of_getElem? (l := k2_sels lw_privs) (i := 32) (by decide +kernel))) rfl
theorem w33 : Cond.selects "BellPlate$Planner" ⟨"BellPlate$Planner", "depthBy", "(IIII)I"⟩ ⟨"BellPlate$Planner", "depthBy", "(IIII)I"⟩ ∈ lw_ok := okm (tk_0 (List.mem_of_getElem? (l := k2_sels lw_privs) (i := 33) (by decide +kernel))) rfl
theorem w34 : Cond.selects "BellPlate" ⟨"BellPlate", "canRun", "(II)Z"⟩ ⟨"BellPlate", "canRun", "(II)Z"⟩ ∈ lw_ok := okm (tk_0 (List.mem_of_getElem? (l := k2_sels lw_privs) (i := 34) (by decide +kernel))) rfl
theorem w35 : Cond.selects "BellPlate$Chooser" ⟨"BellPlate$Chooser", "copyOfRest", "()[I"⟩ ⟨"BellPlate$Chooser", "copyOfRest", "()[I"⟩ ∈ lw_ok := okm (tk_0 (List.mem_of_getElem? (l := k2_sels lw_privs) (i := 35) (by decide +kernel))) rfl
theorem w36 : Cond.selects "BellPlate$Chooser" ⟨"BellPlate$Chooser", "partRow", "([IIII)I"⟩ ⟨"BellPlate$Chooser", "partRow", "([IIII)I"⟩ ∈ lw_ok := okm (tk_0 (List.mem_of_getElem? (l := k2_sels lw_privs) (i := 36) (by decide +kernel))) rfl
theorem w37 : Cond.selects "BellPlate$Chooser" ⟨"BellPlate$Chooser", "put", "(IIII)I"⟩ ⟨"BellPlate$Chooser", "put", "(IIII)I"⟩ ∈ lw_ok := okm (tk_0 (List.mem_of_getElem? (l := k2_sels lw_privs) (i := 37) (by decide +kernel))) rfl
theorem w38 : Cond.selects "BellPlate$Chooser" ⟨"BellPlate$Chooser", "endRuns", "([IIIII)V"⟩ ⟨"BellPlate$Chooser", "endRuns", "([IIIII)V"⟩ ∈ lw_ok := okm (tk_0 (List.mem_of_getElem? (l := k2_sels lw_privs) (i := 38) (by decide +kernel))) rfl
theorem w39 : Cond.selects "BellPlate$Fit" ⟨"BellPlate$Fit", "tryRow", "(II)V"⟩ ⟨"BellPlate$Fit", "tryRow", "(II)V"⟩ ∈ lw_ok := okm (tk_0 (List.mem_of_getElem? (l := k2_sels lw_privs) (i := 39) (by decide +kernel))) rfl
theorem w40 : Cond.selects "BellPlate$Fit" ⟨"BellPlate$Fit", "leastBarOfRow", "()I"⟩ ⟨"BellPlate$Fit", "leastBarOfRow", "()I"⟩ ∈ lw_ok := okm (tk_0 (List.mem_of_getElem? (l := k2_sels lw_privs) (i := 40) (by decide +kernel))) rfl
theorem w41 : Cond.selects "BellPlate$Fit" ⟨"BellPlate$Fit", "gatherTrials", "()V"⟩ ⟨"BellPlate$Fit", "gatherTrials", "()V"⟩ ∈ lw_ok := okm (tk_0 (List.mem_of_getElem? (l := k2_sels lw_privs) (i := 41) (by decide +kernel))) rfl
theorem w42 : Cond.selects "BellPlate$Fit" ⟨"BellPlate$Fit", "addHolder", "(II)V"⟩ ⟨"BellPlate$Fit", "addHolder", "(II)V"⟩ ∈ lw_ok := okm (tk_0 (List.mem_of_getElem? (l := k2_sels lw_privs) (i := 42) (by decide +kernel))) rfl
theorem w43 : Cond.selects "BellPlate$Fit" ⟨"BellPlate$Fit", "chooseRinging", "(IIIIII)Z"⟩ ⟨"BellPlate$Fit", "chooseRinging", "(IIIIII)Z"⟩ ∈ lw_ok := okm (tk_0 (List.mem_of_getElem? (l := k2_sels lw_privs) (i := 43) (by decide +kernel))) rfl
theorem w44 : Cond.selects "BellPlate$Fit" ⟨"BellPlate$Fit", "chooseSilent", "(IIIIII)Z"⟩ ⟨"BellPlate$Fit", "chooseSilent", "(IIIIII)Z"⟩ ∈ lw_ok := okm (tk_0 (List.mem_of_getElem? (l := k2_sels lw_privs) (i := 44) (by decide +kernel))) rfl
theorem w45 : Cond.selects "BellPlate$Doubt" ⟨"BellPlate$Doubt", "note", "(JI)V"⟩ ⟨"BellPlate$Doubt", "note", "(JI)V"⟩ ∈ lw_ok := okm (tk_0 (List.mem_of_getElem? (l := k2_sels lw_privs) (i := 45) (by decide +kernel))) rfl
theorem w46 : Cond.selects "BellPlate$Doubt" ⟨"BellPlate$Doubt", "firstWrong", "(J)I"⟩ ⟨"BellPlate$Doubt", "firstWrong", "(J)I"⟩ ∈ lw_ok := okm (tk_0 (List.mem_of_getElem? (l := k2_sels lw_privs) (i := 46) (by decide +kernel))) rfl
theorem w47 : Cond.selects "BellPlate$Doubt" ⟨"BellPlate$Doubt", "tryGrowths", "(I)V"⟩ ⟨"BellPlate$Doubt", "tryGrowths", "(I)V"⟩ ∈ lw_ok := okm (tk_0 (List.mem_of_getElem? (l := k2_sels lw_privs) (i := 47) (by decide +kernel))) rfl
theorem w48 : Cond.selects "BellPlate$Doubt" ⟨"BellPlate$Doubt", "isBetter", "(III)Z"⟩ ⟨"BellPlate$Doubt", "isBetter", "(III)Z"⟩ ∈ lw_ok := okm (tk_0 (List.mem_of_getElem? (l := k2_sels lw_privs) (i := 48) (by decide +kernel))) rfl
theorem w49 : Cond.selects "BellPlate$Doubt" ⟨"BellPlate$Doubt", "holdsGrown", "(III)Z"⟩ ⟨"BellPlate$Doubt", "holdsGrown", "(III)Z"⟩ ∈ lw_ok := okm (tk_0 (List.mem_of_getElem? (l := k2_sels lw_privs) (i := 49) (by decide +kernel))) rfl
theorem w50 : Cond.selects "BellPlate$Doubt" ⟨"BellPlate$Doubt", "isCovered", "(J[II)Z"⟩ ⟨"BellPlate$Doubt", "isCovered", "(J[II)Z"⟩ ∈ lw_ok := okm (tk_0 (List.mem_of_getElem? (l := k2_sels lw_privs) (i := 50) (by decide +kernel))) rfl
theorem w51 : Cond.selects "BellPlate$Doubt" ⟨"BellPlate$Doubt", "hasPair", "(J[II)Z"⟩ ⟨"BellPlate$Doubt", "hasPair", "(J[II)Z"⟩ ∈ lw_ok := okm (tk_0 (List.mem_of_getElem? (l := k2_sels lw_privs) (i := 51) (by decide +kernel))) rfl
theorem w52 : Cond.selects "BellPlate$Power" ⟨"BellPlate$Power", "isNearer", "(IIZ)Z"⟩ ⟨"BellPlate$Power", "isNearer", "(IIZ)Z"⟩ ∈ lw_ok := okm (tk_0 (List.mem_of_getElem? (l := k2_sels lw_privs) (i := 52) (by decide +kernel))) rfl
theorem w53 : Cond.selects "java/lang/Throwable" ⟨"java/lang/Throwable", "fillInStackTrace", "(I)Ljava/lang/Throwable;"⟩ ⟨"java/lang/Throwable", "fillInStackTrace", "(I)Ljava/lang/Throwable;"⟩ ∈ lw_ok := okm (tk_0 (List.mem_of_getElem? (l := k2_sels lw_privs) (i := 53) (by decide +kernel))) rfl
theorem w54 : Cond.selects "BellPlateModel" ⟨"BellPlateModel", "lays", "(J)V"⟩ ⟨"BellPlateModel", "lays", "(J)V"⟩ ∈ lw_ok := okm (tk_0 (List.mem_of_getElem? (l := k2_sels lw_privs) (i := 54) (by decide +kernel))) rfl
theorem w55 : Cond.selects "BellPlateModel" ⟨"BellPlateModel", "laysAll", "()V"⟩ ⟨"BellPlateModel", "laysAll", "()V"⟩ ∈ lw_ok := okm (tk_0 (List.mem_of_getElem? (l := k2_sels lw_privs) (i := 55) (by decide +kernel))) rfl
theorem w56 : Cond.selects "BellPlateModel" ⟨"BellPlateModel", "unpacks", "(I)V"⟩ ⟨"BellPlateModel", "unpacks", "(I)V"⟩ ∈ lw_ok := okm (tk_0 (List.mem_of_getElem? (l := k2_sels lw_privs) (i := 56) (by decide +kernel))) rfl
theorem w57 : Cond.selects "BellPlateModel" ⟨"BellPlateModel", "weighs", "()V"⟩ ⟨"BellPlateModel", "weighs", "()V"⟩ ∈ lw_ok := okm (tk_0 (List.mem_of_getElem? (l := k2_sels lw_privs) (i := 57) (by decide +kernel))) rfl
theorem w58 : Cond.selects "BellPlateModel" ⟨"BellPlateModel", "sets", "()I"⟩ ⟨"BellPlateModel", "sets", "()I"⟩ ∈ lw_ok := okm (tk_0 (List.mem_of_getElem? (l := k2_sels lw_privs) (i := 58) (by decide +kernel))) rfl
theorem w59 : Cond.selects "BellPlateModel" ⟨"BellPlateModel", "listNow", "()J"⟩ ⟨"BellPlateModel", "listNow", "()J"⟩ ∈ lw_ok := okm (tk_0 (List.mem_of_getElem? (l := k2_sels lw_privs) (i := 59) (by decide +kernel))) rfl
theorem w60 : Cond.selects "BellPlateModel" ⟨"BellPlateModel", "mayNow", "()Z"⟩ ⟨"BellPlateModel", "mayNow", "()Z"⟩ ∈ lw_ok := okm (tk_0 (List.mem_of_getElem? (l := k2_sels lw_privs) (i := 60) (by decide +kernel))) rfl
theorem w61 : Cond.selects "BellPlateModel" ⟨"BellPlateModel", "worthAt", "(I)I"⟩ ⟨"BellPlateModel", "worthAt", "(I)I"⟩ ∈ lw_ok := okm (tk_0 (List.mem_of_getElem? (l := k2_sels lw_privs) (i := 61) (by decide +kernel))) rfl
theorem w62 : Cond.selects "BellPlateModel" ⟨"BellPlateModel", "numberFor", "(J)I"⟩ ⟨"BellPlateModel", "numberFor", "(J)I"⟩ ∈ lw_ok := okm (tk_0 (List.mem_of_getElem? (l := k2_sels lw_privs) (i := 62) (by decide +kernel))) rfl
theorem w63 : Cond.selects "BellPlateModel" ⟨"BellPlateModel", "costOf", "(I)I"⟩ ⟨"BellPlateModel", "costOf", "(I)I"⟩ ∈ lw_ok := okm (tk_0 (List.mem_of_getElem? (l := k2_sels lw_privs) (i := 63) (by decide +kernel))) rfl
theorem w64 : Cond.selects "BellPlateModel" ⟨"BellPlateModel", "cutAll", "()V"⟩ ⟨"BellPlateModel", "cutAll", "()V"⟩ ∈ lw_ok := okm (tk_0 (List.mem_of_getElem? (l := k2_sels lw_privs) (i := 64) (by decide +kernel))) rfl
theorem w65 : Cond.selects "BellPlateModel" ⟨"BellPlateModel", "readLine", "()V"⟩ ⟨"BellPlateModel", "readLine", "()V"⟩ ∈ lw_ok := okm (tk_0 (List.mem_of_getElem? (l := k2_sels lw_privs) (i := 65) (by decide +kernel))) rfl
theorem w66 : Cond.selects "BellPlateModel" ⟨"BellPlateModel", "isWord", "(I)Z"⟩ ⟨"BellPlateModel", "isWord", "(I)Z"⟩ ∈ lw_ok := okm (tk_0 (List.mem_of_getElem? (l := k2_sels lw_privs) (i := 66) (by decide +kernel))) rfl
theorem w67 : Cond.selects "BellPlateModel" ⟨"BellPlateModel", "faulty", "(I)V"⟩ ⟨"BellPlateModel", "faulty", "(I)V"⟩ ∈ lw_ok := okm (tk_0 (List.mem_of_getElem? (l := k2_sels lw_privs) (i := 67) (by decide +kernel))) rfl
theorem w68 : Cond.selects "BellPlateModel" ⟨"BellPlateModel", "isName", "()Z"⟩ ⟨"BellPlateModel", "isName", "()Z"⟩ ∈ lw_ok := okm (tk_0 (List.mem_of_getElem? (l := k2_sels lw_privs) (i := 68) (by decide +kernel))) rfl
theorem w69 : Cond.selects "BellPlateModel" ⟨"BellPlateModel", "nameOf", "(J)I"⟩ ⟨"BellPlateModel", "nameOf", "(J)I"⟩ ∈ lw_ok := okm (tk_0 (List.mem_of_getElem? (l := k2_sels lw_privs) (i := 69) (by decide +kernel))) rfl
theorem w70 : Cond.selects "BellPlateModel" ⟨"BellPlateModel", "takeNumber", "(II)I"⟩ ⟨"BellPlateModel", "takeNumber", "(II)I"⟩ ∈ lw_ok := okm (tk_0 (List.mem_of_getElem? (l := k2_sels lw_privs) (i := 70) (by decide +kernel))) rfl
theorem w71 : Cond.selects "BellPlateModel" ⟨"BellPlateModel", "readWhole", "(Z)V"⟩ ⟨"BellPlateModel", "readWhole", "(Z)V"⟩ ∈ lw_ok := okm (tk_0 (List.mem_of_getElem? (l := k2_sels lw_privs) (i := 71) (by decide +kernel))) rfl
theorem w72 : Cond.selects "BellPlateModel" ⟨"BellPlateModel", "all", "(I)V"⟩ ⟨"BellPlateModel", "all", "(I)V"⟩ ∈ lw_ok := okm (tk_0 (List.mem_of_getElem? (l := k2_sels lw_privs) (i := 72) (by decide +kernel))) rfl
theorem w73 : Cond.selects "BellPlateModel" ⟨"BellPlateModel", "test", "(I)V"⟩ ⟨"BellPlateModel", "test", "(I)V"⟩ ∈ lw_ok := okm (tk_0 (List.mem_of_getElem? (l := k2_sels lw_privs) (i := 73) (by decide +kernel))) rfl
theorem w74 : Cond.selects "BellPlateModel" ⟨"BellPlateModel", "sums", "(I)V"⟩ ⟨"BellPlateModel", "sums", "(I)V"⟩ ∈ lw_ok := okm (tk_0 (List.mem_of_getElem? (l := k2_sels lw_privs) (i := 74) (by decide +kernel))) rfl
theorem w75 : Cond.selects "BellPlateModel" ⟨"BellPlateModel", "products", "(I)V"⟩ ⟨"BellPlateModel", "products", "(I)V"⟩ ∈ lw_ok := okm (tk_0 (List.mem_of_getElem? (l := k2_sels lw_privs) (i := 75) (by decide +kernel))) rfl
theorem w76 : Cond.selects "BellPlateModel" ⟨"BellPlateModel", "takePart", "(I)V"⟩ ⟨"BellPlateModel", "takePart", "(I)V"⟩ ∈ lw_ok := okm (tk_0 (List.mem_of_getElem? (l := k2_sels lw_privs) (i := 76) (by decide +kernel))) rfl
theorem w77 : Cond.selects "BellPlateModel" ⟨"BellPlateModel", "isSign", "(I)Z"⟩ ⟨"BellPlateModel", "isSign", "(I)Z"⟩ ∈ lw_ok := okm (tk_0 (List.mem_of_getElem? (l := k2_sels lw_privs) (i := 77) (by decide +kernel))) rfl
theorem w78 : Cond.selects "BellPlateModel" ⟨"BellPlateModel", "hasWord", "(I)Z"⟩ ⟨"BellPlateModel", "hasWord", "(I)Z"⟩ ∈ lw_ok := okm (tk_0 (List.mem_of_getElem? (l := k2_sels lw_privs) (i := 78) (by decide +kernel))) rfl
theorem w79 : Cond.selects "BellPlateModel" ⟨"BellPlateModel", "emit", "(II)V"⟩ ⟨"BellPlateModel", "emit", "(II)V"⟩ ∈ lw_ok := okm (tk_0 (List.mem_of_getElem? (l := k2_sels lw_privs) (i := 79) (by decide +kernel))) rfl
theorem w80 : Cond.selects "BellPlateModel" ⟨"BellPlateModel", "hasSign", "(I)Z"⟩ ⟨"BellPlateModel", "hasSign", "(I)Z"⟩ ∈ lw_ok := okm (tk_0 (List.mem_of_getElem? (l := k2_sels lw_privs) (i := 80) (by decide +kernel))) rfl
theorem w81 : Cond.selects "BellPlateModel" ⟨"BellPlateModel", "takeSign", "(I)V"⟩ ⟨"BellPlateModel", "takeSign", "(I)V"⟩ ∈ lw_ok := okm (tk_0 (List.mem_of_getElem? (l := k2_sels lw_privs) (i := 81) (by decide +kernel))) rfl
theorem w82 : Cond.selects "BellPlateModel" ⟨"BellPlateModel", "takesTower", "()V"⟩ ⟨"BellPlateModel", "takesTower", "()V"⟩ ∈ lw_ok := okm (tk_0 (List.mem_of_getElem? (l := k2_sels lw_privs) (i := 82) (by decide +kernel))) rfl
theorem w83 : Cond.selects "BellPlateModel" ⟨"BellPlateModel", "isWeights", "(I)Z"⟩ ⟨"BellPlateModel", "isWeights", "(I)Z"⟩ ∈ lw_ok := okm (tk_0 (List.mem_of_getElem? (l := k2_sels lw_privs) (i := 83) (by decide +kernel))) rfl
theorem w84 : Cond.selects "BellPlateModel" ⟨"BellPlateModel", "isSet", "(I)Z"⟩ ⟨"BellPlateModel", "isSet", "(I)Z"⟩ ∈ lw_ok := okm (tk_0 (List.mem_of_getElem? (l := k2_sels lw_privs) (i := 84) (by decide +kernel))) rfl
theorem w85 : Cond.selects "BellPlateModel" ⟨"BellPlateModel", "findLeft", "()V"⟩ ⟨"BellPlateModel", "findLeft", "()V"⟩ ∈ lw_ok := okm (tk_0 (List.mem_of_getElem? (l := k2_sels lw_privs) (i := 85) (by decide +kernel))) rfl
theorem w86 : Cond.selects "BellPlateModel" ⟨"BellPlateModel", "findMust", "()V"⟩ ⟨"BellPlateModel", "findMust", "()V"⟩ ∈ lw_ok := okm (tk_0 (List.mem_of_getElem? (l := k2_sels lw_privs) (i := 86) (by decide +kernel))) rfl
theorem w87 : Cond.selects "BellPlateModel" ⟨"BellPlateModel", "fitsAll", "(J)Z"⟩ ⟨"BellPlateModel", "fitsAll", "(J)Z"⟩ ∈ lw_ok := okm (tk_0 (List.mem_of_getElem? (l := k2_sels lw_privs) (i := 87) (by decide +kernel))) rfl
theorem w88 : Cond.selects "BellPlateModel" ⟨"BellPlateModel", "fits", "(J)Z"⟩ ⟨"BellPlateModel", "fits", "(J)Z"⟩ ∈ lw_ok := okm (tk_0 (List.mem_of_getElem? (l := k2_sels lw_privs) (i := 88) (by decide +kernel))) rfl
theorem w89 : Cond.selects "BellPlateModel" ⟨"BellPlateModel", "ringOfSize", "(JI)I"⟩ ⟨"BellPlateModel", "ringOfSize", "(JI)I"⟩ ∈ lw_ok := okm (tk_0 (List.mem_of_getElem? (l := k2_sels lw_privs) (i := 89) (by decide +kernel))) rfl
theorem w90 : Cond.selects "BellPlateModel" ⟨"BellPlateModel", "isLeft", "(I)Z"⟩ ⟨"BellPlateModel", "isLeft", "(I)Z"⟩ ∈ lw_ok := okm (tk_0 (List.mem_of_getElem? (l := k2_sels lw_privs) (i := 90) (by decide +kernel))) rfl
theorem w91 : Cond.selects "BellPlateModel" ⟨"BellPlateModel", "ringing", "(I)I"⟩ ⟨"BellPlateModel", "ringing", "(I)I"⟩ ∈ lw_ok := okm (tk_0 (List.mem_of_getElem? (l := k2_sels lw_privs) (i := 91) (by decide +kernel))) rfl
theorem w92 : Cond.selects "BellPlateModel" ⟨"BellPlateModel", "isThing", "(I)Z"⟩ ⟨"BellPlateModel", "isThing", "(I)Z"⟩ ∈ lw_ok := okm (tk_0 (List.mem_of_getElem? (l := k2_sels lw_privs) (i := 92) (by decide +kernel))) rfl
theorem w93 : Cond.selects "BellPlateModel" ⟨"BellPlateModel", "doesMatter", "(JI)Z"⟩ ⟨"BellPlateModel", "doesMatter", "(JI)Z"⟩ ∈ lw_ok := okm (tk_0 (List.mem_of_getElem? (l := k2_sels lw_privs) (i := 93) (by decide +kernel))) rfl
theorem w94 : Cond.selects "BellPlateModel" ⟨"BellPlateModel", "areAlike", "(JII)Z"⟩ ⟨"BellPlateModel", "areAlike", "(JII)Z"⟩ ∈ lw_ok := okm (tk_0 (List.mem_of_getElem? (l := k2_sels lw_privs) (i := 94) (by decide +kernel))) rfl
theorem w95 : Cond.selects "BellPlateModel" ⟨"BellPlateModel", "takesLeft", "()V"⟩ ⟨"BellPlateModel", "takesLeft", "()V"⟩ ∈ lw_ok := okm (tk_0 (List.mem_of_getElem? (l := k2_sels lw_privs) (i := 95) (by decide +kernel))) rfl
theorem w96 : Cond.selects "BellPlateModel" ⟨"BellPlateModel", "nextOf", "(III)I"⟩ ⟨"BellPlateModel", "nextOf", "(III)I"⟩ ∈ lw_ok := okm (tk_0 (List.mem_of_getElem? (l := k2_sels lw_privs) (i := 96) (by decide +kernel))) rfl
theorem w97 : Cond.selects "BellPlateModel" ⟨"BellPlateModel", "isBetter", "(IIII)Z"⟩ ⟨"BellPlateModel", "isBetter", "(IIII)Z"⟩ ∈ lw_ok := okm (tk_0 (List.mem_of_getElem? (l := k2_sels lw_privs) (i := 97) (by decide +kernel))) rfl
theorem w98 : Cond.selects "BellPlateModel" ⟨"BellPlateModel", "canRun", "(II)Z"⟩ ⟨"BellPlateModel", "canRun", "(II)Z"⟩ ∈ lw_ok := okm (tk_0 (List.mem_of_getElem? (l := k2_sels lw_privs) (i := 98) (by decide +kernel))) rfl
theorem w99 : Cond.selects "BellPlateModel" ⟨"BellPlateModel", "runs", "(JI)V"⟩ ⟨"BellPlateModel", "runs", "(JI)V"⟩ ∈ lw_ok := okm (tk_0 (List.mem_of_getElem? (l := k2_sels lw_privs) (i := 99) (by decide +kernel))) rfl
theorem w100 : Cond.selects "BellPlateModel" ⟨"BellPlateModel", "divides", "(III)I"⟩ ⟨"BellPlateModel", "divides", "(III)I"⟩ ∈ lw_ok := okm (tk_0 (List.mem_of_getElem? (l := k2_sels lw_privs) (i := 100) (by decide +kernel))) rfl
theorem w101 : Cond.selects "BellPlateModel" ⟨"BellPlateModel", "findRuns", "(I)Z"⟩ ⟨"BellPlateModel", "findRuns", "(I)Z"⟩ ∈ lw_ok := okm (tk_0 (List.mem_of_getElem? (l := k2_sels lw_privs) (i := 101) (by decide +kernel))) rfl
theorem w102 : Cond.selects "BellPlateModel" ⟨"BellPlateModel", "runsAll", "(IIII)V"⟩ ⟨"BellPlateModel", "runsAll", "(IIII)V"⟩ ∈ lw_ok := okm (tk_0 (List.mem_of_getElem? (l := k2_sels lw_privs) (i := 102) (by decide +kernel))) rfl
theorem w103 : Cond.selects "BellPlateModel" ⟨"BellPlateModel", "isQuestion", "(II)Z"⟩ ⟨"BellPlateModel", "isQuestion", "(II)Z"⟩ ∈ lw_ok := okm (tk_0 (List.mem_of_getElem? (l := k2_sels lw_privs) (i := 103) (by decide +kernel))) rfl
theorem w104 : Cond.selects "BellPlateModel" ⟨"BellPlateModel", "ringCount", "(J)I"⟩ ⟨"BellPlateModel", "ringCount", "(J)I"⟩ ∈ lw_ok := okm (tk_0 (List.mem_of_getElem? (l := k2_sels lw_privs) (i := 104) (by decide +kernel))) rfl
theorem w105 : Cond.selects "BellPlateModel" ⟨"BellPlateModel", "findFewest", "(I)I"⟩ ⟨"BellPlateModel", "findFewest", "(I)I"⟩ ∈ lw_ok := okm (tk_0 (List.mem_of_getElem? (l := k2_sels lw_privs) (i := 105) (by decide +kernel))) rfl
theorem w106 : Cond.selects "BellPlateModel" ⟨"BellPlateModel", "fewestBy", "(I)I"⟩ ⟨"BellPlateModel", "fewestBy", "(I)I"⟩ ∈ lw_ok := okm (tk_0 (List.mem_of_getElem? (l := k2_sels lw_privs) (i := 106) (by decide +kernel))) rfl
theorem w107 : Cond.selects "BellPlateModel" ⟨"BellPlateModel", "by", "(II)I"⟩ ⟨"BellPlateModel", "by", "(II)I"⟩ ∈ lw_ok := okm (tk_0 (List.mem_of_getElem? (l := k2_sels lw_privs) (i := 107) (by decide +kernel))) rfl
theorem w108 : Cond.selects "BellPlateModel" ⟨"BellPlateModel", "findSmallest", "(JJ)Z"⟩ ⟨"BellPlateModel", "findSmallest", "(JJ)Z"⟩ ∈ lw_ok := okm (tk_0 (List.mem_of_getElem? (l := k2_sels lw_privs) (i := 108) (by decide +kernel))) rfl
theorem w109 : Cond.selects "BellPlateModel" ⟨"BellPlateModel", "pairs", "(IIII)Z"⟩ ⟨"BellPlateModel", "pairs", "(IIII)Z"⟩ ∈ lw_ok := okm (tk_0 (List.mem_of_getElem? (l := k2_sels lw_privs) (i := 109) (by decide +kernel))) rfl
theorem w110 : Cond.selects "BellPlateModel" ⟨"BellPlateModel", "fewestWrong", "()I"⟩ ⟨"BellPlateModel", "fewestWrong", "()I"⟩ ∈ lw_ok := okm (tk_0 (List.mem_of_getElem? (l := k2_sels lw_privs) (i := 110) (by decide +kernel))) rfl
theorem w111 : Cond.selects "BellPlateModel" ⟨"BellPlateModel", "wrongOf", "(J)I"⟩ ⟨"BellPlateModel", "wrongOf", "(J)I"⟩ ∈ lw_ok := okm (tk_0 (List.mem_of_getElem? (l := k2_sels lw_privs) (i := 111) (by decide +kernel))) rfl
theorem w112 : Cond.selects "BellPlateModel" ⟨"BellPlateModel", "withWrong", "(I)I"⟩ ⟨"BellPlateModel", "withWrong", "(I)I"⟩ ∈ lw_ok := okm (tk_0 (List.mem_of_getElem? (l := k2_sels lw_privs) (i := 112) (by decide +kernel))) rfl
theorem w113 : Cond.selects "BellPlateModel" ⟨"BellPlateModel", "findGrown", "()Z"⟩ ⟨"BellPlateModel", "findGrown", "()Z"⟩ ∈ lw_ok := okm (tk_0 (List.mem_of_getElem? (l := k2_sels lw_privs) (i := 113) (by decide +kernel))) rfl
theorem w114 : Cond.selects "BellPlateModel" ⟨"BellPlateModel", "growsBy", "(III)V"⟩ ⟨"BellPlateModel", "growsBy", "(III)V"⟩ ∈ lw_ok := okm (tk_0 (List.mem_of_getElem? (l := k2_sels lw_privs) (i := 114) (by decide +kernel))) rfl
theorem w115 : Cond.selects "BellPlateModel" ⟨"BellPlateModel", "firstWrong", "(J)I"⟩ ⟨"BellPlateModel", "firstWrong", "(J)I"⟩ ∈ lw_ok := okm (tk_0 (List.mem_of_getElem? (l := k2_sels lw_privs) (i := 115) (by decide +kernel))) rfl
theorem w116 : Cond.selects "BellPlateModel" ⟨"BellPlateModel", "lastWrong", "(J)I"⟩ ⟨"BellPlateModel", "lastWrong", "(J)I"⟩ ∈ lw_ok := okm (tk_0 (List.mem_of_getElem? (l := k2_sels lw_privs) (i := 116) (by decide +kernel))) rfl
theorem w117 : Cond.selects "BellPlateModel" ⟨"BellPlateModel", "lateBy", "(I)I"⟩ ⟨"BellPlateModel", "lateBy", "(I)I"⟩ ∈ lw_ok := okm (tk_0 (List.mem_of_getElem? (l := k2_sels lw_privs) (i := 117) (by decide +kernel))) rfl
theorem w118 : Cond.selects "BellPlateModel" ⟨"BellPlateModel", "swingsIt", "(JII)Z"⟩ ⟨"BellPlateModel", "swingsIt", "(JII)Z"⟩ ∈ lw_ok := okm (tk_0 (List.mem_of_getElem? (l := k2_sels lw_privs) (i := 118) (by decide +kernel))) rfl
theorem w119 : Cond.initialized "BellPlateLaw" ∈ lw_ok := okm (tk_1 (List.mem_of_getElem? (l := tables_1_1) (i := 0) (by decide +kernel))) rfl
theorem w120 : Cond.initialized "BellPlate" ∈ lw_ok := okm (tk_1 (List.mem_of_getElem? (l := tables_1_1) (i := 1) (by decide +kernel))) rfl
theorem w121 : Cond.initialized "BellPlate$Reader" ∈ lw_ok := okm (tk_1 (List.mem_of_getElem? (l := tables_1_1) (i := 2) (by decide +kernel))) rfl
theorem w122 : Cond.initialized "BellPlate$Tower" ∈ lw_ok := okm (tk_1 (List.mem_of_getElem? (l := tables_1_1) (i := 3) (by decide +kernel))) rfl
theorem w123 : Cond.initialized "BellPlate$Lists" ∈ lw_ok := okm (tk_1 (List.mem_of_getElem? (l := tables_1_1) (i := 4) (by decide +kernel))) rfl
theorem w124 : Cond.initialized "BellPlate$Book" ∈ lw_ok := okm (tk_1 (List.mem_of_getElem? (l := tables_1_1) (i := 5) (by decide +kernel))) rfl
theorem w125 : Cond.initialized "BellPlate$Rest" ∈ lw_ok := okm (tk_1 (List.mem_of_getElem? (l := tables_1_1) (i := 6) (by decide +kernel))) rfl
theorem w126 : Cond.initialized "BellPlate$Chooser" ∈ lw_ok := okm (tk_1 (List.mem_of_getElem? (l := tables_1_1) (i := 7) (by decide +kernel))) rfl
theorem w127 : Cond.initialized "java/util/Arrays" ∈ lw_ok := okm (tk_1 (List.mem_of_getElem? (l := tables_1_1) (i := 8) (by decide +kernel))) rfl
theorem w128 : Cond.initialized "BellPlate$Planner" ∈ lw_ok := okm (tk_1 (List.mem_of_getElem? (l := tables_1_1) (i := 9) (by decide +kernel))) rfl
theorem w129 : Cond.initialized "BellPlate$Fit" ∈ lw_ok := okm (tk_1 (List.mem_of_getElem? (l := tables_1_1) (i := 10) (by decide +kernel))) rfl
theorem w130 : Cond.initialized "BellPlate$Doubt" ∈ lw_ok := okm (tk_1 (List.mem_of_getElem? (l := tables_1_1) (i := 11) (by decide +kernel))) rfl
theorem w131 : Cond.initialized "BellPlate$Power" ∈ lw_ok := okm (tk_1 (List.mem_of_getElem? (l := tables_1_1) (i := 12) (by decide +kernel))) rfl
theorem w132 : Cond.initialized "java/lang/Integer" ∈ lw_ok := okm (tk_1 (List.mem_of_getElem? (l := tables_1_1) (i := 13) (by decide +kernel))) rfl
theorem w133 : Cond.initialized "java/lang/Math" ∈ lw_ok := okm (tk_1 (List.mem_of_getElem? (l := tables_1_1) (i := 14) (by decide +kernel))) rfl
theorem w134 : Cond.initialized "BellPlateModel" ∈ lw_ok := okm (tk_1 (List.mem_of_getElem? (l := tables_1_1) (i := 15) (by decide +kernel))) rfl
theorem w135 : Cond.initialized "java/lang/String" ∈ lw_ok := okm (tk_1 (List.mem_of_getElem? (l := tables_1_1) (i := 16) (by decide +kernel))) rfl
theorem w136 : Cond.initialized "java/lang/StringLatin1" ∈ lw_ok := okm (tk_1 (List.mem_of_getElem? (l := tables_1_1) (i := 17) (by decide +kernel))) rfl
theorem w137 : Cond.initialized "java/lang/StringUTF16" ∈ lw_ok := okm (tk_1 (List.mem_of_getElem? (l := tables_1_1) (i := 18) (by decide +kernel))) rfl
theorem w138 : Cond.initialized "jdk/internal/util/Preconditions" ∈ lw_ok := okm (tk_1 (List.mem_of_getElem? (l := tables_1_1) (i := 19) (by decide +kernel))) rfl
theorem w139 : Cond.initialized "java/lang/Character" ∈ lw_ok := okm (tk_1 (List.mem_of_getElem? (l := tables_1_1) (i := 20) (by decide +kernel))) rfl
theorem w140 : Cond.initialized "java/lang/System" ∈ lw_ok := okm (tk_1 (List.mem_of_getElem? (l := tables_1_1) (i := 21) (by decide +kernel))) rfl
theorem w141 : Cond.initialized "BellPlate$Sets" ∈ lw_ok := okm (tk_1 (List.mem_of_getElem? (l := tables_1_1) (i := 22) (by decide +kernel))) rfl
theorem w142 : Cond.initialized "java/lang/Long" ∈ lw_ok := okm (tk_1 (List.mem_of_getElem? (l := tables_1_1) (i := 23) (by decide +kernel))) rfl
theorem w143 : Cond.initialized "java/lang/Throwable" ∈ lw_ok := okm (tk_1 (List.mem_of_getElem? (l := tables_1_1) (i := 24) (by decide +kernel))) rfl
theorem w144 : Cond.initialized "java/lang/Exception" ∈ lw_ok := okm (tk_1 (List.mem_of_getElem? (l := tables_1_1) (i := 25) (by decide +kernel))) rfl
theorem w145 : Cond.initialized "java/lang/RuntimeException" ∈ lw_ok := okm (tk_1 (List.mem_of_getElem? (l := tables_1_1) (i := 26) (by decide +kernel))) rfl
theorem w146 : Cond.initialized "java/util/NoSuchElementException" ∈ lw_ok := okm (tk_1 (List.mem_of_getElem? (l := tables_1_1) (i := 27) (by decide +kernel))) rfl
theorem w147 : Cond.classLink "BellPlateLaw" 8 "BellPlate" ∈ lw_ok := okm (tk_1 (List.mem_of_getElem? (l := tables_1_1) (i := 28) (by decide +kernel))) rfl
theorem w148 : Cond.instantiable "BellPlate" 12 ∈ lw_ok := okm (tk_1 (List.mem_of_getElem? (l := tables_1_1) (i := 29) (by decide +kernel))) rfl
theorem w149 : Cond.methodLink "BellPlateLaw" 15 ⟨"BellPlate", "<init>", "()V"⟩ ∈ lw_ok := okm (tk_1 (List.mem_of_getElem? (l := tables_1_1) (i := 30) (by decide +kernel))) rfl
theorem w150 : Cond.instanceMethod ⟨"BellPlate", "<init>", "()V"⟩ ∈ lw_ok := okm (tk_1 (List.mem_of_getElem? (l := tables_1_1) (i := 31) (by decide +kernel))) rfl
theorem w151 : Cond.code ⟨"BellPlate", "<init>", "()V"⟩ prog_1_method_1_code 1 (none) ∈ lw_ok := okm (tk_1 (List.mem_of_getElem? (l := tables_1_1) (i := 32) (by decide +kernel))) rfl
theorem w152 : Cond.methodLink "BellPlate" 1 ⟨"java/lang/Object", "<init>", "()V"⟩ ∈ lw_ok := okm (tk_1 (List.mem_of_getElem? (l := tables_1_1) (i := 33) (by decide +kernel))) rfl
theorem w153 : Cond.instanceMethod ⟨"java/lang/Object", "<init>", "()V"⟩ ∈ lw_ok := okm (tk_1 (List.mem_of_getElem? (l := tables_1_1) (i := 34) (by decide +kernel))) rfl
theorem w154 : Cond.code ⟨"java/lang/Object", "<init>", "()V"⟩ object_method_1_code 1 (none) ∈ lw_ok := okm (tk_1 (List.mem_of_getElem? (l := tables_1_1) (i := 35) (by decide +kernel))) rfl
theorem w155 : Cond.classLink "BellPlate" 7 "BellPlate$Reader" ∈ lw_ok := okm (tk_1 (List.mem_of_getElem? (l := tables_1_1) (i := 36) (by decide +kernel))) rfl
theorem w156 : Cond.instantiable "BellPlate$Reader" 13 ∈ lw_ok := okm (tk_1 (List.mem_of_getElem? (l := tables_1_1) (i := 37) (by decide +kernel))) rfl
theorem w157 : Cond.methodLink "BellPlate" 9 ⟨"BellPlate$Reader", "<init>", "()V"⟩ ∈ lw_ok := okm (tk_1 (List.mem_of_getElem? (l := tables_1_1) (i := 38) (by decide +kernel))) rfl
theorem w158 : Cond.instanceMethod ⟨"BellPlate$Reader", "<init>", "()V"⟩ ∈ lw_ok := okm (tk_1 (List.mem_of_getElem? (l := tables_1_1) (i := 39) (by decide +kernel))) rfl
theorem w159 : Cond.code ⟨"BellPlate$Reader", "<init>", "()V"⟩ prog_9_method_1_code 1 (none) ∈ lw_ok := okm (tk_1 (List.mem_of_getElem? (l := tables_1_1) (i := 40) (by decide +kernel))) rfl
theorem w160 : Cond.methodLink "BellPlate$Reader" 3 ⟨"java/lang/Object", "<init>", "()V"⟩ ∈ lw_ok := okm (tk_1 (List.mem_of_getElem? (l := tables_1_1) (i := 41) (by decide +kernel))) rfl
theorem w161 : Cond.classLink "BellPlate$Reader" 15 "BellPlate$Tower" ∈ lw_ok := okm (tk_1 (List.mem_of_getElem? (l := tables_1_1) (i := 42) (by decide +kernel))) rfl
theorem w162 : Cond.instantiable "BellPlate$Tower" 11 ∈ lw_ok := okm (tk_1 (List.mem_of_getElem? (l := tables_1_1) (i := 43) (by decide +kernel))) rfl
theorem w163 : Cond.methodLink "BellPlate$Reader" 17 ⟨"BellPlate$Tower", "<init>", "()V"⟩ ∈ lw_ok := okm (tk_1 (List.mem_of_getElem? (l := tables_1_1) (i := 44) (by decide +kernel))) rfl
theorem w164 : Cond.instanceMethod ⟨"BellPlate$Tower", "<init>", "()V"⟩ ∈ lw_ok := okm (tk_1 (List.mem_of_getElem? (l := tables_1_1) (i := 45) (by decide +kernel))) rfl
theorem w165 : Cond.code ⟨"BellPlate$Tower", "<init>", "()V"⟩ prog_12_method_1_code 1 (none) ∈ lw_ok := okm (tk_1 (List.mem_of_getElem? (l := tables_1_1) (i := 46) (by decide +kernel))) rfl
theorem w166 : Cond.methodLink "BellPlate$Tower" 5 ⟨"java/lang/Object", "<init>", "()V"⟩ ∈ lw_ok := okm (tk_1 (List.mem_of_getElem? (l := tables_1_1) (i := 47) (by decide +kernel))) rfl
theorem w167 : Cond.fieldLink "BellPlate$Tower" 11 "BellPlate$Tower" "names" "[J" ∈ lw_ok := okm (tk_1 (List.mem_of_getElem? (l := tables_1_1) (i := 48) (by decide +kernel))) rfl
theorem w168 : Cond.fieldLink "BellPlate$Tower" 15 "BellPlate$Tower" "codes" "[I" ∈ lw_ok := okm (tk_1 (List.mem_of_getElem? (l := tables_1_1) (i := 49) (by decide +kernel))) rfl
theorem w169 : Cond.fieldLink "BellPlate$Tower" 19 "BellPlate$Tower" "starts" "[I" ∈ lw_ok := okm (tk_1 (List.mem_of_getElem? (l := tables_1_1) (i := 50) (by decide +kernel))) rfl
theorem w170 : Cond.fieldLink "BellPlate$Tower" 22 "BellPlate$Tower" "ends" "[I" ∈ lw_ok := okm (tk_1 (List.mem_of_getElem? (l := tables_1_1) (i := 51) (by decide +kernel))) rfl
theorem w171 : Cond.fieldLink "BellPlate$Tower" 27 "BellPlate$Tower" "costs" "[I" ∈ lw_ok := okm (tk_1 (List.mem_of_getElem? (l := tables_1_1) (i := 52) (by decide +kernel))) rfl
theorem w172 : Cond.fieldLink "BellPlate$Tower" 30 "BellPlate$Tower" "stack" "[I" ∈ lw_ok := okm (tk_1 (List.mem_of_getElem? (l := tables_1_1) (i := 53) (by decide +kernel))) rfl
theorem w173 : Cond.fieldLink "BellPlate$Tower" 40 "BellPlate$Tower" "used" "I" ∈ lw_ok := okm (tk_1 (List.mem_of_getElem? (l := tables_1_1) (i := 54) (by decide +kernel))) rfl
theorem w174 : Cond.fieldLink "BellPlate$Tower" 43 "BellPlate$Tower" "things" "I" ∈ lw_ok := okm (tk_1 (List.mem_of_getElem? (l := tables_1_1) (i := 55) (by decide +kernel))) rfl
theorem w175 : Cond.fieldLink "BellPlate$Tower" 33 "BellPlate$Tower" "most" "I" ∈ lw_ok := okm (tk_1 (List.mem_of_getElem? (l := tables_1_1) (i := 56) (by decide +kernel))) rfl
theorem w176 : Cond.fieldLink "BellPlate$Tower" 37 "BellPlate$Tower" "bar" "I" ∈ lw_ok := okm (tk_1 (List.mem_of_getElem? (l := tables_1_1) (i := 57) (by decide +kernel))) rfl
theorem w177 : Cond.fieldLink "BellPlate$Tower" 46 "BellPlate$Tower" "allows" "I" ∈ lw_ok := okm (tk_1 (List.mem_of_getElem? (l := tables_1_1) (i := 58) (by decide +kernel))) rfl
theorem w201 : Cond.arrayClass FieldType.char ∈ lw_ok := okm (tk_1 (List.mem_of_getElem? (l := tables_1_1) (i := 82) (by decide +kernel))) rfl
theorem w202 : Cond.arrayClass FieldType.long ∈ lw_ok := okm (tk_1 (List.mem_of_getElem? (l := tables_1_1) (i := 83) (by decide +kernel))) rfl
theorem w203 : Cond.arrayClass FieldType.int ∈ lw_ok := okm (tk_1 (List.mem_of_getElem? (l := tables_1_1) (i := 84) (by decide +kernel))) rfl
theorem w204 : Cond.fieldLink "BellPlate$Reader" 11 "BellPlate$Reader" "signs" "[C" ∈ lw_ok := okm (tk_1 (List.mem_of_getElem? (l := tables_1_1) (i := 85) (by decide +kernel))) rfl
theorem w205 : Cond.fieldLink "BellPlate$Reader" 18 "BellPlate$Reader" "draft" "LBellPlate$Tower;" ∈ lw_ok := okm (tk_1 (List.mem_of_getElem? (l := tables_1_1) (i := 86) (by decide +kernel))) rfl
theorem w206 : Cond.fieldLink "BellPlate$Reader" 22 "BellPlate$Reader" "size" "I" ∈ lw_ok := okm (tk_1 (List.mem_of_getElem? (l := tables_1_1) (i := 87) (by decide +kernel))) rfl
theorem w207 : Cond.fieldLink "BellPlate$Reader" 28 "BellPlate$Reader" "at" "I" ∈ lw_ok := okm (tk_1 (List.mem_of_getElem? (l := tables_1_1) (i := 88) (by decide +kernel))) rfl
theorem w208 : Cond.fieldLink "BellPlate$Reader" 50 "BellPlate$Reader" "kind" "I" ∈ lw_ok := okm (tk_1 (List.mem_of_getElem? (l := tables_1_1) (i := 89) (by decide +kernel))) rfl
theorem w209 : Cond.fieldLink "BellPlate$Reader" 76 "BellPlate$Reader" "place" "I" ∈ lw_ok := okm (tk_1 (List.mem_of_getElem? (l := tables_1_1) (i := 90) (by decide +kernel))) rfl
theorem w210 : Cond.fieldLink "BellPlate$Reader" 111 "BellPlate$Reader" "value" "I" ∈ lw_ok := okm (tk_1 (List.mem_of_getElem? (l := tables_1_1) (i := 91) (by decide +kernel))) rfl
theorem w211 : Cond.fieldLink "BellPlate$Reader" 103 "BellPlate$Reader" "word" "J" ∈ lw_ok := okm (tk_1 (List.mem_of_getElem? (l := tables_1_1) (i := 92) (by decide +kernel))) rfl
theorem w212 : Cond.fieldLink "BellPlate$Reader" 31 "BellPlate$Reader" "fault" "I" ∈ lw_ok := okm (tk_1 (List.mem_of_getElem? (l := tables_1_1) (i := 93) (by decide +kernel))) rfl
theorem w213 : Cond.fieldLink "BellPlate$Reader" 34 "BellPlate$Reader" "mostTold" "Z" ∈ lw_ok := okm (tk_1 (List.mem_of_getElem? (l := tables_1_1) (i := 94) (by decide +kernel))) rfl
theorem w214 : Cond.fieldLink "BellPlate$Reader" 38 "BellPlate$Reader" "barTold" "Z" ∈ lw_ok := okm (tk_1 (List.mem_of_getElem? (l := tables_1_1) (i := 95) (by decide +kernel))) rfl
theorem w215 : Cond.fieldLink "BellPlate$Reader" 41 "BellPlate$Reader" "costTold" "Z" ∈ lw_ok := okm (tk_1 (List.mem_of_getElem? (l := tables_1_1) (i := 96) (by decide +kernel))) rfl
theorem w216 : Cond.fieldLink "BellPlate$Reader" 140 "BellPlate$Reader" "inCost" "Z" ∈ lw_ok := okm (tk_1 (List.mem_of_getElem? (l := tables_1_1) (i := 97) (by decide +kernel))) rfl
theorem w244 : Cond.classLink "BellPlate" 16 "BellPlate$Tower" ∈ lw_ok := okm (tk_1 (List.mem_of_getElem? (l := tables_1_1) (i := 125) (by decide +kernel))) rfl
theorem w245 : Cond.methodLink "BellPlate" 18 ⟨"BellPlate$Tower", "<init>", "()V"⟩ ∈ lw_ok := okm (tk_1 (List.mem_of_getElem? (l := tables_1_1) (i := 126) (by decide +kernel))) rfl
theorem w246 : Cond.classLink "BellPlate" 23 "BellPlate$Lists" ∈ lw_ok := okm (tk_1 (List.mem_of_getElem? (l := tables_1_1) (i := 127) (by decide +kernel))) rfl
theorem w247 : Cond.instantiable "BellPlate$Lists" 13 ∈ lw_ok := okm (tk_1 (List.mem_of_getElem? (l := tables_1_1) (i := 128) (by decide +kernel))) rfl
theorem w248 : Cond.methodLink "BellPlate" 25 ⟨"BellPlate$Lists", "<init>", "(LBellPlate$Tower;)V"⟩ ∈ lw_ok := okm (tk_1 (List.mem_of_getElem? (l := tables_1_1) (i := 129) (by decide +kernel))) rfl
theorem w249 : Cond.instanceMethod ⟨"BellPlate$Lists", "<init>", "(LBellPlate$Tower;)V"⟩ ∈ lw_ok := okm (tk_1 (List.mem_of_getElem? (l := tables_1_1) (i := 130) (by decide +kernel))) rfl
theorem w250 : Cond.code ⟨"BellPlate$Lists", "<init>", "(LBellPlate$Tower;)V"⟩ prog_6_method_1_code 2 (none) ∈ lw_ok := okm (tk_1 (List.mem_of_getElem? (l := tables_1_1) (i := 131) (by decide +kernel))) rfl
theorem w251 : Cond.methodLink "BellPlate$Lists" 3 ⟨"java/lang/Object", "<init>", "()V"⟩ ∈ lw_ok := okm (tk_1 (List.mem_of_getElem? (l := tables_1_1) (i := 132) (by decide +kernel))) rfl
theorem w252 : Cond.fieldLink "BellPlate$Lists" 9 "BellPlate$Lists" "tower" "LBellPlate$Tower;" ∈ lw_ok := okm (tk_1 (List.mem_of_getElem? (l := tables_1_1) (i := 133) (by decide +kernel))) rfl
theorem w253 : Cond.fieldLink "BellPlate$Lists" 17 "BellPlate$Lists" "row" "[I" ∈ lw_ok := okm (tk_1 (List.mem_of_getElem? (l := tables_1_1) (i := 134) (by decide +kernel))) rfl
theorem w254 : Cond.fieldLink "BellPlate$Lists" 23 "BellPlate$Lists" "sums" "[I" ∈ lw_ok := okm (tk_1 (List.mem_of_getElem? (l := tables_1_1) (i := 135) (by decide +kernel))) rfl
theorem w255 : Cond.fieldLink "BellPlate$Lists" 26 "BellPlate$Lists" "highSums" "[I" ∈ lw_ok := okm (tk_1 (List.mem_of_getElem? (l := tables_1_1) (i := 136) (by decide +kernel))) rfl
theorem w256 : Cond.fieldLink "BellPlate$Lists" 29 "BellPlate$Lists" "lists" "[J" ∈ lw_ok := okm (tk_1 (List.mem_of_getElem? (l := tables_1_1) (i := 137) (by decide +kernel))) rfl
theorem w257 : Cond.fieldLink "BellPlate$Lists" 33 "BellPlate$Lists" "shares" "[I" ∈ lw_ok := okm (tk_1 (List.mem_of_getElem? (l := tables_1_1) (i := 138) (by decide +kernel))) rfl
theorem w258 : Cond.fieldLink "BellPlate$Lists" 36 "BellPlate$Lists" "numbers" "[I" ∈ lw_ok := okm (tk_1 (List.mem_of_getElem? (l := tables_1_1) (i := 139) (by decide +kernel))) rfl
theorem w259 : Cond.fieldLink "BellPlate$Lists" 39 "BellPlate$Lists" "spare" "[I" ∈ lw_ok := okm (tk_1 (List.mem_of_getElem? (l := tables_1_1) (i := 140) (by decide +kernel))) rfl
theorem w260 : Cond.fieldLink "BellPlate$Lists" 42 "BellPlate$Lists" "slots" "[I" ∈ lw_ok := okm (tk_1 (List.mem_of_getElem? (l := tables_1_1) (i := 141) (by decide +kernel))) rfl
theorem w261 : Cond.fieldLink "BellPlate$Lists" 45 "BellPlate$Lists" "lowBlocks" "[I" ∈ lw_ok := okm (tk_1 (List.mem_of_getElem? (l := tables_1_1) (i := 142) (by decide +kernel))) rfl
theorem w262 : Cond.fieldLink "BellPlate$Lists" 126 "BellPlate$Lists" "slotCount" "I" ∈ lw_ok := okm (tk_1 (List.mem_of_getElem? (l := tables_1_1) (i := 143) (by decide +kernel))) rfl
theorem w263 : Cond.fieldLink "BellPlate$Lists" 48 "BellPlate$Lists" "size" "I" ∈ lw_ok := okm (tk_1 (List.mem_of_getElem? (l := tables_1_1) (i := 144) (by decide +kernel))) rfl
theorem w264 : Cond.fieldLink "BellPlate$Lists" 52 "BellPlate$Lists" "allowed" "I" ∈ lw_ok := okm (tk_1 (List.mem_of_getElem? (l := tables_1_1) (i := 145) (by decide +kernel))) rfl
theorem w292 : Cond.classLink "BellPlate" 32 "BellPlate$Book" ∈ lw_ok := okm (tk_1 (List.mem_of_getElem? (l := tables_1_1) (i := 173) (by decide +kernel))) rfl
theorem w293 : Cond.instantiable "BellPlate$Book" 11 ∈ lw_ok := okm (tk_1 (List.mem_of_getElem? (l := tables_1_1) (i := 174) (by decide +kernel))) rfl
theorem w294 : Cond.methodLink "BellPlate" 34 ⟨"BellPlate$Book", "<init>", "()V"⟩ ∈ lw_ok := okm (tk_1 (List.mem_of_getElem? (l := tables_1_1) (i := 175) (by decide +kernel))) rfl
theorem w295 : Cond.instanceMethod ⟨"BellPlate$Book", "<init>", "()V"⟩ ∈ lw_ok := okm (tk_1 (List.mem_of_getElem? (l := tables_1_1) (i := 176) (by decide +kernel))) rfl
theorem w296 : Cond.code ⟨"BellPlate$Book", "<init>", "()V"⟩ prog_2_method_1_code 1 (none) ∈ lw_ok := okm (tk_1 (List.mem_of_getElem? (l := tables_1_1) (i := 177) (by decide +kernel))) rfl
theorem w297 : Cond.methodLink "BellPlate$Book" 3 ⟨"java/lang/Object", "<init>", "()V"⟩ ∈ lw_ok := okm (tk_1 (List.mem_of_getElem? (l := tables_1_1) (i := 178) (by decide +kernel))) rfl
theorem w298 : Cond.fieldLink "BellPlate$Book" 11 "BellPlate$Book" "sets" "[I" ∈ lw_ok := okm (tk_1 (List.mem_of_getElem? (l := tables_1_1) (i := 179) (by decide +kernel))) rfl
theorem w299 : Cond.fieldLink "BellPlate$Book" 15 "BellPlate$Book" "rangs" "[Z" ∈ lw_ok := okm (tk_1 (List.mem_of_getElem? (l := tables_1_1) (i := 180) (by decide +kernel))) rfl
theorem w300 : Cond.fieldLink "BellPlate$Book" 19 "BellPlate$Book" "hintSizes" "[I" ∈ lw_ok := okm (tk_1 (List.mem_of_getElem? (l := tables_1_1) (i := 181) (by decide +kernel))) rfl
theorem w301 : Cond.fieldLink "BellPlate$Book" 22 "BellPlate$Book" "hintSets" "[I" ∈ lw_ok := okm (tk_1 (List.mem_of_getElem? (l := tables_1_1) (i := 182) (by decide +kernel))) rfl
theorem w302 : Cond.fieldLink "BellPlate$Book" 25 "BellPlate$Book" "markTrials" "[I" ∈ lw_ok := okm (tk_1 (List.mem_of_getElem? (l := tables_1_1) (i := 183) (by decide +kernel))) rfl
theorem w303 : Cond.fieldLink "BellPlate$Book" 28 "BellPlate$Book" "markHints" "[I" ∈ lw_ok := okm (tk_1 (List.mem_of_getElem? (l := tables_1_1) (i := 184) (by decide +kernel))) rfl
theorem w304 : Cond.fieldLink "BellPlate$Book" 31 "BellPlate$Book" "markTimes" "[I" ∈ lw_ok := okm (tk_1 (List.mem_of_getElem? (l := tables_1_1) (i := 185) (by decide +kernel))) rfl
theorem w305 : Cond.fieldLink "BellPlate$Book" 34 "BellPlate$Book" "trials" "I" ∈ lw_ok := okm (tk_1 (List.mem_of_getElem? (l := tables_1_1) (i := 186) (by decide +kernel))) rfl
theorem w306 : Cond.fieldLink "BellPlate$Book" 38 "BellPlate$Book" "hints" "I" ∈ lw_ok := okm (tk_1 (List.mem_of_getElem? (l := tables_1_1) (i := 187) (by decide +kernel))) rfl
theorem w307 : Cond.fieldLink "BellPlate$Book" 54 "BellPlate$Book" "time" "I" ∈ lw_ok := okm (tk_1 (List.mem_of_getElem? (l := tables_1_1) (i := 188) (by decide +kernel))) rfl
theorem w308 : Cond.fieldLink "BellPlate$Book" 41 "BellPlate$Book" "age" "I" ∈ lw_ok := okm (tk_1 (List.mem_of_getElem? (l := tables_1_1) (i := 189) (by decide +kernel))) rfl
theorem w332 : Cond.arrayClass FieldType.boolean ∈ lw_ok := okm (tk_1 (List.mem_of_getElem? (l := tables_1_1) (i := 213) (by decide +kernel))) rfl
theorem w333 : Cond.classLink "BellPlate" 39 "BellPlate$Rest" ∈ lw_ok := okm (tk_1 (List.mem_of_getElem? (l := tables_1_1) (i := 214) (by decide +kernel))) rfl
theorem w334 : Cond.instantiable "BellPlate$Rest" 10 ∈ lw_ok := okm (tk_1 (List.mem_of_getElem? (l := tables_1_1) (i := 215) (by decide +kernel))) rfl
theorem w335 : Cond.methodLink "BellPlate" 41 ⟨"BellPlate$Rest", "<init>", "(LBellPlate$Lists;LBellPlate$Book;)V"⟩ ∈ lw_ok := okm (tk_1 (List.mem_of_getElem? (l := tables_1_1) (i := 216) (by decide +kernel))) rfl
theorem w336 : Cond.instanceMethod ⟨"BellPlate$Rest", "<init>", "(LBellPlate$Lists;LBellPlate$Book;)V"⟩ ∈ lw_ok := okm (tk_1 (List.mem_of_getElem? (l := tables_1_1) (i := 217) (by decide +kernel))) rfl
theorem w337 : Cond.code ⟨"BellPlate$Rest", "<init>", "(LBellPlate$Lists;LBellPlate$Book;)V"⟩ prog_10_method_1_code 3 (none) ∈ lw_ok := okm (tk_1 (List.mem_of_getElem? (l := tables_1_1) (i := 218) (by decide +kernel))) rfl
theorem w338 : Cond.methodLink "BellPlate$Rest" 3 ⟨"java/lang/Object", "<init>", "()V"⟩ ∈ lw_ok := okm (tk_1 (List.mem_of_getElem? (l := tables_1_1) (i := 219) (by decide +kernel))) rfl
theorem w339 : Cond.fieldLink "BellPlate$Rest" 9 "BellPlate$Rest" "lists" "LBellPlate$Lists;" ∈ lw_ok := okm (tk_1 (List.mem_of_getElem? (l := tables_1_1) (i := 220) (by decide +kernel))) rfl
theorem w340 : Cond.fieldLink "BellPlate$Rest" 15 "BellPlate$Rest" "book" "LBellPlate$Book;" ∈ lw_ok := okm (tk_1 (List.mem_of_getElem? (l := tables_1_1) (i := 221) (by decide +kernel))) rfl
theorem w341 : Cond.fieldLink "BellPlate$Rest" 21 "BellPlate$Rest" "tally" "[I" ∈ lw_ok := okm (tk_1 (List.mem_of_getElem? (l := tables_1_1) (i := 222) (by decide +kernel))) rfl
theorem w342 : Cond.fieldLink "BellPlate$Rest" 25 "BellPlate$Rest" "kept" "[Z" ∈ lw_ok := okm (tk_1 (List.mem_of_getElem? (l := tables_1_1) (i := 223) (by decide +kernel))) rfl
theorem w343 : Cond.fieldLink "BellPlate$Rest" 29 "BellPlate$Rest" "row" "[I" ∈ lw_ok := okm (tk_1 (List.mem_of_getElem? (l := tables_1_1) (i := 224) (by decide +kernel))) rfl
theorem w344 : Cond.fieldLink "BellPlate$Rest" 50 "BellPlate$Rest" "size" "I" ∈ lw_ok := okm (tk_1 (List.mem_of_getElem? (l := tables_1_1) (i := 225) (by decide +kernel))) rfl
theorem w345 : Cond.fieldLink "BellPlate$Rest" 53 "BellPlate$Rest" "weights" "I" ∈ lw_ok := okm (tk_1 (List.mem_of_getElem? (l := tables_1_1) (i := 226) (by decide +kernel))) rfl
theorem w346 : Cond.fieldLink "BellPlate$Rest" 56 "BellPlate$Rest" "some" "J" ∈ lw_ok := okm (tk_1 (List.mem_of_getElem? (l := tables_1_1) (i := 227) (by decide +kernel))) rfl
theorem w347 : Cond.fieldLink "BellPlate$Rest" 62 "BellPlate$Rest" "every" "J" ∈ lw_ok := okm (tk_1 (List.mem_of_getElem? (l := tables_1_1) (i := 228) (by decide +kernel))) rfl
theorem w348 : Cond.fieldLink "BellPlate$Rest" 32 "BellPlate$Rest" "age" "I" ∈ lw_ok := okm (tk_1 (List.mem_of_getElem? (l := tables_1_1) (i := 229) (by decide +kernel))) rfl
theorem w370 : Cond.classLink "BellPlate" 48 "BellPlate$Chooser" ∈ lw_ok := okm (tk_2 (List.mem_of_getElem? (l := tables_1_2) (i := 11) (by decide +kernel))) rfl
theorem w371 : Cond.instantiable "BellPlate$Chooser" 19 ∈ lw_ok := okm (tk_2 (List.mem_of_getElem? (l := tables_1_2) (i := 12) (by decide +kernel))) rfl
theorem w372 : Cond.methodLink "BellPlate" 50 ⟨"BellPlate$Chooser", "<init>", "(LBellPlate$Tower;LBellPlate$Lists;LBellPlate$Book;LBellPlate$Rest;)V"⟩ ∈ lw_ok := okm (tk_2 (List.mem_of_getElem? (l := tables_1_2) (i := 13) (by decide +kernel))) rfl
theorem w373 : Cond.instanceMethod ⟨"BellPlate$Chooser", "<init>", "(LBellPlate$Tower;LBellPlate$Lists;LBellPlate$Book;LBellPlate$Rest;)V"⟩ ∈ lw_ok := okm (tk_2 (List.mem_of_getElem? (l := tables_1_2) (i := 14) (by decide +kernel))) rfl
theorem w374 : Cond.code ⟨"BellPlate$Chooser", "<init>", "(LBellPlate$Tower;LBellPlate$Lists;LBellPlate$Book;LBellPlate$Rest;)V"⟩ prog_3_method_1_code 5 (none) ∈ lw_ok := okm (tk_2 (List.mem_of_getElem? (l := tables_1_2) (i := 15) (by decide +kernel))) rfl
theorem w375 : Cond.methodLink "BellPlate$Chooser" 3 ⟨"java/lang/Object", "<init>", "()V"⟩ ∈ lw_ok := okm (tk_2 (List.mem_of_getElem? (l := tables_1_2) (i := 16) (by decide +kernel))) rfl
theorem w376 : Cond.methodLink "BellPlate$Chooser" 52 ⟨"java/util/Arrays", "fill", "([II)V"⟩ ∈ lw_ok := okm (tk_2 (List.mem_of_getElem? (l := tables_1_2) (i := 17) (by decide +kernel))) rfl
theorem w377 : Cond.static ⟨"java/util/Arrays", "fill", "([II)V"⟩ ∈ lw_ok := okm (tk_2 (List.mem_of_getElem? (l := tables_1_2) (i := 18) (by decide +kernel))) rfl
theorem w378 : Cond.code ⟨"java/util/Arrays", "fill", "([II)V"⟩ prog_31_method_103_code 4 (none) ∈ lw_ok := okm (tk_2 (List.mem_of_getElem? (l := tables_1_2) (i := 19) (by decide +kernel))) rfl
theorem w379 : Cond.fieldLink "BellPlate$Chooser" 9 "BellPlate$Chooser" "tower" "LBellPlate$Tower;" ∈ lw_ok := okm (tk_2 (List.mem_of_getElem? (l := tables_1_2) (i := 20) (by decide +kernel))) rfl
theorem w380 : Cond.fieldLink "BellPlate$Chooser" 15 "BellPlate$Chooser" "lists" "LBellPlate$Lists;" ∈ lw_ok := okm (tk_2 (List.mem_of_getElem? (l := tables_1_2) (i := 21) (by decide +kernel))) rfl
theorem w381 : Cond.fieldLink "BellPlate$Chooser" 19 "BellPlate$Chooser" "book" "LBellPlate$Book;" ∈ lw_ok := okm (tk_2 (List.mem_of_getElem? (l := tables_1_2) (i := 22) (by decide +kernel))) rfl
theorem w382 : Cond.fieldLink "BellPlate$Chooser" 23 "BellPlate$Chooser" "rest" "LBellPlate$Rest;" ∈ lw_ok := okm (tk_2 (List.mem_of_getElem? (l := tables_1_2) (i := 23) (by decide +kernel))) rfl
theorem w383 : Cond.fieldLink "BellPlate$Chooser" 27 "BellPlate$Chooser" "planes" "[J" ∈ lw_ok := okm (tk_2 (List.mem_of_getElem? (l := tables_1_2) (i := 24) (by decide +kernel))) rfl
theorem w384 : Cond.fieldLink "BellPlate$Chooser" 87 "BellPlate$Chooser" "planesUsed" "I" ∈ lw_ok := okm (tk_2 (List.mem_of_getElem? (l := tables_1_2) (i := 25) (by decide +kernel))) rfl
theorem w385 : Cond.fieldLink "BellPlate$Chooser" 33 "BellPlate$Chooser" "froms" "[I" ∈ lw_ok := okm (tk_2 (List.mem_of_getElem? (l := tables_1_2) (i := 26) (by decide +kernel))) rfl
theorem w386 : Cond.fieldLink "BellPlate$Chooser" 37 "BellPlate$Chooser" "tos" "[I" ∈ lw_ok := okm (tk_2 (List.mem_of_getElem? (l := tables_1_2) (i := 27) (by decide +kernel))) rfl
theorem w387 : Cond.fieldLink "BellPlate$Chooser" 40 "BellPlate$Chooser" "depths" "[I" ∈ lw_ok := okm (tk_2 (List.mem_of_getElem? (l := tables_1_2) (i := 28) (by decide +kernel))) rfl
theorem w388 : Cond.fieldLink "BellPlate$Chooser" 43 "BellPlate$Chooser" "worsts" "[I" ∈ lw_ok := okm (tk_2 (List.mem_of_getElem? (l := tables_1_2) (i := 29) (by decide +kernel))) rfl
theorem w389 : Cond.fieldLink "BellPlate$Chooser" 46 "BellPlate$Chooser" "togethers" "[I" ∈ lw_ok := okm (tk_2 (List.mem_of_getElem? (l := tables_1_2) (i := 30) (by decide +kernel))) rfl
theorem w390 : Cond.fieldLink "BellPlate$Chooser" 49 "BellPlate$Chooser" "ages" "[I" ∈ lw_ok := okm (tk_2 (List.mem_of_getElem? (l := tables_1_2) (i := 31) (by decide +kernel))) rfl
theorem w391 : Cond.fieldLink "BellPlate$Chooser" 58 "BellPlate$Chooser" "runSets" "[I" ∈ lw_ok := okm (tk_2 (List.mem_of_getElem? (l := tables_1_2) (i := 32) (by decide +kernel))) rfl
theorem w392 : Cond.fieldLink "BellPlate$Chooser" 148 "BellPlate$Chooser" "hidden" "I" ∈ lw_ok := okm (tk_2 (List.mem_of_getElem? (l := tables_1_2) (i := 33) (by decide +kernel))) rfl
theorem w393 : Cond.fieldLink "BellPlate$Chooser" 151 "BellPlate$Chooser" "hiddenWay" "I" ∈ lw_ok := okm (tk_2 (List.mem_of_getElem? (l := tables_1_2) (i := 34) (by decide +kernel))) rfl
theorem w394 : Cond.fieldLink "BellPlate$Chooser" 61 "BellPlate$Chooser" "hiddenAge" "I" ∈ lw_ok := okm (tk_2 (List.mem_of_getElem? (l := tables_1_2) (i := 35) (by decide +kernel))) rfl
theorem w395 : Cond.fieldLink "BellPlate$Chooser" 154 "BellPlate$Chooser" "made" "I" ∈ lw_ok := okm (tk_2 (List.mem_of_getElem? (l := tables_1_2) (i := 36) (by decide +kernel))) rfl
theorem w396 : Cond.fieldLink "BellPlate$Chooser" 157 "BellPlate$Chooser" "rang" "I" ∈ lw_ok := okm (tk_2 (List.mem_of_getElem? (l := tables_1_2) (i := 37) (by decide +kernel))) rfl
theorem w397 : Cond.fieldLink "BellPlate$Chooser" 160 "BellPlate$Chooser" "paid" "I" ∈ lw_ok := okm (tk_2 (List.mem_of_getElem? (l := tables_1_2) (i := 38) (by decide +kernel))) rfl
theorem w437 : Cond.classLink "BellPlate" 57 "BellPlate$Planner" ∈ lw_ok := okm (tk_2 (List.mem_of_getElem? (l := tables_1_2) (i := 78) (by decide +kernel))) rfl
theorem w438 : Cond.instantiable "BellPlate$Planner" 10 ∈ lw_ok := okm (tk_2 (List.mem_of_getElem? (l := tables_1_2) (i := 79) (by decide +kernel))) rfl
theorem w439 : Cond.methodLink "BellPlate" 59 ⟨"BellPlate$Planner", "<init>", "(LBellPlate$Lists;LBellPlate$Rest;)V"⟩ ∈ lw_ok := okm (tk_2 (List.mem_of_getElem? (l := tables_1_2) (i := 80) (by decide +kernel))) rfl
theorem w440 : Cond.instanceMethod ⟨"BellPlate$Planner", "<init>", "(LBellPlate$Lists;LBellPlate$Rest;)V"⟩ ∈ lw_ok := okm (tk_2 (List.mem_of_getElem? (l := tables_1_2) (i := 81) (by decide +kernel))) rfl
theorem w441 : Cond.code ⟨"BellPlate$Planner", "<init>", "(LBellPlate$Lists;LBellPlate$Rest;)V"⟩ prog_7_method_1_code 3 (none) ∈ lw_ok := okm (tk_2 (List.mem_of_getElem? (l := tables_1_2) (i := 82) (by decide +kernel))) rfl
theorem w442 : Cond.methodLink "BellPlate$Planner" 3 ⟨"java/lang/Object", "<init>", "()V"⟩ ∈ lw_ok := okm (tk_2 (List.mem_of_getElem? (l := tables_1_2) (i := 83) (by decide +kernel))) rfl
theorem w443 : Cond.fieldLink "BellPlate$Planner" 9 "BellPlate$Planner" "lists" "LBellPlate$Lists;" ∈ lw_ok := okm (tk_2 (List.mem_of_getElem? (l := tables_1_2) (i := 84) (by decide +kernel))) rfl
theorem w444 : Cond.fieldLink "BellPlate$Planner" 15 "BellPlate$Planner" "rest" "LBellPlate$Rest;" ∈ lw_ok := okm (tk_2 (List.mem_of_getElem? (l := tables_1_2) (i := 85) (by decide +kernel))) rfl
theorem w445 : Cond.fieldLink "BellPlate$Planner" 19 "BellPlate$Planner" "answers" "[I" ∈ lw_ok := okm (tk_2 (List.mem_of_getElem? (l := tables_1_2) (i := 86) (by decide +kernel))) rfl
theorem w446 : Cond.fieldLink "BellPlate$Planner" 23 "BellPlate$Planner" "groups" "[I" ∈ lw_ok := okm (tk_2 (List.mem_of_getElem? (l := tables_1_2) (i := 87) (by decide +kernel))) rfl
theorem w447 : Cond.fieldLink "BellPlate$Planner" 28 "BellPlate$Planner" "splits" "[I" ∈ lw_ok := okm (tk_2 (List.mem_of_getElem? (l := tables_1_2) (i := 88) (by decide +kernel))) rfl
theorem w448 : Cond.fieldLink "BellPlate$Planner" 31 "BellPlate$Planner" "splitSets" "[I" ∈ lw_ok := okm (tk_2 (List.mem_of_getElem? (l := tables_1_2) (i := 89) (by decide +kernel))) rfl
theorem w449 : Cond.fieldLink "BellPlate$Planner" 34 "BellPlate$Planner" "depths" "[B" ∈ lw_ok := okm (tk_2 (List.mem_of_getElem? (l := tables_1_2) (i := 90) (by decide +kernel))) rfl
theorem w450 : Cond.fieldLink "BellPlate$Planner" 102 "BellPlate$Planner" "splitCount" "I" ∈ lw_ok := okm (tk_2 (List.mem_of_getElem? (l := tables_1_2) (i := 91) (by decide +kernel))) rfl
theorem w451 : Cond.fieldLink "BellPlate$Planner" 72 "BellPlate$Planner" "trials" "I" ∈ lw_ok := okm (tk_2 (List.mem_of_getElem? (l := tables_1_2) (i := 92) (by decide +kernel))) rfl
theorem w452 : Cond.fieldLink "BellPlate$Planner" 76 "BellPlate$Planner" "firstSet" "I" ∈ lw_ok := okm (tk_2 (List.mem_of_getElem? (l := tables_1_2) (i := 93) (by decide +kernel))) rfl
theorem w474 : Cond.arrayClass FieldType.byte ∈ lw_ok := okm (tk_2 (List.mem_of_getElem? (l := tables_1_2) (i := 115) (by decide +kernel))) rfl
theorem w475 : Cond.classLink "BellPlate" 66 "BellPlate$Fit" ∈ lw_ok := okm (tk_2 (List.mem_of_getElem? (l := tables_1_2) (i := 116) (by decide +kernel))) rfl
theorem w476 : Cond.instantiable "BellPlate$Fit" 16 ∈ lw_ok := okm (tk_2 (List.mem_of_getElem? (l := tables_1_2) (i := 117) (by decide +kernel))) rfl
theorem w477 : Cond.methodLink "BellPlate" 68 ⟨"BellPlate$Fit", "<init>", "(LBellPlate$Tower;LBellPlate$Book;)V"⟩ ∈ lw_ok := okm (tk_2 (List.mem_of_getElem? (l := tables_1_2) (i := 118) (by decide +kernel))) rfl
theorem w478 : Cond.instanceMethod ⟨"BellPlate$Fit", "<init>", "(LBellPlate$Tower;LBellPlate$Book;)V"⟩ ∈ lw_ok := okm (tk_2 (List.mem_of_getElem? (l := tables_1_2) (i := 119) (by decide +kernel))) rfl
theorem w479 : Cond.code ⟨"BellPlate$Fit", "<init>", "(LBellPlate$Tower;LBellPlate$Book;)V"⟩ prog_5_method_1_code 3 (none) ∈ lw_ok := okm (tk_2 (List.mem_of_getElem? (l := tables_1_2) (i := 120) (by decide +kernel))) rfl
theorem w480 : Cond.methodLink "BellPlate$Fit" 3 ⟨"java/lang/Object", "<init>", "()V"⟩ ∈ lw_ok := okm (tk_2 (List.mem_of_getElem? (l := tables_1_2) (i := 121) (by decide +kernel))) rfl
theorem w481 : Cond.fieldLink "BellPlate$Fit" 9 "BellPlate$Fit" "tower" "LBellPlate$Tower;" ∈ lw_ok := okm (tk_2 (List.mem_of_getElem? (l := tables_1_2) (i := 122) (by decide +kernel))) rfl
theorem w482 : Cond.fieldLink "BellPlate$Fit" 15 "BellPlate$Fit" "book" "LBellPlate$Book;" ∈ lw_ok := okm (tk_2 (List.mem_of_getElem? (l := tables_1_2) (i := 123) (by decide +kernel))) rfl
theorem w483 : Cond.fieldLink "BellPlate$Fit" 21 "BellPlate$Fit" "row" "[I" ∈ lw_ok := okm (tk_2 (List.mem_of_getElem? (l := tables_1_2) (i := 124) (by decide +kernel))) rfl
theorem w484 : Cond.fieldLink "BellPlate$Fit" 27 "BellPlate$Fit" "ringers" "[I" ∈ lw_ok := okm (tk_2 (List.mem_of_getElem? (l := tables_1_2) (i := 125) (by decide +kernel))) rfl
theorem w485 : Cond.fieldLink "BellPlate$Fit" 30 "BellPlate$Fit" "silents" "[I" ∈ lw_ok := okm (tk_2 (List.mem_of_getElem? (l := tables_1_2) (i := 126) (by decide +kernel))) rfl
theorem w486 : Cond.fieldLink "BellPlate$Fit" 53 "BellPlate$Fit" "ringerCount" "I" ∈ lw_ok := okm (tk_2 (List.mem_of_getElem? (l := tables_1_2) (i := 127) (by decide +kernel))) rfl
theorem w487 : Cond.fieldLink "BellPlate$Fit" 60 "BellPlate$Fit" "silentCount" "I" ∈ lw_ok := okm (tk_2 (List.mem_of_getElem? (l := tables_1_2) (i := 128) (by decide +kernel))) rfl
theorem w488 : Cond.fieldLink "BellPlate$Fit" 63 "BellPlate$Fit" "found" "Z" ∈ lw_ok := okm (tk_2 (List.mem_of_getElem? (l := tables_1_2) (i := 129) (by decide +kernel))) rfl
theorem w489 : Cond.fieldLink "BellPlate$Fit" 77 "BellPlate$Fit" "leastSum" "I" ∈ lw_ok := okm (tk_2 (List.mem_of_getElem? (l := tables_1_2) (i := 130) (by decide +kernel))) rfl
theorem w490 : Cond.fieldLink "BellPlate$Fit" 91 "BellPlate$Fit" "leastBar" "I" ∈ lw_ok := okm (tk_2 (List.mem_of_getElem? (l := tables_1_2) (i := 131) (by decide +kernel))) rfl
theorem w491 : Cond.fieldLink "BellPlate$Fit" 94 "BellPlate$Fit" "leastNumber" "I" ∈ lw_ok := okm (tk_2 (List.mem_of_getElem? (l := tables_1_2) (i := 132) (by decide +kernel))) rfl
theorem w492 : Cond.fieldLink "BellPlate$Fit" 33 "BellPlate$Fit" "holders" "[J" ∈ lw_ok := okm (tk_2 (List.mem_of_getElem? (l := tables_1_2) (i := 133) (by decide +kernel))) rfl
theorem w493 : Cond.fieldLink "BellPlate$Fit" 39 "BellPlate$Fit" "ringTrials" "[I" ∈ lw_ok := okm (tk_2 (List.mem_of_getElem? (l := tables_1_2) (i := 134) (by decide +kernel))) rfl
theorem w494 : Cond.fieldLink "BellPlate$Fit" 42 "BellPlate$Fit" "chosen" "[I" ∈ lw_ok := okm (tk_2 (List.mem_of_getElem? (l := tables_1_2) (i := 135) (by decide +kernel))) rfl
theorem w495 : Cond.fieldLink "BellPlate$Fit" 117 "BellPlate$Fit" "ringTrialCount" "I" ∈ lw_ok := okm (tk_2 (List.mem_of_getElem? (l := tables_1_2) (i := 136) (by decide +kernel))) rfl
theorem w496 : Cond.fieldLink "BellPlate$Fit" 110 "BellPlate$Fit" "pairs" "I" ∈ lw_ok := okm (tk_2 (List.mem_of_getElem? (l := tables_1_2) (i := 137) (by decide +kernel))) rfl
theorem w530 : Cond.classLink "BellPlate" 75 "BellPlate$Doubt" ∈ lw_ok := okm (tk_2 (List.mem_of_getElem? (l := tables_1_2) (i := 171) (by decide +kernel))) rfl
theorem w531 : Cond.instantiable "BellPlate$Doubt" 15 ∈ lw_ok := okm (tk_2 (List.mem_of_getElem? (l := tables_1_2) (i := 172) (by decide +kernel))) rfl
theorem w532 : Cond.methodLink "BellPlate" 77 ⟨"BellPlate$Doubt", "<init>", "(LBellPlate$Tower;LBellPlate$Lists;LBellPlate$Book;)V"⟩ ∈ lw_ok := okm (tk_2 (List.mem_of_getElem? (l := tables_1_2) (i := 173) (by decide +kernel))) rfl
theorem w533 : Cond.instanceMethod ⟨"BellPlate$Doubt", "<init>", "(LBellPlate$Tower;LBellPlate$Lists;LBellPlate$Book;)V"⟩ ∈ lw_ok := okm (tk_2 (List.mem_of_getElem? (l := tables_1_2) (i := 174) (by decide +kernel))) rfl
theorem w534 : Cond.code ⟨"BellPlate$Doubt", "<init>", "(LBellPlate$Tower;LBellPlate$Lists;LBellPlate$Book;)V"⟩ prog_4_method_1_code 4 (none) ∈ lw_ok := okm (tk_2 (List.mem_of_getElem? (l := tables_1_2) (i := 175) (by decide +kernel))) rfl
theorem w535 : Cond.methodLink "BellPlate$Doubt" 3 ⟨"java/lang/Object", "<init>", "()V"⟩ ∈ lw_ok := okm (tk_2 (List.mem_of_getElem? (l := tables_1_2) (i := 176) (by decide +kernel))) rfl
theorem w536 : Cond.fieldLink "BellPlate$Doubt" 9 "BellPlate$Doubt" "tower" "LBellPlate$Tower;" ∈ lw_ok := okm (tk_2 (List.mem_of_getElem? (l := tables_1_2) (i := 177) (by decide +kernel))) rfl
theorem w537 : Cond.fieldLink "BellPlate$Doubt" 15 "BellPlate$Doubt" "lists" "LBellPlate$Lists;" ∈ lw_ok := okm (tk_2 (List.mem_of_getElem? (l := tables_1_2) (i := 178) (by decide +kernel))) rfl
theorem w538 : Cond.fieldLink "BellPlate$Doubt" 19 "BellPlate$Doubt" "book" "LBellPlate$Book;" ∈ lw_ok := okm (tk_2 (List.mem_of_getElem? (l := tables_1_2) (i := 179) (by decide +kernel))) rfl
theorem w539 : Cond.fieldLink "BellPlate$Doubt" 23 "BellPlate$Doubt" "rang" "[J" ∈ lw_ok := okm (tk_2 (List.mem_of_getElem? (l := tables_1_2) (i := 180) (by decide +kernel))) rfl
theorem w540 : Cond.fieldLink "BellPlate$Doubt" 27 "BellPlate$Doubt" "silent" "[J" ∈ lw_ok := okm (tk_2 (List.mem_of_getElem? (l := tables_1_2) (i := 181) (by decide +kernel))) rfl
theorem w541 : Cond.fieldLink "BellPlate$Doubt" 32 "BellPlate$Doubt" "weightsByWrongs" "[I" ∈ lw_ok := okm (tk_2 (List.mem_of_getElem? (l := tables_1_2) (i := 182) (by decide +kernel))) rfl
theorem w542 : Cond.fieldLink "BellPlate$Doubt" 38 "BellPlate$Doubt" "row" "[I" ∈ lw_ok := okm (tk_2 (List.mem_of_getElem? (l := tables_1_2) (i := 183) (by decide +kernel))) rfl
theorem w543 : Cond.fieldLink "BellPlate$Doubt" 77 "BellPlate$Doubt" "fewestWrong" "I" ∈ lw_ok := okm (tk_2 (List.mem_of_getElem? (l := tables_1_2) (i := 184) (by decide +kernel))) rfl
theorem w544 : Cond.fieldLink "BellPlate$Doubt" 80 "BellPlate$Doubt" "some" "J" ∈ lw_ok := okm (tk_2 (List.mem_of_getElem? (l := tables_1_2) (i := 185) (by decide +kernel))) rfl
theorem w545 : Cond.fieldLink "BellPlate$Doubt" 86 "BellPlate$Doubt" "every" "J" ∈ lw_ok := okm (tk_2 (List.mem_of_getElem? (l := tables_1_2) (i := 186) (by decide +kernel))) rfl
theorem w546 : Cond.fieldLink "BellPlate$Doubt" 41 "BellPlate$Doubt" "age" "I" ∈ lw_ok := okm (tk_2 (List.mem_of_getElem? (l := tables_1_2) (i := 187) (by decide +kernel))) rfl
theorem w547 : Cond.fieldLink "BellPlate$Doubt" 45 "BellPlate$Doubt" "growthAge" "I" ∈ lw_ok := okm (tk_2 (List.mem_of_getElem? (l := tables_1_2) (i := 188) (by decide +kernel))) rfl
theorem w548 : Cond.fieldLink "BellPlate$Doubt" 115 "BellPlate$Doubt" "growthBy" "I" ∈ lw_ok := okm (tk_2 (List.mem_of_getElem? (l := tables_1_2) (i := 189) (by decide +kernel))) rfl
theorem w549 : Cond.fieldLink "BellPlate$Doubt" 127 "BellPlate$Doubt" "growthFrom" "I" ∈ lw_ok := okm (tk_2 (List.mem_of_getElem? (l := tables_1_2) (i := 190) (by decide +kernel))) rfl
theorem w550 : Cond.fieldLink "BellPlate$Doubt" 161 "BellPlate$Doubt" "growthThing" "I" ∈ lw_ok := okm (tk_2 (List.mem_of_getElem? (l := tables_1_2) (i := 191) (by decide +kernel))) rfl
theorem w582 : Cond.classLink "BellPlate" 84 "BellPlate$Power" ∈ lw_ok := okm (tk_2 (List.mem_of_getElem? (l := tables_1_2) (i := 223) (by decide +kernel))) rfl
theorem w583 : Cond.instantiable "BellPlate$Power" 2 ∈ lw_ok := okm (tk_2 (List.mem_of_getElem? (l := tables_1_2) (i := 224) (by decide +kernel))) rfl
theorem w584 : Cond.methodLink "BellPlate" 86 ⟨"BellPlate$Power", "<init>", "(LBellPlate$Tower;LBellPlate$Lists;)V"⟩ ∈ lw_ok := okm (tk_2 (List.mem_of_getElem? (l := tables_1_2) (i := 225) (by decide +kernel))) rfl
theorem w585 : Cond.instanceMethod ⟨"BellPlate$Power", "<init>", "(LBellPlate$Tower;LBellPlate$Lists;)V"⟩ ∈ lw_ok := okm (tk_2 (List.mem_of_getElem? (l := tables_1_2) (i := 226) (by decide +kernel))) rfl
theorem w586 : Cond.code ⟨"BellPlate$Power", "<init>", "(LBellPlate$Tower;LBellPlate$Lists;)V"⟩ prog_8_method_1_code 3 (none) ∈ lw_ok := okm (tk_2 (List.mem_of_getElem? (l := tables_1_2) (i := 227) (by decide +kernel))) rfl
theorem w587 : Cond.methodLink "BellPlate$Power" 3 ⟨"java/lang/Object", "<init>", "()V"⟩ ∈ lw_ok := okm (tk_2 (List.mem_of_getElem? (l := tables_1_2) (i := 228) (by decide +kernel))) rfl
theorem w588 : Cond.fieldLink "BellPlate$Power" 9 "BellPlate$Power" "tower" "LBellPlate$Tower;" ∈ lw_ok := okm (tk_2 (List.mem_of_getElem? (l := tables_1_2) (i := 229) (by decide +kernel))) rfl
theorem w589 : Cond.fieldLink "BellPlate$Power" 15 "BellPlate$Power" "lists" "LBellPlate$Lists;" ∈ lw_ok := okm (tk_2 (List.mem_of_getElem? (l := tables_1_2) (i := 230) (by decide +kernel))) rfl
theorem w595 : Cond.methodLink "BellPlate" 101 ⟨"BellPlate$Tower", "priceSets", "()V"⟩ ∈ lw_ok := okm (tk_2 (List.mem_of_getElem? (l := tables_1_2) (i := 236) (by decide +kernel))) rfl
theorem w596 : Cond.instanceMethod ⟨"BellPlate$Tower", "priceSets", "()V"⟩ ∈ lw_ok := okm (tk_2 (List.mem_of_getElem? (l := tables_1_2) (i := 237) (by decide +kernel))) rfl
theorem w597 : Cond.selects "BellPlate$Tower" ⟨"BellPlate$Tower", "priceSets", "()V"⟩ ⟨"BellPlate$Tower", "priceSets", "()V"⟩ ∈ lw_ok := okm (tk_2 (List.mem_of_getElem? (l := tables_1_2) (i := 238) (by decide +kernel))) rfl
theorem w598 : Cond.code ⟨"BellPlate$Tower", "priceSets", "()V"⟩ prog_12_method_28_code 5 (none) ∈ lw_ok := okm (tk_2 (List.mem_of_getElem? (l := tables_1_2) (i := 239) (by decide +kernel))) rfl
theorem w599 : Cond.methodLink "BellPlate$Tower" 60 ⟨"BellPlate$Tower", "sets", "()I"⟩ ∈ lw_ok := okm (tk_3 (List.mem_of_getElem? (l := tables_1_3) (i := 0) (by decide +kernel))) rfl
theorem w600 : Cond.instanceMethod ⟨"BellPlate$Tower", "sets", "()I"⟩ ∈ lw_ok := okm (tk_3 (List.mem_of_getElem? (l := tables_1_3) (i := 1) (by decide +kernel))) rfl
theorem w601 : Cond.selects "BellPlate$Tower" ⟨"BellPlate$Tower", "sets", "()I"⟩ ⟨"BellPlate$Tower", "sets", "()I"⟩ ∈ lw_ok := okm (tk_3 (List.mem_of_getElem? (l := tables_1_3) (i := 2) (by decide +kernel))) rfl
theorem w602 : Cond.code ⟨"BellPlate$Tower", "sets", "()I"⟩ prog_12_method_18_code 1 (some FieldType.int) ∈ lw_ok := okm (tk_3 (List.mem_of_getElem? (l := tables_1_3) (i := 3) (by decide +kernel))) rfl
theorem w603 : Cond.methodLink "BellPlate$Tower" 81 ⟨"java/lang/Integer", "bitCount", "(I)I"⟩ ∈ lw_ok := okm (tk_3 (List.mem_of_getElem? (l := tables_1_3) (i := 4) (by decide +kernel))) rfl
theorem w604 : Cond.static ⟨"java/lang/Integer", "bitCount", "(I)I"⟩ ∈ lw_ok := okm (tk_3 (List.mem_of_getElem? (l := tables_1_3) (i := 5) (by decide +kernel))) rfl
theorem w605 : Cond.code ⟨"java/lang/Integer", "bitCount", "(I)I"⟩ prog_20_method_49_code 1 (some FieldType.int) ∈ lw_ok := okm (tk_3 (List.mem_of_getElem? (l := tables_1_3) (i := 6) (by decide +kernel))) rfl
theorem w606 : Cond.constant "java/lang/Integer" 265 1431655765 ∈ lw_ok := okm (tk_3 (List.mem_of_getElem? (l := tables_1_3) (i := 7) (by decide +kernel))) rfl
theorem w607 : Cond.constant "java/lang/Integer" 266 858993459 ∈ lw_ok := okm (tk_3 (List.mem_of_getElem? (l := tables_1_3) (i := 8) (by decide +kernel))) rfl
theorem w608 : Cond.constant "java/lang/Integer" 267 252645135 ∈ lw_ok := okm (tk_3 (List.mem_of_getElem? (l := tables_1_3) (i := 9) (by decide +kernel))) rfl
theorem w609 : Cond.methodLink "BellPlate$Tower" 77 ⟨"BellPlate$Tower", "value", "(I[II)I"⟩ ∈ lw_ok := okm (tk_3 (List.mem_of_getElem? (l := tables_1_3) (i := 10) (by decide +kernel))) rfl
theorem w611 : Cond.instanceMethod ⟨"BellPlate$Tower", "value", "(I[II)I"⟩ ∈ lw_ok := okm (tk_3 (List.mem_of_getElem? (l := tables_1_3) (i := 12) (by decide +kernel))) rfl
theorem w612 : Cond.code ⟨"BellPlate$Tower", "value", "(I[II)I"⟩ prog_12_method_29_code 7 (some FieldType.int) ∈ lw_ok := okm (tk_3 (List.mem_of_getElem? (l := tables_1_3) (i := 13) (by decide +kernel))) rfl
theorem w613 : Cond.methodLink "BellPlate$Tower" 87 ⟨"BellPlate$Tower", "operand", "(I[II)I"⟩ ∈ lw_ok := okm (tk_3 (List.mem_of_getElem? (l := tables_1_3) (i := 14) (by decide +kernel))) rfl
theorem w614 : Cond.static ⟨"BellPlate$Tower", "operand", "(I[II)I"⟩ ∈ lw_ok := okm (tk_3 (List.mem_of_getElem? (l := tables_1_3) (i := 15) (by decide +kernel))) rfl
theorem w615 : Cond.code ⟨"BellPlate$Tower", "operand", "(I[II)I"⟩ prog_12_method_30_code 4 (some FieldType.int) ∈ lw_ok := okm (tk_3 (List.mem_of_getElem? (l := tables_1_3) (i := 16) (by decide +kernel))) rfl
theorem w616 : Cond.methodLink "BellPlate$Tower" 90 ⟨"BellPlate$Tower", "truth", "(Z)I"⟩ ∈ lw_ok := okm (tk_3 (List.mem_of_getElem? (l := tables_1_3) (i := 17) (by decide +kernel))) rfl
theorem w617 : Cond.static ⟨"BellPlate$Tower", "truth", "(Z)I"⟩ ∈ lw_ok := okm (tk_3 (List.mem_of_getElem? (l := tables_1_3) (i := 18) (by decide +kernel))) rfl
theorem w618 : Cond.code ⟨"BellPlate$Tower", "truth", "(Z)I"⟩ prog_12_method_32_code 1 (some FieldType.int) ∈ lw_ok := okm (tk_3 (List.mem_of_getElem? (l := tables_1_3) (i := 19) (by decide +kernel))) rfl
theorem w619 : Cond.methodLink "BellPlate$Tower" 94 ⟨"BellPlate$Tower", "joined", "(III)I"⟩ ∈ lw_ok := okm (tk_3 (List.mem_of_getElem? (l := tables_1_3) (i := 20) (by decide +kernel))) rfl
theorem w620 : Cond.static ⟨"BellPlate$Tower", "joined", "(III)I"⟩ ∈ lw_ok := okm (tk_3 (List.mem_of_getElem? (l := tables_1_3) (i := 21) (by decide +kernel))) rfl
theorem w621 : Cond.code ⟨"BellPlate$Tower", "joined", "(III)I"⟩ prog_12_method_31_code 3 (some FieldType.int) ∈ lw_ok := okm (tk_3 (List.mem_of_getElem? (l := tables_1_3) (i := 22) (by decide +kernel))) rfl
theorem w622 : Cond.methodLink "BellPlate$Tower" 71 ⟨"java/lang/Math", "max", "(II)I"⟩ ∈ lw_ok := okm (tk_3 (List.mem_of_getElem? (l := tables_1_3) (i := 23) (by decide +kernel))) rfl
theorem w623 : Cond.static ⟨"java/lang/Math", "max", "(II)I"⟩ ∈ lw_ok := okm (tk_3 (List.mem_of_getElem? (l := tables_1_3) (i := 24) (by decide +kernel))) rfl
theorem w624 : Cond.code ⟨"java/lang/Math", "max", "(II)I"⟩ prog_22_method_65_code 2 (some FieldType.int) ∈ lw_ok := okm (tk_3 (List.mem_of_getElem? (l := tables_1_3) (i := 25) (by decide +kernel))) rfl
theorem w625 : Cond.methodLink "BellPlate" 104 ⟨"BellPlate$Lists", "build", "()V"⟩ ∈ lw_ok := okm (tk_3 (List.mem_of_getElem? (l := tables_1_3) (i := 26) (by decide +kernel))) rfl
theorem w626 : Cond.instanceMethod ⟨"BellPlate$Lists", "build", "()V"⟩ ∈ lw_ok := okm (tk_3 (List.mem_of_getElem? (l := tables_1_3) (i := 27) (by decide +kernel))) rfl
theorem w627 : Cond.selects "BellPlate$Lists" ⟨"BellPlate$Lists", "build", "()V"⟩ ⟨"BellPlate$Lists", "build", "()V"⟩ ∈ lw_ok := okm (tk_3 (List.mem_of_getElem? (l := tables_1_3) (i := 28) (by decide +kernel))) rfl
theorem w628 : Cond.code ⟨"BellPlate$Lists", "build", "()V"⟩ prog_6_method_13_code 7 (none) ∈ lw_ok := okm (tk_3 (List.mem_of_getElem? (l := tables_1_3) (i := 29) (by decide +kernel))) rfl
theorem w629 : Cond.methodLink "BellPlate$Lists" 83 ⟨"BellPlate$Tower", "all", "()I"⟩ ∈ lw_ok := okm (tk_3 (List.mem_of_getElem? (l := tables_1_3) (i := 30) (by decide +kernel))) rfl
theorem w630 : Cond.instanceMethod ⟨"BellPlate$Tower", "all", "()I"⟩ ∈ lw_ok := okm (tk_3 (List.mem_of_getElem? (l := tables_1_3) (i := 31) (by decide +kernel))) rfl
theorem w631 : Cond.selects "BellPlate$Tower" ⟨"BellPlate$Tower", "all", "()I"⟩ ⟨"BellPlate$Tower", "all", "()I"⟩ ∈ lw_ok := okm (tk_3 (List.mem_of_getElem? (l := tables_1_3) (i := 32) (by decide +kernel))) rfl
theorem w632 : Cond.code ⟨"BellPlate$Tower", "all", "()I"⟩ prog_12_method_17_code 3 (some FieldType.int) ∈ lw_ok := okm (tk_3 (List.mem_of_getElem? (l := tables_1_3) (i := 33) (by decide +kernel))) rfl
theorem w633 : Cond.methodLink "BellPlate$Lists" 86 ⟨"BellPlate$Lists", "makeRoom", "(I)V"⟩ ∈ lw_ok := okm (tk_3 (List.mem_of_getElem? (l := tables_1_3) (i := 34) (by decide +kernel))) rfl
theorem w635 : Cond.instanceMethod ⟨"BellPlate$Lists", "makeRoom", "(I)V"⟩ ∈ lw_ok := okm (tk_3 (List.mem_of_getElem? (l := tables_1_3) (i := 36) (by decide +kernel))) rfl
theorem w636 : Cond.code ⟨"BellPlate$Lists", "makeRoom", "(I)V"⟩ prog_6_method_14_code 3 (none) ∈ lw_ok := okm (tk_3 (List.mem_of_getElem? (l := tables_1_3) (i := 37) (by decide +kernel))) rfl
theorem w637 : Cond.methodLink "BellPlate$Lists" 117 ⟨"java/lang/Math", "max", "(II)I"⟩ ∈ lw_ok := okm (tk_3 (List.mem_of_getElem? (l := tables_1_3) (i := 38) (by decide +kernel))) rfl
theorem w638 : Cond.methodLink "BellPlate$Lists" 123 ⟨"java/lang/Math", "min", "(II)I"⟩ ∈ lw_ok := okm (tk_3 (List.mem_of_getElem? (l := tables_1_3) (i := 39) (by decide +kernel))) rfl
theorem w639 : Cond.static ⟨"java/lang/Math", "min", "(II)I"⟩ ∈ lw_ok := okm (tk_3 (List.mem_of_getElem? (l := tables_1_3) (i := 40) (by decide +kernel))) rfl
theorem w640 : Cond.code ⟨"java/lang/Math", "min", "(II)I"⟩ prog_22_method_69_code 2 (some FieldType.int) ∈ lw_ok := okm (tk_3 (List.mem_of_getElem? (l := tables_1_3) (i := 41) (by decide +kernel))) rfl
theorem w641 : Cond.methodLink "BellPlate$Lists" 92 ⟨"java/util/Arrays", "fill", "([II)V"⟩ ∈ lw_ok := okm (tk_3 (List.mem_of_getElem? (l := tables_1_3) (i := 42) (by decide +kernel))) rfl
theorem w642 : Cond.methodLink "BellPlate$Lists" 78 ⟨"BellPlate$Tower", "things", "()I"⟩ ∈ lw_ok := okm (tk_3 (List.mem_of_getElem? (l := tables_1_3) (i := 43) (by decide +kernel))) rfl
theorem w643 : Cond.instanceMethod ⟨"BellPlate$Tower", "things", "()I"⟩ ∈ lw_ok := okm (tk_3 (List.mem_of_getElem? (l := tables_1_3) (i := 44) (by decide +kernel))) rfl
theorem w644 : Cond.selects "BellPlate$Tower" ⟨"BellPlate$Tower", "things", "()I"⟩ ⟨"BellPlate$Tower", "things", "()I"⟩ ∈ lw_ok := okm (tk_3 (List.mem_of_getElem? (l := tables_1_3) (i := 45) (by decide +kernel))) rfl
theorem w645 : Cond.code ⟨"BellPlate$Tower", "things", "()I"⟩ prog_12_method_4_code 1 (some FieldType.int) ∈ lw_ok := okm (tk_3 (List.mem_of_getElem? (l := tables_1_3) (i := 46) (by decide +kernel))) rfl
theorem w646 : Cond.methodLink "BellPlate$Lists" 89 ⟨"BellPlate$Lists", "makeLowBlocks", "(I)I"⟩ ∈ lw_ok := okm (tk_3 (List.mem_of_getElem? (l := tables_1_3) (i := 47) (by decide +kernel))) rfl
theorem w648 : Cond.instanceMethod ⟨"BellPlate$Lists", "makeLowBlocks", "(I)I"⟩ ∈ lw_ok := okm (tk_3 (List.mem_of_getElem? (l := tables_1_3) (i := 49) (by decide +kernel))) rfl
theorem w649 : Cond.code ⟨"BellPlate$Lists", "makeLowBlocks", "(I)I"⟩ prog_6_method_15_code 8 (some FieldType.int) ∈ lw_ok := okm (tk_3 (List.mem_of_getElem? (l := tables_1_3) (i := 50) (by decide +kernel))) rfl
theorem w650 : Cond.methodLink "BellPlate$Lists" 129 ⟨"BellPlate$Tower", "most", "()I"⟩ ∈ lw_ok := okm (tk_3 (List.mem_of_getElem? (l := tables_1_3) (i := 51) (by decide +kernel))) rfl
theorem w651 : Cond.instanceMethod ⟨"BellPlate$Tower", "most", "()I"⟩ ∈ lw_ok := okm (tk_3 (List.mem_of_getElem? (l := tables_1_3) (i := 52) (by decide +kernel))) rfl
theorem w652 : Cond.selects "BellPlate$Tower" ⟨"BellPlate$Tower", "most", "()I"⟩ ⟨"BellPlate$Tower", "most", "()I"⟩ ∈ lw_ok := okm (tk_3 (List.mem_of_getElem? (l := tables_1_3) (i := 53) (by decide +kernel))) rfl
theorem w653 : Cond.code ⟨"BellPlate$Tower", "most", "()I"⟩ prog_12_method_5_code 1 (some FieldType.int) ∈ lw_ok := okm (tk_3 (List.mem_of_getElem? (l := tables_1_3) (i := 54) (by decide +kernel))) rfl
theorem w654 : Cond.methodLink "BellPlate$Lists" 71 ⟨"BellPlate$Tower", "bar", "()I"⟩ ∈ lw_ok := okm (tk_3 (List.mem_of_getElem? (l := tables_1_3) (i := 55) (by decide +kernel))) rfl
theorem w655 : Cond.instanceMethod ⟨"BellPlate$Tower", "bar", "()I"⟩ ∈ lw_ok := okm (tk_3 (List.mem_of_getElem? (l := tables_1_3) (i := 56) (by decide +kernel))) rfl
theorem w656 : Cond.selects "BellPlate$Tower" ⟨"BellPlate$Tower", "bar", "()I"⟩ ⟨"BellPlate$Tower", "bar", "()I"⟩ ∈ lw_ok := okm (tk_3 (List.mem_of_getElem? (l := tables_1_3) (i := 57) (by decide +kernel))) rfl
theorem w657 : Cond.code ⟨"BellPlate$Tower", "bar", "()I"⟩ prog_12_method_6_code 1 (some FieldType.int) ∈ lw_ok := okm (tk_3 (List.mem_of_getElem? (l := tables_1_3) (i := 58) (by decide +kernel))) rfl
theorem w658 : Cond.methodLink "BellPlate$Lists" 63 ⟨"BellPlate$Lists", "weigh", "(I)V"⟩ ∈ lw_ok := okm (tk_3 (List.mem_of_getElem? (l := tables_1_3) (i := 59) (by decide +kernel))) rfl
theorem w659 : Cond.instanceMethod ⟨"BellPlate$Lists", "weigh", "(I)V"⟩ ∈ lw_ok := okm (tk_3 (List.mem_of_getElem? (l := tables_1_3) (i := 60) (by decide +kernel))) rfl
theorem w660 : Cond.selects "BellPlate$Lists" ⟨"BellPlate$Lists", "weigh", "(I)V"⟩ ⟨"BellPlate$Lists", "weigh", "(I)V"⟩ ∈ lw_ok := okm (tk_3 (List.mem_of_getElem? (l := tables_1_3) (i := 61) (by decide +kernel))) rfl
theorem w661 : Cond.code ⟨"BellPlate$Lists", "weigh", "(I)V"⟩ prog_6_method_10_code 5 (none) ∈ lw_ok := okm (tk_3 (List.mem_of_getElem? (l := tables_1_3) (i := 62) (by decide +kernel))) rfl
theorem w662 : Cond.methodLink "BellPlate$Lists" 74 ⟨"BellPlate$Tower", "spread", "(I[I)V"⟩ ∈ lw_ok := okm (tk_3 (List.mem_of_getElem? (l := tables_1_3) (i := 63) (by decide +kernel))) rfl
theorem w663 : Cond.instanceMethod ⟨"BellPlate$Tower", "spread", "(I[I)V"⟩ ∈ lw_ok := okm (tk_3 (List.mem_of_getElem? (l := tables_1_3) (i := 64) (by decide +kernel))) rfl
theorem w664 : Cond.selects "BellPlate$Tower" ⟨"BellPlate$Tower", "spread", "(I[I)V"⟩ ⟨"BellPlate$Tower", "spread", "(I[I)V"⟩ ∈ lw_ok := okm (tk_3 (List.mem_of_getElem? (l := tables_1_3) (i := 65) (by decide +kernel))) rfl
theorem w665 : Cond.code ⟨"BellPlate$Tower", "spread", "(I[I)V"⟩ prog_12_method_24_code 6 (none) ∈ lw_ok := okm (tk_3 (List.mem_of_getElem? (l := tables_1_3) (i := 66) (by decide +kernel))) rfl
theorem w666 : Cond.methodLink "BellPlate$Lists" 98 ⟨"BellPlate$Lists", "weighHigh", "(I)V"⟩ ∈ lw_ok := okm (tk_3 (List.mem_of_getElem? (l := tables_1_3) (i := 67) (by decide +kernel))) rfl
theorem w668 : Cond.instanceMethod ⟨"BellPlate$Lists", "weighHigh", "(I)V"⟩ ∈ lw_ok := okm (tk_3 (List.mem_of_getElem? (l := tables_1_3) (i := 69) (by decide +kernel))) rfl
theorem w669 : Cond.code ⟨"BellPlate$Lists", "weighHigh", "(I)V"⟩ prog_6_method_16_code 3 (none) ∈ lw_ok := okm (tk_3 (List.mem_of_getElem? (l := tables_1_3) (i := 70) (by decide +kernel))) rfl
theorem w670 : Cond.methodLink "BellPlate$Lists" 132 ⟨"BellPlate$Tower", "sumOf", "(I[I)I"⟩ ∈ lw_ok := okm (tk_3 (List.mem_of_getElem? (l := tables_1_3) (i := 71) (by decide +kernel))) rfl
theorem w671 : Cond.static ⟨"BellPlate$Tower", "sumOf", "(I[I)I"⟩ ∈ lw_ok := okm (tk_3 (List.mem_of_getElem? (l := tables_1_3) (i := 72) (by decide +kernel))) rfl
theorem w672 : Cond.code ⟨"BellPlate$Tower", "sumOf", "(I[I)I"⟩ prog_12_method_26_code 4 (some FieldType.int) ∈ lw_ok := okm (tk_3 (List.mem_of_getElem? (l := tables_1_3) (i := 73) (by decide +kernel))) rfl
theorem w673 : Cond.methodLink "BellPlate$Lists" 101 ⟨"BellPlate$Tower", "permits", "([II)Z"⟩ ∈ lw_ok := okm (tk_3 (List.mem_of_getElem? (l := tables_1_3) (i := 74) (by decide +kernel))) rfl
theorem w674 : Cond.instanceMethod ⟨"BellPlate$Tower", "permits", "([II)Z"⟩ ∈ lw_ok := okm (tk_3 (List.mem_of_getElem? (l := tables_1_3) (i := 75) (by decide +kernel))) rfl
theorem w675 : Cond.selects "BellPlate$Tower" ⟨"BellPlate$Tower", "permits", "([II)Z"⟩ ⟨"BellPlate$Tower", "permits", "([II)Z"⟩ ∈ lw_ok := okm (tk_3 (List.mem_of_getElem? (l := tables_1_3) (i := 76) (by decide +kernel))) rfl
theorem w676 : Cond.code ⟨"BellPlate$Tower", "permits", "([II)Z"⟩ prog_12_method_27_code 4 (some FieldType.boolean) ∈ lw_ok := okm (tk_3 (List.mem_of_getElem? (l := tables_1_3) (i := 77) (by decide +kernel))) rfl
theorem w677 : Cond.methodLink "BellPlate$Lists" 105 ⟨"BellPlate$Lists", "joinBlocks", "(II)J"⟩ ∈ lw_ok := okm (tk_3 (List.mem_of_getElem? (l := tables_1_3) (i := 78) (by decide +kernel))) rfl
theorem w679 : Cond.instanceMethod ⟨"BellPlate$Lists", "joinBlocks", "(II)J"⟩ ∈ lw_ok := okm (tk_3 (List.mem_of_getElem? (l := tables_1_3) (i := 80) (by decide +kernel))) rfl
theorem w680 : Cond.code ⟨"BellPlate$Lists", "joinBlocks", "(II)J"⟩ prog_6_method_17_code 9 (some FieldType.long) ∈ lw_ok := okm (tk_3 (List.mem_of_getElem? (l := tables_1_3) (i := 81) (by decide +kernel))) rfl
theorem w681 : Cond.methodLink "BellPlate$Lists" 109 ⟨"BellPlate$Lists", "enter", "(J)I"⟩ ∈ lw_ok := okm (tk_3 (List.mem_of_getElem? (l := tables_1_3) (i := 82) (by decide +kernel))) rfl
theorem w683 : Cond.instanceMethod ⟨"BellPlate$Lists", "enter", "(J)I"⟩ ∈ lw_ok := okm (tk_3 (List.mem_of_getElem? (l := tables_1_3) (i := 84) (by decide +kernel))) rfl
theorem w684 : Cond.code ⟨"BellPlate$Lists", "enter", "(J)I"⟩ prog_6_method_18_code 6 (some FieldType.int) ∈ lw_ok := okm (tk_3 (List.mem_of_getElem? (l := tables_1_3) (i := 85) (by decide +kernel))) rfl
theorem w685 : Cond.constantLong "BellPlate$Lists" 136 (-7046029254386353131) ∈ lw_ok := okm (tk_3 (List.mem_of_getElem? (l := tables_1_3) (i := 86) (by decide +kernel))) rfl
theorem w686 : Cond.methodLink "BellPlate$Lists" 113 ⟨"BellPlate$Tower", "step", "([I)I"⟩ ∈ lw_ok := okm (tk_3 (List.mem_of_getElem? (l := tables_1_3) (i := 87) (by decide +kernel))) rfl
theorem w687 : Cond.instanceMethod ⟨"BellPlate$Tower", "step", "([I)I"⟩ ∈ lw_ok := okm (tk_3 (List.mem_of_getElem? (l := tables_1_3) (i := 88) (by decide +kernel))) rfl
theorem w688 : Cond.selects "BellPlate$Tower" ⟨"BellPlate$Tower", "step", "([I)I"⟩ ⟨"BellPlate$Tower", "step", "([I)I"⟩ ∈ lw_ok := okm (tk_3 (List.mem_of_getElem? (l := tables_1_3) (i := 89) (by decide +kernel))) rfl
theorem w689 : Cond.code ⟨"BellPlate$Tower", "step", "([I)I"⟩ prog_12_method_25_code 4 (some FieldType.int) ∈ lw_ok := okm (tk_3 (List.mem_of_getElem? (l := tables_1_3) (i := 90) (by decide +kernel))) rfl
theorem w690 : Cond.fieldLink "BellPlate" 10 "BellPlate" "reader" "LBellPlate$Reader;" ∈ lw_ok := okm (tk_3 (List.mem_of_getElem? (l := tables_1_3) (i := 91) (by decide +kernel))) rfl
theorem w691 : Cond.fieldLink "BellPlate" 19 "BellPlate" "told" "LBellPlate$Tower;" ∈ lw_ok := okm (tk_3 (List.mem_of_getElem? (l := tables_1_3) (i := 92) (by decide +kernel))) rfl
theorem w692 : Cond.fieldLink "BellPlate" 28 "BellPlate" "lists" "LBellPlate$Lists;" ∈ lw_ok := okm (tk_3 (List.mem_of_getElem? (l := tables_1_3) (i := 93) (by decide +kernel))) rfl
theorem w693 : Cond.fieldLink "BellPlate" 35 "BellPlate" "book" "LBellPlate$Book;" ∈ lw_ok := okm (tk_3 (List.mem_of_getElem? (l := tables_1_3) (i := 94) (by decide +kernel))) rfl
theorem w694 : Cond.fieldLink "BellPlate" 44 "BellPlate" "rest" "LBellPlate$Rest;" ∈ lw_ok := okm (tk_3 (List.mem_of_getElem? (l := tables_1_3) (i := 95) (by decide +kernel))) rfl
theorem w695 : Cond.fieldLink "BellPlate" 53 "BellPlate" "chooser" "LBellPlate$Chooser;" ∈ lw_ok := okm (tk_3 (List.mem_of_getElem? (l := tables_1_3) (i := 96) (by decide +kernel))) rfl
theorem w696 : Cond.fieldLink "BellPlate" 62 "BellPlate" "planner" "LBellPlate$Planner;" ∈ lw_ok := okm (tk_3 (List.mem_of_getElem? (l := tables_1_3) (i := 97) (by decide +kernel))) rfl
theorem w697 : Cond.fieldLink "BellPlate" 71 "BellPlate" "fit" "LBellPlate$Fit;" ∈ lw_ok := okm (tk_3 (List.mem_of_getElem? (l := tables_1_3) (i := 98) (by decide +kernel))) rfl
theorem w698 : Cond.fieldLink "BellPlate" 80 "BellPlate" "doubt" "LBellPlate$Doubt;" ∈ lw_ok := okm (tk_3 (List.mem_of_getElem? (l := tables_1_3) (i := 99) (by decide +kernel))) rfl
theorem w699 : Cond.fieldLink "BellPlate" 89 "BellPlate" "power" "LBellPlate$Power;" ∈ lw_ok := okm (tk_3 (List.mem_of_getElem? (l := tables_1_3) (i := 100) (by decide +kernel))) rfl
theorem w700 : Cond.fieldLink "BellPlate" 93 "BellPlate" "plate" "[I" ∈ lw_ok := okm (tk_3 (List.mem_of_getElem? (l := tables_1_3) (i := 101) (by decide +kernel))) rfl
theorem w701 : Cond.fieldLink "BellPlate" 97 "BellPlate" "laid" "I" ∈ lw_ok := okm (tk_3 (List.mem_of_getElem? (l := tables_1_3) (i := 102) (by decide +kernel))) rfl
theorem w727 : Cond.methodLink "BellPlateLaw" 21 ⟨"BellPlate", "feed", "(JJJ)I"⟩ ∈ lw_ok := okm (tk_3 (List.mem_of_getElem? (l := tables_1_3) (i := 128) (by decide +kernel))) rfl
theorem w728 : Cond.instanceMethod ⟨"BellPlate", "feed", "(JJJ)I"⟩ ∈ lw_ok := okm (tk_3 (List.mem_of_getElem? (l := tables_1_3) (i := 129) (by decide +kernel))) rfl
theorem w729 : Cond.selects "BellPlate" ⟨"BellPlate", "feed", "(JJJ)I"⟩ ⟨"BellPlate", "feed", "(JJJ)I"⟩ ∈ lw_ok := okm (tk_3 (List.mem_of_getElem? (l := tables_1_3) (i := 130) (by decide +kernel))) rfl
theorem w730 : Cond.code ⟨"BellPlate", "feed", "(JJJ)I"⟩ prog_1_method_2_code 7 (some FieldType.int) ∈ lw_ok := okm (tk_3 (List.mem_of_getElem? (l := tables_1_3) (i := 131) (by decide +kernel))) rfl
theorem w731 : Cond.methodLink "BellPlate" 107 ⟨"BellPlate$Reader", "put", "(J)V"⟩ ∈ lw_ok := okm (tk_3 (List.mem_of_getElem? (l := tables_1_3) (i := 132) (by decide +kernel))) rfl
theorem w732 : Cond.instanceMethod ⟨"BellPlate$Reader", "put", "(J)V"⟩ ∈ lw_ok := okm (tk_3 (List.mem_of_getElem? (l := tables_1_3) (i := 133) (by decide +kernel))) rfl
theorem w733 : Cond.selects "BellPlate$Reader" ⟨"BellPlate$Reader", "put", "(J)V"⟩ ⟨"BellPlate$Reader", "put", "(J)V"⟩ ∈ lw_ok := okm (tk_3 (List.mem_of_getElem? (l := tables_1_3) (i := 134) (by decide +kernel))) rfl
theorem w734 : Cond.code ⟨"BellPlate$Reader", "put", "(J)V"⟩ prog_9_method_4_code 6 (none) ∈ lw_ok := okm (tk_3 (List.mem_of_getElem? (l := tables_1_3) (i := 135) (by decide +kernel))) rfl
theorem w735 : Cond.constantLong "BellPlate$Reader" 26 255 ∈ lw_ok := okm (tk_3 (List.mem_of_getElem? (l := tables_1_3) (i := 136) (by decide +kernel))) rfl
theorem w736 : Cond.methodLink "BellPlate" 111 ⟨"BellPlate$Reader", "size", "()I"⟩ ∈ lw_ok := okm (tk_3 (List.mem_of_getElem? (l := tables_1_3) (i := 137) (by decide +kernel))) rfl
theorem w737 : Cond.instanceMethod ⟨"BellPlate$Reader", "size", "()I"⟩ ∈ lw_ok := okm (tk_3 (List.mem_of_getElem? (l := tables_1_3) (i := 138) (by decide +kernel))) rfl
theorem w738 : Cond.selects "BellPlate$Reader" ⟨"BellPlate$Reader", "size", "()I"⟩ ⟨"BellPlate$Reader", "size", "()I"⟩ ∈ lw_ok := okm (tk_3 (List.mem_of_getElem? (l := tables_1_3) (i := 139) (by decide +kernel))) rfl
theorem w739 : Cond.code ⟨"BellPlate$Reader", "size", "()I"⟩ prog_9_method_2_code 1 (some FieldType.int) ∈ lw_ok := okm (tk_3 (List.mem_of_getElem? (l := tables_1_3) (i := 140) (by decide +kernel))) rfl
theorem w740 : Cond.methodLink "BellPlateLaw" 26 ⟨"BellPlate", "tower", "()I"⟩ ∈ lw_ok := okm (tk_3 (List.mem_of_getElem? (l := tables_1_3) (i := 141) (by decide +kernel))) rfl
theorem w741 : Cond.instanceMethod ⟨"BellPlate", "tower", "()I"⟩ ∈ lw_ok := okm (tk_3 (List.mem_of_getElem? (l := tables_1_3) (i := 142) (by decide +kernel))) rfl
theorem w742 : Cond.selects "BellPlate" ⟨"BellPlate", "tower", "()I"⟩ ⟨"BellPlate", "tower", "()I"⟩ ∈ lw_ok := okm (tk_3 (List.mem_of_getElem? (l := tables_1_3) (i := 143) (by decide +kernel))) rfl
theorem w743 : Cond.code ⟨"BellPlate", "tower", "()I"⟩ prog_1_method_3_code 2 (some FieldType.int) ∈ lw_ok := okm (tk_3 (List.mem_of_getElem? (l := tables_1_3) (i := 144) (by decide +kernel))) rfl
theorem w744 : Cond.methodLink "BellPlate" 115 ⟨"BellPlate$Reader", "read", "()I"⟩ ∈ lw_ok := okm (tk_3 (List.mem_of_getElem? (l := tables_1_3) (i := 145) (by decide +kernel))) rfl
theorem w745 : Cond.instanceMethod ⟨"BellPlate$Reader", "read", "()I"⟩ ∈ lw_ok := okm (tk_3 (List.mem_of_getElem? (l := tables_1_3) (i := 146) (by decide +kernel))) rfl
theorem w746 : Cond.selects "BellPlate$Reader" ⟨"BellPlate$Reader", "read", "()I"⟩ ⟨"BellPlate$Reader", "read", "()I"⟩ ∈ lw_ok := okm (tk_3 (List.mem_of_getElem? (l := tables_1_3) (i := 147) (by decide +kernel))) rfl
theorem w747 : Cond.code ⟨"BellPlate$Reader", "read", "()I"⟩ prog_9_method_5_code 2 (some FieldType.int) ∈ lw_ok := okm (tk_3 (List.mem_of_getElem? (l := tables_1_3) (i := 148) (by decide +kernel))) rfl
theorem w748 : Cond.methodLink "BellPlate$Reader" 44 ⟨"BellPlate$Tower", "wipe", "()V"⟩ ∈ lw_ok := okm (tk_3 (List.mem_of_getElem? (l := tables_1_3) (i := 149) (by decide +kernel))) rfl
theorem w749 : Cond.instanceMethod ⟨"BellPlate$Tower", "wipe", "()V"⟩ ∈ lw_ok := okm (tk_3 (List.mem_of_getElem? (l := tables_1_3) (i := 150) (by decide +kernel))) rfl
theorem w750 : Cond.selects "BellPlate$Tower" ⟨"BellPlate$Tower", "wipe", "()V"⟩ ⟨"BellPlate$Tower", "wipe", "()V"⟩ ∈ lw_ok := okm (tk_3 (List.mem_of_getElem? (l := tables_1_3) (i := 151) (by decide +kernel))) rfl
theorem w751 : Cond.code ⟨"BellPlate$Tower", "wipe", "()V"⟩ prog_12_method_2_code 1 (none) ∈ lw_ok := okm (tk_3 (List.mem_of_getElem? (l := tables_1_3) (i := 152) (by decide +kernel))) rfl
theorem w752 : Cond.methodLink "BellPlate$Reader" 47 ⟨"BellPlate$Reader", "advance", "()V"⟩ ∈ lw_ok := okm (tk_3 (List.mem_of_getElem? (l := tables_1_3) (i := 153) (by decide +kernel))) rfl
theorem w754 : Cond.instanceMethod ⟨"BellPlate$Reader", "advance", "()V"⟩ ∈ lw_ok := okm (tk_3 (List.mem_of_getElem? (l := tables_1_3) (i := 155) (by decide +kernel))) rfl
theorem w755 : Cond.code ⟨"BellPlate$Reader", "advance", "()V"⟩ prog_9_method_7_code 2 (none) ∈ lw_ok := okm (tk_3 (List.mem_of_getElem? (l := tables_1_3) (i := 156) (by decide +kernel))) rfl
theorem w756 : Cond.methodLink "BellPlate$Reader" 79 ⟨"BellPlate$Reader", "isBlank", "(C)Z"⟩ ∈ lw_ok := okm (tk_3 (List.mem_of_getElem? (l := tables_1_3) (i := 157) (by decide +kernel))) rfl
theorem w757 : Cond.static ⟨"BellPlate$Reader", "isBlank", "(C)Z"⟩ ∈ lw_ok := okm (tk_3 (List.mem_of_getElem? (l := tables_1_3) (i := 158) (by decide +kernel))) rfl
theorem w758 : Cond.code ⟨"BellPlate$Reader", "isBlank", "(C)Z"⟩ prog_9_method_10_code 1 (some FieldType.boolean) ∈ lw_ok := okm (tk_3 (List.mem_of_getElem? (l := tables_1_3) (i := 159) (by decide +kernel))) rfl
theorem w759 : Cond.methodLink "BellPlate$Reader" 83 ⟨"BellPlate$Reader", "isLetter", "(C)Z"⟩ ∈ lw_ok := okm (tk_3 (List.mem_of_getElem? (l := tables_1_3) (i := 160) (by decide +kernel))) rfl
theorem w760 : Cond.static ⟨"BellPlate$Reader", "isLetter", "(C)Z"⟩ ∈ lw_ok := okm (tk_3 (List.mem_of_getElem? (l := tables_1_3) (i := 161) (by decide +kernel))) rfl
theorem w761 : Cond.code ⟨"BellPlate$Reader", "isLetter", "(C)Z"⟩ prog_9_method_11_code 1 (some FieldType.boolean) ∈ lw_ok := okm (tk_3 (List.mem_of_getElem? (l := tables_1_3) (i := 162) (by decide +kernel))) rfl
theorem w762 : Cond.methodLink "BellPlate$Reader" 86 ⟨"BellPlate$Reader", "readWord", "()V"⟩ ∈ lw_ok := okm (tk_3 (List.mem_of_getElem? (l := tables_1_3) (i := 163) (by decide +kernel))) rfl
theorem w764 : Cond.instanceMethod ⟨"BellPlate$Reader", "readWord", "()V"⟩ ∈ lw_ok := okm (tk_3 (List.mem_of_getElem? (l := tables_1_3) (i := 165) (by decide +kernel))) rfl
theorem w765 : Cond.code ⟨"BellPlate$Reader", "readWord", "()V"⟩ prog_9_method_8_code 2 (none) ∈ lw_ok := okm (tk_3 (List.mem_of_getElem? (l := tables_1_3) (i := 166) (by decide +kernel))) rfl
theorem w766 : Cond.fieldLink "BellPlate$Reader" 107 "BellPlate$Reader" "WORDS" "[J" ∈ lw_ok := okm (tk_3 (List.mem_of_getElem? (l := tables_1_3) (i := 167) (by decide +kernel))) rfl
theorem w768 : Cond.methodLink "BellPlate$Reader" 89 ⟨"BellPlate$Reader", "isDigit", "(C)Z"⟩ ∈ lw_ok := okm (tk_3 (List.mem_of_getElem? (l := tables_1_3) (i := 169) (by decide +kernel))) rfl
theorem w769 : Cond.static ⟨"BellPlate$Reader", "isDigit", "(C)Z"⟩ ∈ lw_ok := okm (tk_3 (List.mem_of_getElem? (l := tables_1_3) (i := 170) (by decide +kernel))) rfl
theorem w770 : Cond.code ⟨"BellPlate$Reader", "isDigit", "(C)Z"⟩ prog_9_method_12_code 1 (some FieldType.boolean) ∈ lw_ok := okm (tk_3 (List.mem_of_getElem? (l := tables_1_3) (i := 171) (by decide +kernel))) rfl
theorem w771 : Cond.methodLink "BellPlate$Reader" 92 ⟨"BellPlate$Reader", "readNumber", "()V"⟩ ∈ lw_ok := okm (tk_3 (List.mem_of_getElem? (l := tables_1_3) (i := 172) (by decide +kernel))) rfl
theorem w773 : Cond.instanceMethod ⟨"BellPlate$Reader", "readNumber", "()V"⟩ ∈ lw_ok := okm (tk_3 (List.mem_of_getElem? (l := tables_1_3) (i := 174) (by decide +kernel))) rfl
theorem w774 : Cond.code ⟨"BellPlate$Reader", "readNumber", "()V"⟩ prog_9_method_9_code 2 (none) ∈ lw_ok := okm (tk_3 (List.mem_of_getElem? (l := tables_1_3) (i := 175) (by decide +kernel))) rfl
theorem w776 : Cond.methodLink "BellPlate$Reader" 97 ⟨"java/lang/String", "indexOf", "(I)I"⟩ ∈ lw_ok := okm (tk_3 (List.mem_of_getElem? (l := tables_1_3) (i := 177) (by decide +kernel))) rfl
theorem w777 : Cond.instanceMethod ⟨"java/lang/String", "indexOf", "(I)I"⟩ ∈ lw_ok := okm (tk_3 (List.mem_of_getElem? (l := tables_1_3) (i := 178) (by decide +kernel))) rfl
theorem w778 : Cond.selects "java/lang/String" ⟨"java/lang/String", "indexOf", "(I)I"⟩ ⟨"java/lang/String", "indexOf", "(I)I"⟩ ∈ lw_ok := okm (tk_3 (List.mem_of_getElem? (l := tables_1_3) (i := 179) (by decide +kernel))) rfl
theorem w779 : Cond.code ⟨"java/lang/String", "indexOf", "(I)I"⟩ prog_24_method_79_code 2 (some FieldType.int) ∈ lw_ok := okm (tk_3 (List.mem_of_getElem? (l := tables_1_3) (i := 180) (by decide +kernel))) rfl
theorem w780 : Cond.methodLink "java/lang/String" 633 ⟨"java/lang/String", "indexOf", "(II)I"⟩ ∈ lw_ok := okm (tk_3 (List.mem_of_getElem? (l := tables_1_3) (i := 181) (by decide +kernel))) rfl
theorem w781 : Cond.instanceMethod ⟨"java/lang/String", "indexOf", "(II)I"⟩ ∈ lw_ok := okm (tk_3 (List.mem_of_getElem? (l := tables_1_3) (i := 182) (by decide +kernel))) rfl
theorem w782 : Cond.selects "java/lang/String" ⟨"java/lang/String", "indexOf", "(II)I"⟩ ⟨"java/lang/String", "indexOf", "(II)I"⟩ ∈ lw_ok := okm (tk_3 (List.mem_of_getElem? (l := tables_1_3) (i := 183) (by decide +kernel))) rfl
theorem w783 : Cond.code ⟨"java/lang/String", "indexOf", "(II)I"⟩ prog_24_method_80_code 3 (some FieldType.int) ∈ lw_ok := okm (tk_3 (List.mem_of_getElem? (l := tables_1_3) (i := 184) (by decide +kernel))) rfl
theorem w784 : Cond.methodLink "java/lang/String" 492 ⟨"java/lang/String", "isLatin1", "()Z"⟩ ∈ lw_ok := okm (tk_3 (List.mem_of_getElem? (l := tables_1_3) (i := 185) (by decide +kernel))) rfl
theorem w785 : Cond.instanceMethod ⟨"java/lang/String", "isLatin1", "()Z"⟩ ∈ lw_ok := okm (tk_3 (List.mem_of_getElem? (l := tables_1_3) (i := 186) (by decide +kernel))) rfl
theorem w786 : Cond.selects "java/lang/String" ⟨"java/lang/String", "isLatin1", "()Z"⟩ ⟨"java/lang/String", "isLatin1", "()Z"⟩ ∈ lw_ok := okm (tk_3 (List.mem_of_getElem? (l := tables_1_3) (i := 187) (by decide +kernel))) rfl
theorem w787 : Cond.code ⟨"java/lang/String", "isLatin1", "()Z"⟩ prog_24_method_154_code 1 (some FieldType.boolean) ∈ lw_ok := okm (tk_3 (List.mem_of_getElem? (l := tables_1_3) (i := 188) (by decide +kernel))) rfl
theorem w788 : Cond.fieldLink "java/lang/String" 38 "java/lang/String" "COMPACT_STRINGS" "Z" ∈ lw_ok := okm (tk_3 (List.mem_of_getElem? (l := tables_1_3) (i := 189) (by decide +kernel))) rfl
theorem w790 : Cond.methodLink "java/lang/String" 505 ⟨"java/lang/String", "length", "()I"⟩ ∈ lw_ok := okm (tk_3 (List.mem_of_getElem? (l := tables_1_3) (i := 191) (by decide +kernel))) rfl
theorem w791 : Cond.instanceMethod ⟨"java/lang/String", "length", "()I"⟩ ∈ lw_ok := okm (tk_3 (List.mem_of_getElem? (l := tables_1_3) (i := 192) (by decide +kernel))) rfl
theorem w792 : Cond.selects "java/lang/String" ⟨"java/lang/String", "length", "()I"⟩ ⟨"java/lang/String", "length", "()I"⟩ ∈ lw_ok := okm (tk_3 (List.mem_of_getElem? (l := tables_1_3) (i := 193) (by decide +kernel))) rfl
theorem w793 : Cond.code ⟨"java/lang/String", "length", "()I"⟩ prog_24_method_54_code 1 (some FieldType.int) ∈ lw_ok := okm (tk_3 (List.mem_of_getElem? (l := tables_1_3) (i := 194) (by decide +kernel))) rfl
theorem w794 : Cond.methodLink "java/lang/String" 335 ⟨"java/lang/String", "coder", "()B"⟩ ∈ lw_ok := okm (tk_3 (List.mem_of_getElem? (l := tables_1_3) (i := 195) (by decide +kernel))) rfl
theorem w795 : Cond.instanceMethod ⟨"java/lang/String", "coder", "()B"⟩ ∈ lw_ok := okm (tk_3 (List.mem_of_getElem? (l := tables_1_3) (i := 196) (by decide +kernel))) rfl
theorem w796 : Cond.selects "java/lang/String" ⟨"java/lang/String", "coder", "()B"⟩ ⟨"java/lang/String", "coder", "()B"⟩ ∈ lw_ok := okm (tk_3 (List.mem_of_getElem? (l := tables_1_3) (i := 197) (by decide +kernel))) rfl
theorem w797 : Cond.code ⟨"java/lang/String", "coder", "()B"⟩ prog_24_method_152_code 1 (some FieldType.byte) ∈ lw_ok := okm (tk_3 (List.mem_of_getElem? (l := tables_1_3) (i := 198) (by decide +kernel))) rfl
theorem w798 : Cond.methodLink "java/lang/String" 637 ⟨"java/lang/StringLatin1", "indexOf", "([BIII)I"⟩ ∈ lw_ok := okm (tk_3 (List.mem_of_getElem? (l := tables_1_3) (i := 199) (by decide +kernel))) rfl
theorem w799 : Cond.static ⟨"java/lang/StringLatin1", "indexOf", "([BIII)I"⟩ ∈ lw_ok := okm (tk_3 (List.mem_of_getElem? (l := tables_1_3) (i := 200) (by decide +kernel))) rfl
theorem w800 : Cond.code ⟨"java/lang/StringLatin1", "indexOf", "([BIII)I"⟩ prog_25_method_22_code 4 (some FieldType.int) ∈ lw_ok := okm (tk_3 (List.mem_of_getElem? (l := tables_1_3) (i := 201) (by decide +kernel))) rfl
theorem w801 : Cond.methodLink "java/lang/StringLatin1" 88 ⟨"java/lang/StringLatin1", "canEncode", "(I)Z"⟩ ∈ lw_ok := okm (tk_3 (List.mem_of_getElem? (l := tables_1_3) (i := 202) (by decide +kernel))) rfl
theorem w802 : Cond.static ⟨"java/lang/StringLatin1", "canEncode", "(I)Z"⟩ ∈ lw_ok := okm (tk_3 (List.mem_of_getElem? (l := tables_1_3) (i := 203) (by decide +kernel))) rfl
theorem w803 : Cond.code ⟨"java/lang/StringLatin1", "canEncode", "(I)Z"⟩ prog_25_method_4_code 1 (some FieldType.boolean) ∈ lw_ok := okm (tk_3 (List.mem_of_getElem? (l := tables_1_3) (i := 204) (by decide +kernel))) rfl
theorem w804 : Cond.methodLink "java/lang/StringLatin1" 92 ⟨"java/lang/Math", "max", "(II)I"⟩ ∈ lw_ok := okm (tk_3 (List.mem_of_getElem? (l := tables_1_3) (i := 205) (by decide +kernel))) rfl
theorem w805 : Cond.methodLink "java/lang/StringLatin1" 38 ⟨"java/lang/Math", "min", "(II)I"⟩ ∈ lw_ok := okm (tk_3 (List.mem_of_getElem? (l := tables_1_3) (i := 206) (by decide +kernel))) rfl
theorem w806 : Cond.methodLink "java/lang/StringLatin1" 95 ⟨"java/lang/StringLatin1", "indexOfChar", "([BIII)I"⟩ ∈ lw_ok := okm (tk_3 (List.mem_of_getElem? (l := tables_1_3) (i := 207) (by decide +kernel))) rfl
theorem w807 : Cond.static ⟨"java/lang/StringLatin1", "indexOfChar", "([BIII)I"⟩ ∈ lw_ok := okm (tk_3 (List.mem_of_getElem? (l := tables_1_3) (i := 208) (by decide +kernel))) rfl
theorem w808 : Cond.code ⟨"java/lang/StringLatin1", "indexOfChar", "([BIII)I"⟩ prog_25_method_23_code 6 (some FieldType.int) ∈ lw_ok := okm (tk_3 (List.mem_of_getElem? (l := tables_1_3) (i := 209) (by decide +kernel))) rfl
theorem w809 : Cond.methodLink "java/lang/String" 640 ⟨"java/lang/StringUTF16", "indexOf", "([BIII)I"⟩ ∈ lw_ok := okm (tk_3 (List.mem_of_getElem? (l := tables_1_3) (i := 210) (by decide +kernel))) rfl
theorem w810 : Cond.static ⟨"java/lang/StringUTF16", "indexOf", "([BIII)I"⟩ ∈ lw_ok := okm (tk_3 (List.mem_of_getElem? (l := tables_1_3) (i := 211) (by decide +kernel))) rfl
theorem w811 : Cond.code ⟨"java/lang/StringUTF16", "indexOf", "([BIII)I"⟩ prog_26_method_40_code 4 (some FieldType.int) ∈ lw_ok := okm (tk_3 (List.mem_of_getElem? (l := tables_1_3) (i := 212) (by decide +kernel))) rfl
theorem w812 : Cond.methodLink "java/lang/StringUTF16" 224 ⟨"java/lang/Math", "max", "(II)I"⟩ ∈ lw_ok := okm (tk_3 (List.mem_of_getElem? (l := tables_1_3) (i := 213) (by decide +kernel))) rfl
theorem w813 : Cond.methodLink "java/lang/StringUTF16" 183 ⟨"java/lang/Math", "min", "(II)I"⟩ ∈ lw_ok := okm (tk_3 (List.mem_of_getElem? (l := tables_1_3) (i := 214) (by decide +kernel))) rfl
theorem w814 : Cond.constant "java/lang/StringUTF16" 227 65536 ∈ lw_ok := okm (tk_3 (List.mem_of_getElem? (l := tables_1_3) (i := 215) (by decide +kernel))) rfl
theorem w815 : Cond.methodLink "java/lang/StringUTF16" 228 ⟨"java/lang/StringUTF16", "indexOfChar", "([BIII)I"⟩ ∈ lw_ok := okm (tk_3 (List.mem_of_getElem? (l := tables_1_3) (i := 216) (by decide +kernel))) rfl
theorem w816 : Cond.static ⟨"java/lang/StringUTF16", "indexOfChar", "([BIII)I"⟩ ∈ lw_ok := okm (tk_3 (List.mem_of_getElem? (l := tables_1_3) (i := 217) (by decide +kernel))) rfl
theorem w817 : Cond.code ⟨"java/lang/StringUTF16", "indexOfChar", "([BIII)I"⟩ prog_26_method_47_code 4 (some FieldType.int) ∈ lw_ok := okm (tk_3 (List.mem_of_getElem? (l := tables_1_3) (i := 218) (by decide +kernel))) rfl
theorem w818 : Cond.methodLink "java/lang/StringUTF16" 96 ⟨"java/lang/StringUTF16", "checkBoundsBeginEnd", "(II[B)V"⟩ ∈ lw_ok := okm (tk_3 (List.mem_of_getElem? (l := tables_1_3) (i := 219) (by decide +kernel))) rfl
theorem w819 : Cond.static ⟨"java/lang/StringUTF16", "checkBoundsBeginEnd", "(II[B)V"⟩ ∈ lw_ok := okm (tk_3 (List.mem_of_getElem? (l := tables_1_3) (i := 220) (by decide +kernel))) rfl
theorem w820 : Cond.code ⟨"java/lang/StringUTF16", "checkBoundsBeginEnd", "(II[B)V"⟩ prog_26_method_93_code 3 (none) ∈ lw_ok := okm (tk_3 (List.mem_of_getElem? (l := tables_1_3) (i := 221) (by decide +kernel))) rfl
theorem w821 : Cond.methodLink "java/lang/StringUTF16" 48 ⟨"java/lang/StringUTF16", "length", "([B)I"⟩ ∈ lw_ok := okm (tk_3 (List.mem_of_getElem? (l := tables_1_3) (i := 222) (by decide +kernel))) rfl
theorem w822 : Cond.static ⟨"java/lang/StringUTF16", "length", "([B)I"⟩ ∈ lw_ok := okm (tk_3 (List.mem_of_getElem? (l := tables_1_3) (i := 223) (by decide +kernel))) rfl
theorem w823 : Cond.code ⟨"java/lang/StringUTF16", "length", "([B)I"⟩ prog_26_method_6_code 1 (some FieldType.int) ∈ lw_ok := okm (tk_3 (List.mem_of_getElem? (l := tables_1_3) (i := 224) (by decide +kernel))) rfl
theorem w824 : Cond.methodLink "java/lang/StringUTF16" 241 ⟨"java/lang/String", "checkBoundsBeginEnd", "(III)V"⟩ ∈ lw_ok := okm (tk_3 (List.mem_of_getElem? (l := tables_1_3) (i := 225) (by decide +kernel))) rfl
theorem w825 : Cond.static ⟨"java/lang/String", "checkBoundsBeginEnd", "(III)V"⟩ ∈ lw_ok := okm (tk_3 (List.mem_of_getElem? (l := tables_1_3) (i := 226) (by decide +kernel))) rfl
theorem w826 : Cond.code ⟨"java/lang/String", "checkBoundsBeginEnd", "(III)V"⟩ prog_24_method_158_code 3 (none) ∈ lw_ok := okm (tk_3 (List.mem_of_getElem? (l := tables_1_3) (i := 227) (by decide +kernel))) rfl
theorem w827 : Cond.fieldLink "java/lang/String" 1053 "jdk/internal/util/Preconditions" "SIOOBE_FORMATTER" "Ljava/util/function/BiFunction;" ∈ lw_ok := okm (tk_3 (List.mem_of_getElem? (l := tables_1_3) (i := 228) (by decide +kernel))) rfl
theorem w829 : Cond.methodLink "java/lang/String" 1062 ⟨"jdk/internal/util/Preconditions", "checkFromToIndex", "(IIILjava/util/function/BiFunction;)I"⟩ ∈ lw_ok := okm (tk_3 (List.mem_of_getElem? (l := tables_1_3) (i := 230) (by decide +kernel))) rfl
theorem w830 : Cond.static ⟨"jdk/internal/util/Preconditions", "checkFromToIndex", "(IIILjava/util/function/BiFunction;)I"⟩ ∈ lw_ok := okm (tk_3 (List.mem_of_getElem? (l := tables_1_3) (i := 231) (by decide +kernel))) rfl
theorem w831 : Cond.code ⟨"jdk/internal/util/Preconditions", "checkFromToIndex", "(IIILjava/util/function/BiFunction;)I"⟩ prog_33_method_12_code 4 (some FieldType.int) ∈ lw_ok := okm (tk_3 (List.mem_of_getElem? (l := tables_1_3) (i := 232) (by decide +kernel))) rfl
theorem w832 : Cond.methodLink "java/lang/StringUTF16" 244 ⟨"java/lang/StringUTF16", "indexOfCharUnsafe", "([BIII)I"⟩ ∈ lw_ok := okm (tk_3 (List.mem_of_getElem? (l := tables_1_3) (i := 233) (by decide +kernel))) rfl
theorem w833 : Cond.static ⟨"java/lang/StringUTF16", "indexOfCharUnsafe", "([BIII)I"⟩ ∈ lw_ok := okm (tk_3 (List.mem_of_getElem? (l := tables_1_3) (i := 234) (by decide +kernel))) rfl
theorem w834 : Cond.code ⟨"java/lang/StringUTF16", "indexOfCharUnsafe", "([BIII)I"⟩ prog_26_method_48_code 5 (some FieldType.int) ∈ lw_ok := okm (tk_3 (List.mem_of_getElem? (l := tables_1_3) (i := 235) (by decide +kernel))) rfl
theorem w835 : Cond.methodLink "java/lang/StringUTF16" 71 ⟨"java/lang/StringUTF16", "getChar", "([BI)C"⟩ ∈ lw_ok := okm (tk_3 (List.mem_of_getElem? (l := tables_1_3) (i := 236) (by decide +kernel))) rfl
theorem w836 : Cond.static ⟨"java/lang/StringUTF16", "getChar", "([BI)C"⟩ ∈ lw_ok := okm (tk_3 (List.mem_of_getElem? (l := tables_1_3) (i := 237) (by decide +kernel))) rfl
theorem w837 : Cond.code ⟨"java/lang/StringUTF16", "getChar", "([BI)C"⟩ prog_26_method_5_code 2 (some FieldType.char) ∈ lw_ok := okm (tk_3 (List.mem_of_getElem? (l := tables_1_3) (i := 238) (by decide +kernel))) rfl
theorem w838 : Cond.fieldLink "java/lang/StringUTF16" 44 "java/lang/StringUTF16" "$assertionsDisabled" "Z" ∈ lw_ok := okm (tk_3 (List.mem_of_getElem? (l := tables_1_3) (i := 239) (by decide +kernel))) rfl
theorem w840 : Cond.fieldLink "java/lang/StringUTF16" 59 "java/lang/StringUTF16" "HI_BYTE_SHIFT" "I" ∈ lw_ok := okm (tk_4 (List.mem_of_getElem? (l := tables_1_4) (i := 1) (by decide +kernel))) rfl
theorem w842 : Cond.fieldLink "java/lang/StringUTF16" 63 "java/lang/StringUTF16" "LO_BYTE_SHIFT" "I" ∈ lw_ok := okm (tk_4 (List.mem_of_getElem? (l := tables_1_4) (i := 3) (by decide +kernel))) rfl
theorem w844 : Cond.methodLink "java/lang/StringUTF16" 232 ⟨"java/lang/StringUTF16", "indexOfSupplementary", "([BIII)I"⟩ ∈ lw_ok := okm (tk_4 (List.mem_of_getElem? (l := tables_1_4) (i := 5) (by decide +kernel))) rfl
theorem w845 : Cond.static ⟨"java/lang/StringUTF16", "indexOfSupplementary", "([BIII)I"⟩ ∈ lw_ok := okm (tk_4 (List.mem_of_getElem? (l := tables_1_4) (i := 6) (by decide +kernel))) rfl
theorem w846 : Cond.code ⟨"java/lang/StringUTF16", "indexOfSupplementary", "([BIII)I"⟩ prog_26_method_49_code 7 (some FieldType.int) ∈ lw_ok := okm (tk_4 (List.mem_of_getElem? (l := tables_1_4) (i := 7) (by decide +kernel))) rfl
theorem w847 : Cond.methodLink "java/lang/StringUTF16" 164 ⟨"java/lang/Character", "isValidCodePoint", "(I)Z"⟩ ∈ lw_ok := okm (tk_4 (List.mem_of_getElem? (l := tables_1_4) (i := 8) (by decide +kernel))) rfl
theorem w848 : Cond.static ⟨"java/lang/Character", "isValidCodePoint", "(I)Z"⟩ ∈ lw_ok := okm (tk_4 (List.mem_of_getElem? (l := tables_1_4) (i := 9) (by decide +kernel))) rfl
theorem w849 : Cond.code ⟨"java/lang/Character", "isValidCodePoint", "(I)Z"⟩ prog_17_method_11_code 2 (some FieldType.boolean) ∈ lw_ok := okm (tk_4 (List.mem_of_getElem? (l := tables_1_4) (i := 10) (by decide +kernel))) rfl
theorem w850 : Cond.methodLink "java/lang/StringUTF16" 157 ⟨"java/lang/Character", "highSurrogate", "(I)C"⟩ ∈ lw_ok := okm (tk_4 (List.mem_of_getElem? (l := tables_1_4) (i := 11) (by decide +kernel))) rfl
theorem w851 : Cond.static ⟨"java/lang/Character", "highSurrogate", "(I)C"⟩ ∈ lw_ok := okm (tk_4 (List.mem_of_getElem? (l := tables_1_4) (i := 12) (by decide +kernel))) rfl
theorem w852 : Cond.code ⟨"java/lang/Character", "highSurrogate", "(I)C"⟩ prog_17_method_28_code 1 (some FieldType.char) ∈ lw_ok := okm (tk_4 (List.mem_of_getElem? (l := tables_1_4) (i := 13) (by decide +kernel))) rfl
theorem w853 : Cond.constant "java/lang/Character" 110 55232 ∈ lw_ok := okm (tk_4 (List.mem_of_getElem? (l := tables_1_4) (i := 14) (by decide +kernel))) rfl
theorem w854 : Cond.methodLink "java/lang/StringUTF16" 161 ⟨"java/lang/Character", "lowSurrogate", "(I)C"⟩ ∈ lw_ok := okm (tk_4 (List.mem_of_getElem? (l := tables_1_4) (i := 15) (by decide +kernel))) rfl
theorem w855 : Cond.static ⟨"java/lang/Character", "lowSurrogate", "(I)C"⟩ ∈ lw_ok := okm (tk_4 (List.mem_of_getElem? (l := tables_1_4) (i := 16) (by decide +kernel))) rfl
theorem w856 : Cond.code ⟨"java/lang/Character", "lowSurrogate", "(I)C"⟩ prog_17_method_29_code 1 (some FieldType.char) ∈ lw_ok := okm (tk_4 (List.mem_of_getElem? (l := tables_1_4) (i := 17) (by decide +kernel))) rfl
theorem w857 : Cond.constant "java/lang/Character" 76 56320 ∈ lw_ok := okm (tk_4 (List.mem_of_getElem? (l := tables_1_4) (i := 18) (by decide +kernel))) rfl
theorem w858 : Cond.methodLink "BellPlate$Reader" 53 ⟨"BellPlate$Reader", "thingLine", "()V"⟩ ∈ lw_ok := okm (tk_4 (List.mem_of_getElem? (l := tables_1_4) (i := 19) (by decide +kernel))) rfl
theorem w860 : Cond.instanceMethod ⟨"BellPlate$Reader", "thingLine", "()V"⟩ ∈ lw_ok := okm (tk_4 (List.mem_of_getElem? (l := tables_1_4) (i := 21) (by decide +kernel))) rfl
theorem w861 : Cond.code ⟨"BellPlate$Reader", "thingLine", "()V"⟩ prog_9_method_13_code 1 (none) ∈ lw_ok := okm (tk_4 (List.mem_of_getElem? (l := tables_1_4) (i := 22) (by decide +kernel))) rfl
theorem w862 : Cond.methodLink "BellPlate$Reader" 114 ⟨"BellPlate$Tower", "things", "()I"⟩ ∈ lw_ok := okm (tk_4 (List.mem_of_getElem? (l := tables_1_4) (i := 23) (by decide +kernel))) rfl
theorem w863 : Cond.methodLink "BellPlate$Reader" 68 ⟨"BellPlate$Reader", "fail", "(I)V"⟩ ∈ lw_ok := okm (tk_4 (List.mem_of_getElem? (l := tables_1_4) (i := 24) (by decide +kernel))) rfl
theorem w865 : Cond.instanceMethod ⟨"BellPlate$Reader", "fail", "(I)V"⟩ ∈ lw_ok := okm (tk_4 (List.mem_of_getElem? (l := tables_1_4) (i := 26) (by decide +kernel))) rfl
theorem w866 : Cond.code ⟨"BellPlate$Reader", "fail", "(I)V"⟩ prog_9_method_6_code 2 (none) ∈ lw_ok := okm (tk_4 (List.mem_of_getElem? (l := tables_1_4) (i := 27) (by decide +kernel))) rfl
theorem w867 : Cond.methodLink "BellPlate$Reader" 117 ⟨"BellPlate$Tower", "thingNamed", "(J)I"⟩ ∈ lw_ok := okm (tk_4 (List.mem_of_getElem? (l := tables_1_4) (i := 28) (by decide +kernel))) rfl
theorem w868 : Cond.instanceMethod ⟨"BellPlate$Tower", "thingNamed", "(J)I"⟩ ∈ lw_ok := okm (tk_4 (List.mem_of_getElem? (l := tables_1_4) (i := 29) (by decide +kernel))) rfl
theorem w869 : Cond.selects "BellPlate$Tower" ⟨"BellPlate$Tower", "thingNamed", "(J)I"⟩ ⟨"BellPlate$Tower", "thingNamed", "(J)I"⟩ ∈ lw_ok := okm (tk_4 (List.mem_of_getElem? (l := tables_1_4) (i := 30) (by decide +kernel))) rfl
theorem w870 : Cond.code ⟨"BellPlate$Tower", "thingNamed", "(J)I"⟩ prog_12_method_11_code 4 (some FieldType.int) ∈ lw_ok := okm (tk_4 (List.mem_of_getElem? (l := tables_1_4) (i := 31) (by decide +kernel))) rfl
theorem w871 : Cond.methodLink "BellPlate$Reader" 121 ⟨"BellPlate$Tower", "addThing", "(J)V"⟩ ∈ lw_ok := okm (tk_4 (List.mem_of_getElem? (l := tables_1_4) (i := 32) (by decide +kernel))) rfl
theorem w872 : Cond.instanceMethod ⟨"BellPlate$Tower", "addThing", "(J)V"⟩ ∈ lw_ok := okm (tk_4 (List.mem_of_getElem? (l := tables_1_4) (i := 33) (by decide +kernel))) rfl
theorem w873 : Cond.selects "BellPlate$Tower" ⟨"BellPlate$Tower", "addThing", "(J)V"⟩ ⟨"BellPlate$Tower", "addThing", "(J)V"⟩ ∈ lw_ok := okm (tk_4 (List.mem_of_getElem? (l := tables_1_4) (i := 34) (by decide +kernel))) rfl
theorem w874 : Cond.code ⟨"BellPlate$Tower", "addThing", "(J)V"⟩ prog_12_method_10_code 3 (none) ∈ lw_ok := okm (tk_4 (List.mem_of_getElem? (l := tables_1_4) (i := 35) (by decide +kernel))) rfl
theorem w875 : Cond.methodLink "BellPlate$Reader" 125 ⟨"BellPlate$Reader", "expect", "(I)V"⟩ ∈ lw_ok := okm (tk_4 (List.mem_of_getElem? (l := tables_1_4) (i := 36) (by decide +kernel))) rfl
theorem w877 : Cond.instanceMethod ⟨"BellPlate$Reader", "expect", "(I)V"⟩ ∈ lw_ok := okm (tk_4 (List.mem_of_getElem? (l := tables_1_4) (i := 38) (by decide +kernel))) rfl
theorem w878 : Cond.code ⟨"BellPlate$Reader", "expect", "(I)V"⟩ prog_9_method_19_code 2 (none) ∈ lw_ok := okm (tk_4 (List.mem_of_getElem? (l := tables_1_4) (i := 39) (by decide +kernel))) rfl
theorem w879 : Cond.methodLink "BellPlate$Reader" 56 ⟨"BellPlate$Reader", "mostLine", "()V"⟩ ∈ lw_ok := okm (tk_4 (List.mem_of_getElem? (l := tables_1_4) (i := 40) (by decide +kernel))) rfl
theorem w881 : Cond.instanceMethod ⟨"BellPlate$Reader", "mostLine", "()V"⟩ ∈ lw_ok := okm (tk_4 (List.mem_of_getElem? (l := tables_1_4) (i := 42) (by decide +kernel))) rfl
theorem w882 : Cond.code ⟨"BellPlate$Reader", "mostLine", "()V"⟩ prog_9_method_14_code 1 (none) ∈ lw_ok := okm (tk_4 (List.mem_of_getElem? (l := tables_1_4) (i := 43) (by decide +kernel))) rfl
theorem w883 : Cond.methodLink "BellPlate$Reader" 128 ⟨"BellPlate$Reader", "numberUpTo", "(I)I"⟩ ∈ lw_ok := okm (tk_4 (List.mem_of_getElem? (l := tables_1_4) (i := 44) (by decide +kernel))) rfl
theorem w885 : Cond.instanceMethod ⟨"BellPlate$Reader", "numberUpTo", "(I)I"⟩ ∈ lw_ok := okm (tk_4 (List.mem_of_getElem? (l := tables_1_4) (i := 46) (by decide +kernel))) rfl
theorem w886 : Cond.code ⟨"BellPlate$Reader", "numberUpTo", "(I)I"⟩ prog_9_method_16_code 3 (some FieldType.int) ∈ lw_ok := okm (tk_4 (List.mem_of_getElem? (l := tables_1_4) (i := 47) (by decide +kernel))) rfl
theorem w887 : Cond.methodLink "BellPlate$Reader" 131 ⟨"BellPlate$Tower", "setMost", "(I)V"⟩ ∈ lw_ok := okm (tk_4 (List.mem_of_getElem? (l := tables_1_4) (i := 48) (by decide +kernel))) rfl
theorem w888 : Cond.instanceMethod ⟨"BellPlate$Tower", "setMost", "(I)V"⟩ ∈ lw_ok := okm (tk_4 (List.mem_of_getElem? (l := tables_1_4) (i := 49) (by decide +kernel))) rfl
theorem w889 : Cond.selects "BellPlate$Tower" ⟨"BellPlate$Tower", "setMost", "(I)V"⟩ ⟨"BellPlate$Tower", "setMost", "(I)V"⟩ ∈ lw_ok := okm (tk_4 (List.mem_of_getElem? (l := tables_1_4) (i := 50) (by decide +kernel))) rfl
theorem w890 : Cond.code ⟨"BellPlate$Tower", "setMost", "(I)V"⟩ prog_12_method_8_code 2 (none) ∈ lw_ok := okm (tk_4 (List.mem_of_getElem? (l := tables_1_4) (i := 51) (by decide +kernel))) rfl
theorem w891 : Cond.methodLink "BellPlate$Reader" 59 ⟨"BellPlate$Reader", "barLine", "()V"⟩ ∈ lw_ok := okm (tk_4 (List.mem_of_getElem? (l := tables_1_4) (i := 52) (by decide +kernel))) rfl
theorem w893 : Cond.instanceMethod ⟨"BellPlate$Reader", "barLine", "()V"⟩ ∈ lw_ok := okm (tk_4 (List.mem_of_getElem? (l := tables_1_4) (i := 54) (by decide +kernel))) rfl
theorem w894 : Cond.code ⟨"BellPlate$Reader", "barLine", "()V"⟩ prog_9_method_15_code 1 (none) ∈ lw_ok := okm (tk_4 (List.mem_of_getElem? (l := tables_1_4) (i := 55) (by decide +kernel))) rfl
theorem w895 : Cond.methodLink "BellPlate$Reader" 134 ⟨"BellPlate$Tower", "setBar", "(I)V"⟩ ∈ lw_ok := okm (tk_4 (List.mem_of_getElem? (l := tables_1_4) (i := 56) (by decide +kernel))) rfl
theorem w896 : Cond.instanceMethod ⟨"BellPlate$Tower", "setBar", "(I)V"⟩ ∈ lw_ok := okm (tk_4 (List.mem_of_getElem? (l := tables_1_4) (i := 57) (by decide +kernel))) rfl
theorem w897 : Cond.selects "BellPlate$Tower" ⟨"BellPlate$Tower", "setBar", "(I)V"⟩ ⟨"BellPlate$Tower", "setBar", "(I)V"⟩ ∈ lw_ok := okm (tk_4 (List.mem_of_getElem? (l := tables_1_4) (i := 58) (by decide +kernel))) rfl
theorem w898 : Cond.code ⟨"BellPlate$Tower", "setBar", "(I)V"⟩ prog_12_method_9_code 2 (none) ∈ lw_ok := okm (tk_4 (List.mem_of_getElem? (l := tables_1_4) (i := 59) (by decide +kernel))) rfl
theorem w899 : Cond.methodLink "BellPlate$Reader" 62 ⟨"BellPlate$Reader", "allowLine", "()V"⟩ ∈ lw_ok := okm (tk_4 (List.mem_of_getElem? (l := tables_1_4) (i := 60) (by decide +kernel))) rfl
theorem w901 : Cond.instanceMethod ⟨"BellPlate$Reader", "allowLine", "()V"⟩ ∈ lw_ok := okm (tk_4 (List.mem_of_getElem? (l := tables_1_4) (i := 62) (by decide +kernel))) rfl
theorem w902 : Cond.code ⟨"BellPlate$Reader", "allowLine", "()V"⟩ prog_9_method_17_code 1 (none) ∈ lw_ok := okm (tk_4 (List.mem_of_getElem? (l := tables_1_4) (i := 63) (by decide +kernel))) rfl
theorem w903 : Cond.methodLink "BellPlate$Reader" 137 ⟨"BellPlate$Tower", "allows", "()I"⟩ ∈ lw_ok := okm (tk_4 (List.mem_of_getElem? (l := tables_1_4) (i := 64) (by decide +kernel))) rfl
theorem w904 : Cond.instanceMethod ⟨"BellPlate$Tower", "allows", "()I"⟩ ∈ lw_ok := okm (tk_4 (List.mem_of_getElem? (l := tables_1_4) (i := 65) (by decide +kernel))) rfl
theorem w905 : Cond.selects "BellPlate$Tower" ⟨"BellPlate$Tower", "allows", "()I"⟩ ⟨"BellPlate$Tower", "allows", "()I"⟩ ∈ lw_ok := okm (tk_4 (List.mem_of_getElem? (l := tables_1_4) (i := 66) (by decide +kernel))) rfl
theorem w906 : Cond.code ⟨"BellPlate$Tower", "allows", "()I"⟩ prog_12_method_7_code 1 (some FieldType.int) ∈ lw_ok := okm (tk_4 (List.mem_of_getElem? (l := tables_1_4) (i := 67) (by decide +kernel))) rfl
theorem w907 : Cond.methodLink "BellPlate$Reader" 143 ⟨"BellPlate$Tower", "beginAllow", "()V"⟩ ∈ lw_ok := okm (tk_4 (List.mem_of_getElem? (l := tables_1_4) (i := 68) (by decide +kernel))) rfl
theorem w908 : Cond.instanceMethod ⟨"BellPlate$Tower", "beginAllow", "()V"⟩ ∈ lw_ok := okm (tk_4 (List.mem_of_getElem? (l := tables_1_4) (i := 69) (by decide +kernel))) rfl
theorem w909 : Cond.selects "BellPlate$Tower" ⟨"BellPlate$Tower", "beginAllow", "()V"⟩ ⟨"BellPlate$Tower", "beginAllow", "()V"⟩ ∈ lw_ok := okm (tk_4 (List.mem_of_getElem? (l := tables_1_4) (i := 70) (by decide +kernel))) rfl
theorem w910 : Cond.code ⟨"BellPlate$Tower", "beginAllow", "()V"⟩ prog_12_method_12_code 1 (none) ∈ lw_ok := okm (tk_4 (List.mem_of_getElem? (l := tables_1_4) (i := 71) (by decide +kernel))) rfl
theorem w911 : Cond.methodLink "BellPlate$Reader" 146 ⟨"BellPlate$Reader", "expression", "(II)V"⟩ ∈ lw_ok := okm (tk_4 (List.mem_of_getElem? (l := tables_1_4) (i := 72) (by decide +kernel))) rfl
theorem w913 : Cond.instanceMethod ⟨"BellPlate$Reader", "expression", "(II)V"⟩ ∈ lw_ok := okm (tk_4 (List.mem_of_getElem? (l := tables_1_4) (i := 74) (by decide +kernel))) rfl
theorem w914 : Cond.code ⟨"BellPlate$Reader", "expression", "(II)V"⟩ prog_9_method_20_code 6 (none) ∈ lw_ok := okm (tk_4 (List.mem_of_getElem? (l := tables_1_4) (i := 75) (by decide +kernel))) rfl
theorem w915 : Cond.methodLink "BellPlate$Reader" 159 ⟨"BellPlate$Reader", "part", "(I)V"⟩ ∈ lw_ok := okm (tk_4 (List.mem_of_getElem? (l := tables_1_4) (i := 76) (by decide +kernel))) rfl
theorem w917 : Cond.instanceMethod ⟨"BellPlate$Reader", "part", "(I)V"⟩ ∈ lw_ok := okm (tk_4 (List.mem_of_getElem? (l := tables_1_4) (i := 78) (by decide +kernel))) rfl
theorem w918 : Cond.code ⟨"BellPlate$Reader", "part", "(I)V"⟩ prog_9_method_23_code 3 (none) ∈ lw_ok := okm (tk_4 (List.mem_of_getElem? (l := tables_1_4) (i := 79) (by decide +kernel))) rfl
theorem w919 : Cond.methodLink "BellPlate$Reader" 171 ⟨"BellPlate$Reader", "faultOfPart", "(I)I"⟩ ∈ lw_ok := okm (tk_4 (List.mem_of_getElem? (l := tables_1_4) (i := 80) (by decide +kernel))) rfl
theorem w921 : Cond.instanceMethod ⟨"BellPlate$Reader", "faultOfPart", "(I)I"⟩ ∈ lw_ok := okm (tk_4 (List.mem_of_getElem? (l := tables_1_4) (i := 82) (by decide +kernel))) rfl
theorem w922 : Cond.code ⟨"BellPlate$Reader", "faultOfPart", "(I)I"⟩ prog_9_method_24_code 3 (some FieldType.int) ∈ lw_ok := okm (tk_4 (List.mem_of_getElem? (l := tables_1_4) (i := 83) (by decide +kernel))) rfl
theorem w923 : Cond.methodLink "BellPlate$Reader" 168 ⟨"BellPlate$Tower", "add", "(I)V"⟩ ∈ lw_ok := okm (tk_4 (List.mem_of_getElem? (l := tables_1_4) (i := 84) (by decide +kernel))) rfl
theorem w924 : Cond.instanceMethod ⟨"BellPlate$Tower", "add", "(I)V"⟩ ∈ lw_ok := okm (tk_4 (List.mem_of_getElem? (l := tables_1_4) (i := 85) (by decide +kernel))) rfl
theorem w925 : Cond.selects "BellPlate$Tower" ⟨"BellPlate$Tower", "add", "(I)V"⟩ ⟨"BellPlate$Tower", "add", "(I)V"⟩ ∈ lw_ok := okm (tk_4 (List.mem_of_getElem? (l := tables_1_4) (i := 86) (by decide +kernel))) rfl
theorem w926 : Cond.code ⟨"BellPlate$Tower", "add", "(I)V"⟩ prog_12_method_16_code 2 (none) ∈ lw_ok := okm (tk_4 (List.mem_of_getElem? (l := tables_1_4) (i := 87) (by decide +kernel))) rfl
theorem w927 : Cond.methodLink "BellPlate$Reader" 174 ⟨"BellPlate$Reader", "codeOfPart", "()I"⟩ ∈ lw_ok := okm (tk_4 (List.mem_of_getElem? (l := tables_1_4) (i := 88) (by decide +kernel))) rfl
theorem w929 : Cond.instanceMethod ⟨"BellPlate$Reader", "codeOfPart", "()I"⟩ ∈ lw_ok := okm (tk_4 (List.mem_of_getElem? (l := tables_1_4) (i := 90) (by decide +kernel))) rfl
theorem w930 : Cond.code ⟨"BellPlate$Reader", "codeOfPart", "()I"⟩ prog_9_method_25_code 1 (some FieldType.int) ∈ lw_ok := okm (tk_4 (List.mem_of_getElem? (l := tables_1_4) (i := 91) (by decide +kernel))) rfl
theorem w931 : Cond.methodLink "BellPlate$Reader" 162 ⟨"BellPlate$Reader", "levelOfToken", "()I"⟩ ∈ lw_ok := okm (tk_4 (List.mem_of_getElem? (l := tables_1_4) (i := 92) (by decide +kernel))) rfl
theorem w933 : Cond.instanceMethod ⟨"BellPlate$Reader", "levelOfToken", "()I"⟩ ∈ lw_ok := okm (tk_4 (List.mem_of_getElem? (l := tables_1_4) (i := 94) (by decide +kernel))) rfl
theorem w934 : Cond.code ⟨"BellPlate$Reader", "levelOfToken", "()I"⟩ prog_9_method_21_code 1 (some FieldType.int) ∈ lw_ok := okm (tk_4 (List.mem_of_getElem? (l := tables_1_4) (i := 95) (by decide +kernel))) rfl
theorem w935 : Cond.methodLink "BellPlate$Reader" 165 ⟨"BellPlate$Reader", "codeOfSign", "()I"⟩ ∈ lw_ok := okm (tk_4 (List.mem_of_getElem? (l := tables_1_4) (i := 96) (by decide +kernel))) rfl
theorem w937 : Cond.instanceMethod ⟨"BellPlate$Reader", "codeOfSign", "()I"⟩ ∈ lw_ok := okm (tk_4 (List.mem_of_getElem? (l := tables_1_4) (i := 98) (by decide +kernel))) rfl
theorem w938 : Cond.code ⟨"BellPlate$Reader", "codeOfSign", "()I"⟩ prog_9_method_22_code 1 (some FieldType.int) ∈ lw_ok := okm (tk_4 (List.mem_of_getElem? (l := tables_1_4) (i := 99) (by decide +kernel))) rfl
theorem w939 : Cond.methodLink "BellPlate$Reader" 150 ⟨"BellPlate$Tower", "endAllow", "()V"⟩ ∈ lw_ok := okm (tk_4 (List.mem_of_getElem? (l := tables_1_4) (i := 100) (by decide +kernel))) rfl
theorem w940 : Cond.instanceMethod ⟨"BellPlate$Tower", "endAllow", "()V"⟩ ∈ lw_ok := okm (tk_4 (List.mem_of_getElem? (l := tables_1_4) (i := 101) (by decide +kernel))) rfl
theorem w941 : Cond.selects "BellPlate$Tower" ⟨"BellPlate$Tower", "endAllow", "()V"⟩ ⟨"BellPlate$Tower", "endAllow", "()V"⟩ ∈ lw_ok := okm (tk_4 (List.mem_of_getElem? (l := tables_1_4) (i := 102) (by decide +kernel))) rfl
theorem w942 : Cond.code ⟨"BellPlate$Tower", "endAllow", "()V"⟩ prog_12_method_13_code 1 (none) ∈ lw_ok := okm (tk_4 (List.mem_of_getElem? (l := tables_1_4) (i := 103) (by decide +kernel))) rfl
theorem w943 : Cond.methodLink "BellPlate$Reader" 65 ⟨"BellPlate$Reader", "costLine", "()V"⟩ ∈ lw_ok := okm (tk_4 (List.mem_of_getElem? (l := tables_1_4) (i := 104) (by decide +kernel))) rfl
theorem w945 : Cond.instanceMethod ⟨"BellPlate$Reader", "costLine", "()V"⟩ ∈ lw_ok := okm (tk_4 (List.mem_of_getElem? (l := tables_1_4) (i := 106) (by decide +kernel))) rfl
theorem w946 : Cond.code ⟨"BellPlate$Reader", "costLine", "()V"⟩ prog_9_method_18_code 1 (none) ∈ lw_ok := okm (tk_4 (List.mem_of_getElem? (l := tables_1_4) (i := 107) (by decide +kernel))) rfl
theorem w947 : Cond.methodLink "BellPlate$Reader" 153 ⟨"BellPlate$Tower", "beginCost", "()V"⟩ ∈ lw_ok := okm (tk_4 (List.mem_of_getElem? (l := tables_1_4) (i := 108) (by decide +kernel))) rfl
theorem w948 : Cond.instanceMethod ⟨"BellPlate$Tower", "beginCost", "()V"⟩ ∈ lw_ok := okm (tk_4 (List.mem_of_getElem? (l := tables_1_4) (i := 109) (by decide +kernel))) rfl
theorem w949 : Cond.selects "BellPlate$Tower" ⟨"BellPlate$Tower", "beginCost", "()V"⟩ ⟨"BellPlate$Tower", "beginCost", "()V"⟩ ∈ lw_ok := okm (tk_4 (List.mem_of_getElem? (l := tables_1_4) (i := 110) (by decide +kernel))) rfl
theorem w950 : Cond.code ⟨"BellPlate$Tower", "beginCost", "()V"⟩ prog_12_method_14_code 1 (none) ∈ lw_ok := okm (tk_4 (List.mem_of_getElem? (l := tables_1_4) (i := 111) (by decide +kernel))) rfl
theorem w951 : Cond.methodLink "BellPlate$Reader" 156 ⟨"BellPlate$Tower", "endCost", "()V"⟩ ∈ lw_ok := okm (tk_4 (List.mem_of_getElem? (l := tables_1_4) (i := 112) (by decide +kernel))) rfl
theorem w952 : Cond.instanceMethod ⟨"BellPlate$Tower", "endCost", "()V"⟩ ∈ lw_ok := okm (tk_4 (List.mem_of_getElem? (l := tables_1_4) (i := 113) (by decide +kernel))) rfl
theorem w953 : Cond.selects "BellPlate$Tower" ⟨"BellPlate$Tower", "endCost", "()V"⟩ ⟨"BellPlate$Tower", "endCost", "()V"⟩ ∈ lw_ok := okm (tk_4 (List.mem_of_getElem? (l := tables_1_4) (i := 114) (by decide +kernel))) rfl
theorem w954 : Cond.code ⟨"BellPlate$Tower", "endCost", "()V"⟩ prog_12_method_15_code 1 (none) ∈ lw_ok := okm (tk_4 (List.mem_of_getElem? (l := tables_1_4) (i := 115) (by decide +kernel))) rfl
theorem w955 : Cond.methodLink "BellPlate$Reader" 72 ⟨"BellPlate$Tower", "all", "()I"⟩ ∈ lw_ok := okm (tk_4 (List.mem_of_getElem? (l := tables_1_4) (i := 116) (by decide +kernel))) rfl
theorem w956 : Cond.methodLink "BellPlate" 118 ⟨"BellPlate$Reader", "draft", "()LBellPlate$Tower;"⟩ ∈ lw_ok := okm (tk_4 (List.mem_of_getElem? (l := tables_1_4) (i := 117) (by decide +kernel))) rfl
theorem w957 : Cond.instanceMethod ⟨"BellPlate$Reader", "draft", "()LBellPlate$Tower;"⟩ ∈ lw_ok := okm (tk_4 (List.mem_of_getElem? (l := tables_1_4) (i := 118) (by decide +kernel))) rfl
theorem w958 : Cond.selects "BellPlate$Reader" ⟨"BellPlate$Reader", "draft", "()LBellPlate$Tower;"⟩ ⟨"BellPlate$Reader", "draft", "()LBellPlate$Tower;"⟩ ∈ lw_ok := okm (tk_4 (List.mem_of_getElem? (l := tables_1_4) (i := 119) (by decide +kernel))) rfl
theorem w959 : Cond.code ⟨"BellPlate$Reader", "draft", "()LBellPlate$Tower;"⟩ prog_9_method_3_code 1 (some (FieldType.object "BellPlate$Tower")) ∈ lw_ok := okm (tk_4 (List.mem_of_getElem? (l := tables_1_4) (i := 120) (by decide +kernel))) rfl
theorem w960 : Cond.methodLink "BellPlate" 122 ⟨"BellPlate$Tower", "take", "(LBellPlate$Tower;)V"⟩ ∈ lw_ok := okm (tk_4 (List.mem_of_getElem? (l := tables_1_4) (i := 121) (by decide +kernel))) rfl
theorem w961 : Cond.instanceMethod ⟨"BellPlate$Tower", "take", "(LBellPlate$Tower;)V"⟩ ∈ lw_ok := okm (tk_4 (List.mem_of_getElem? (l := tables_1_4) (i := 122) (by decide +kernel))) rfl
theorem w962 : Cond.selects "BellPlate$Tower" ⟨"BellPlate$Tower", "take", "(LBellPlate$Tower;)V"⟩ ⟨"BellPlate$Tower", "take", "(LBellPlate$Tower;)V"⟩ ∈ lw_ok := okm (tk_4 (List.mem_of_getElem? (l := tables_1_4) (i := 123) (by decide +kernel))) rfl
theorem w963 : Cond.code ⟨"BellPlate$Tower", "take", "(LBellPlate$Tower;)V"⟩ prog_12_method_3_code 2 (none) ∈ lw_ok := okm (tk_4 (List.mem_of_getElem? (l := tables_1_4) (i := 124) (by decide +kernel))) rfl
theorem w964 : Cond.methodLink "BellPlate$Tower" 49 ⟨"java/lang/System", "arraycopy", "(Ljava/lang/Object;ILjava/lang/Object;II)V"⟩ ∈ lw_ok := okm (tk_4 (List.mem_of_getElem? (l := tables_1_4) (i := 125) (by decide +kernel))) rfl
theorem w965 : Cond.static ⟨"java/lang/System", "arraycopy", "(Ljava/lang/Object;ILjava/lang/Object;II)V"⟩ ∈ lw_ok := okm (tk_4 (List.mem_of_getElem? (l := tables_1_4) (i := 126) (by decide +kernel))) rfl
theorem w966 : Cond.native ⟨"java/lang/System", "arraycopy", "(Ljava/lang/Object;ILjava/lang/Object;II)V"⟩ ∈ lw_ok := okm (tk_4 (List.mem_of_getElem? (l := tables_1_4) (i := 127) (by decide +kernel))) rfl
theorem w967 : Cond.methodLink "BellPlate$Tower" 55 ⟨"BellPlate$Tower", "priceSets", "()V"⟩ ∈ lw_ok := okm (tk_4 (List.mem_of_getElem? (l := tables_1_4) (i := 128) (by decide +kernel))) rfl
theorem w968 : Cond.methodLink "BellPlate" 125 ⟨"BellPlate$Book", "forget", "()V"⟩ ∈ lw_ok := okm (tk_4 (List.mem_of_getElem? (l := tables_1_4) (i := 129) (by decide +kernel))) rfl
theorem w969 : Cond.instanceMethod ⟨"BellPlate$Book", "forget", "()V"⟩ ∈ lw_ok := okm (tk_4 (List.mem_of_getElem? (l := tables_1_4) (i := 130) (by decide +kernel))) rfl
theorem w970 : Cond.selects "BellPlate$Book" ⟨"BellPlate$Book", "forget", "()V"⟩ ⟨"BellPlate$Book", "forget", "()V"⟩ ∈ lw_ok := okm (tk_4 (List.mem_of_getElem? (l := tables_1_4) (i := 131) (by decide +kernel))) rfl
theorem w971 : Cond.code ⟨"BellPlate$Book", "forget", "()V"⟩ prog_2_method_8_code 1 (none) ∈ lw_ok := okm (tk_4 (List.mem_of_getElem? (l := tables_1_4) (i := 132) (by decide +kernel))) rfl
theorem w972 : Cond.methodLink "BellPlate$Book" 48 ⟨"java/util/Arrays", "fill", "([II)V"⟩ ∈ lw_ok := okm (tk_4 (List.mem_of_getElem? (l := tables_1_4) (i := 133) (by decide +kernel))) rfl
theorem w973 : Cond.methodLink "BellPlateLaw" 31 ⟨"BellPlate", "may", "(I)I"⟩ ∈ lw_ok := okm (tk_4 (List.mem_of_getElem? (l := tables_1_4) (i := 134) (by decide +kernel))) rfl
theorem w974 : Cond.instanceMethod ⟨"BellPlate", "may", "(I)I"⟩ ∈ lw_ok := okm (tk_4 (List.mem_of_getElem? (l := tables_1_4) (i := 135) (by decide +kernel))) rfl
theorem w975 : Cond.selects "BellPlate" ⟨"BellPlate", "may", "(I)I"⟩ ⟨"BellPlate", "may", "(I)I"⟩ ∈ lw_ok := okm (tk_4 (List.mem_of_getElem? (l := tables_1_4) (i := 136) (by decide +kernel))) rfl
theorem w976 : Cond.code ⟨"BellPlate", "may", "(I)I"⟩ prog_1_method_4_code 2 (some FieldType.int) ∈ lw_ok := okm (tk_4 (List.mem_of_getElem? (l := tables_1_4) (i := 137) (by decide +kernel))) rfl
theorem w977 : Cond.methodLink "BellPlate" 128 ⟨"BellPlate$Tower", "hasWeights", "(I)Z"⟩ ∈ lw_ok := okm (tk_4 (List.mem_of_getElem? (l := tables_1_4) (i := 138) (by decide +kernel))) rfl
theorem w978 : Cond.instanceMethod ⟨"BellPlate$Tower", "hasWeights", "(I)Z"⟩ ∈ lw_ok := okm (tk_4 (List.mem_of_getElem? (l := tables_1_4) (i := 139) (by decide +kernel))) rfl
theorem w979 : Cond.selects "BellPlate$Tower" ⟨"BellPlate$Tower", "hasWeights", "(I)Z"⟩ ⟨"BellPlate$Tower", "hasWeights", "(I)Z"⟩ ∈ lw_ok := okm (tk_4 (List.mem_of_getElem? (l := tables_1_4) (i := 140) (by decide +kernel))) rfl
theorem w980 : Cond.code ⟨"BellPlate$Tower", "hasWeights", "(I)Z"⟩ prog_12_method_20_code 2 (some FieldType.boolean) ∈ lw_ok := okm (tk_4 (List.mem_of_getElem? (l := tables_1_4) (i := 141) (by decide +kernel))) rfl
theorem w981 : Cond.methodLink "BellPlate$Tower" 64 ⟨"BellPlate$Tower", "all", "()I"⟩ ∈ lw_ok := okm (tk_4 (List.mem_of_getElem? (l := tables_1_4) (i := 142) (by decide +kernel))) rfl
theorem w982 : Cond.methodLink "BellPlate" 132 ⟨"BellPlate$Lists", "numberOf", "(I)I"⟩ ∈ lw_ok := okm (tk_4 (List.mem_of_getElem? (l := tables_1_4) (i := 143) (by decide +kernel))) rfl
theorem w983 : Cond.instanceMethod ⟨"BellPlate$Lists", "numberOf", "(I)I"⟩ ∈ lw_ok := okm (tk_4 (List.mem_of_getElem? (l := tables_1_4) (i := 144) (by decide +kernel))) rfl
theorem w984 : Cond.selects "BellPlate$Lists" ⟨"BellPlate$Lists", "numberOf", "(I)I"⟩ ⟨"BellPlate$Lists", "numberOf", "(I)I"⟩ ∈ lw_ok := okm (tk_4 (List.mem_of_getElem? (l := tables_1_4) (i := 145) (by decide +kernel))) rfl
theorem w985 : Cond.code ⟨"BellPlate$Lists", "numberOf", "(I)I"⟩ prog_6_method_7_code 2 (some FieldType.int) ∈ lw_ok := okm (tk_4 (List.mem_of_getElem? (l := tables_1_4) (i := 146) (by decide +kernel))) rfl
theorem w986 : Cond.methodLink "BellPlateLaw" 36 ⟨"BellPlate", "list", "(I)J"⟩ ∈ lw_ok := okm (tk_4 (List.mem_of_getElem? (l := tables_1_4) (i := 147) (by decide +kernel))) rfl
theorem w987 : Cond.instanceMethod ⟨"BellPlate", "list", "(I)J"⟩ ∈ lw_ok := okm (tk_4 (List.mem_of_getElem? (l := tables_1_4) (i := 148) (by decide +kernel))) rfl
theorem w988 : Cond.selects "BellPlate" ⟨"BellPlate", "list", "(I)J"⟩ ⟨"BellPlate", "list", "(I)J"⟩ ∈ lw_ok := okm (tk_4 (List.mem_of_getElem? (l := tables_1_4) (i := 149) (by decide +kernel))) rfl
theorem w989 : Cond.code ⟨"BellPlate", "list", "(I)J"⟩ prog_1_method_5_code 2 (some FieldType.long) ∈ lw_ok := okm (tk_4 (List.mem_of_getElem? (l := tables_1_4) (i := 150) (by decide +kernel))) rfl
theorem w990 : Cond.methodLink "BellPlate" 136 ⟨"BellPlate$Lists", "listOf", "(I)J"⟩ ∈ lw_ok := okm (tk_4 (List.mem_of_getElem? (l := tables_1_4) (i := 151) (by decide +kernel))) rfl
theorem w991 : Cond.instanceMethod ⟨"BellPlate$Lists", "listOf", "(I)J"⟩ ∈ lw_ok := okm (tk_4 (List.mem_of_getElem? (l := tables_1_4) (i := 152) (by decide +kernel))) rfl
theorem w992 : Cond.selects "BellPlate$Lists" ⟨"BellPlate$Lists", "listOf", "(I)J"⟩ ⟨"BellPlate$Lists", "listOf", "(I)J"⟩ ∈ lw_ok := okm (tk_4 (List.mem_of_getElem? (l := tables_1_4) (i := 153) (by decide +kernel))) rfl
theorem w993 : Cond.code ⟨"BellPlate$Lists", "listOf", "(I)J"⟩ prog_6_method_9_code 6 (some FieldType.long) ∈ lw_ok := okm (tk_4 (List.mem_of_getElem? (l := tables_1_4) (i := 154) (by decide +kernel))) rfl
theorem w994 : Cond.methodLink "BellPlate$Lists" 55 ⟨"BellPlate$Lists", "numberOf", "(I)I"⟩ ∈ lw_ok := okm (tk_4 (List.mem_of_getElem? (l := tables_1_4) (i := 155) (by decide +kernel))) rfl
theorem w995 : Cond.methodLink "BellPlate$Lists" 59 ⟨"BellPlate$Lists", "at", "(I)J"⟩ ∈ lw_ok := okm (tk_4 (List.mem_of_getElem? (l := tables_1_4) (i := 156) (by decide +kernel))) rfl
theorem w996 : Cond.instanceMethod ⟨"BellPlate$Lists", "at", "(I)J"⟩ ∈ lw_ok := okm (tk_4 (List.mem_of_getElem? (l := tables_1_4) (i := 157) (by decide +kernel))) rfl
theorem w997 : Cond.selects "BellPlate$Lists" ⟨"BellPlate$Lists", "at", "(I)J"⟩ ⟨"BellPlate$Lists", "at", "(I)J"⟩ ∈ lw_ok := okm (tk_4 (List.mem_of_getElem? (l := tables_1_4) (i := 158) (by decide +kernel))) rfl
theorem w998 : Cond.code ⟨"BellPlate$Lists", "at", "(I)J"⟩ prog_6_method_5_code 2 (some FieldType.long) ∈ lw_ok := okm (tk_4 (List.mem_of_getElem? (l := tables_1_4) (i := 159) (by decide +kernel))) rfl
theorem w999 : Cond.methodLink "BellPlate$Lists" 67 ⟨"BellPlate$Tower", "sets", "()I"⟩ ∈ lw_ok := okm (tk_4 (List.mem_of_getElem? (l := tables_1_4) (i := 160) (by decide +kernel))) rfl
theorem w1000 : Cond.methodLink "BellPlateLaw" 41 ⟨"BellPlate", "cost", "(I)I"⟩ ∈ lw_ok := okm (tk_4 (List.mem_of_getElem? (l := tables_1_4) (i := 161) (by decide +kernel))) rfl
theorem w1001 : Cond.instanceMethod ⟨"BellPlate", "cost", "(I)I"⟩ ∈ lw_ok := okm (tk_4 (List.mem_of_getElem? (l := tables_1_4) (i := 162) (by decide +kernel))) rfl
theorem w1002 : Cond.selects "BellPlate" ⟨"BellPlate", "cost", "(I)I"⟩ ⟨"BellPlate", "cost", "(I)I"⟩ ∈ lw_ok := okm (tk_4 (List.mem_of_getElem? (l := tables_1_4) (i := 163) (by decide +kernel))) rfl
theorem w1003 : Cond.code ⟨"BellPlate", "cost", "(I)I"⟩ prog_1_method_6_code 2 (some FieldType.int) ∈ lw_ok := okm (tk_4 (List.mem_of_getElem? (l := tables_1_4) (i := 164) (by decide +kernel))) rfl
theorem w1004 : Cond.methodLink "BellPlate" 140 ⟨"BellPlate$Tower", "hasSet", "(I)Z"⟩ ∈ lw_ok := okm (tk_4 (List.mem_of_getElem? (l := tables_1_4) (i := 165) (by decide +kernel))) rfl
theorem w1005 : Cond.instanceMethod ⟨"BellPlate$Tower", "hasSet", "(I)Z"⟩ ∈ lw_ok := okm (tk_4 (List.mem_of_getElem? (l := tables_1_4) (i := 166) (by decide +kernel))) rfl
theorem w1006 : Cond.selects "BellPlate$Tower" ⟨"BellPlate$Tower", "hasSet", "(I)Z"⟩ ⟨"BellPlate$Tower", "hasSet", "(I)Z"⟩ ∈ lw_ok := okm (tk_4 (List.mem_of_getElem? (l := tables_1_4) (i := 167) (by decide +kernel))) rfl
theorem w1007 : Cond.code ⟨"BellPlate$Tower", "hasSet", "(I)Z"⟩ prog_12_method_21_code 2 (some FieldType.boolean) ∈ lw_ok := okm (tk_4 (List.mem_of_getElem? (l := tables_1_4) (i := 168) (by decide +kernel))) rfl
theorem w1008 : Cond.methodLink "BellPlate" 143 ⟨"BellPlate$Tower", "costOf", "(I)I"⟩ ∈ lw_ok := okm (tk_4 (List.mem_of_getElem? (l := tables_1_4) (i := 169) (by decide +kernel))) rfl
theorem w1009 : Cond.instanceMethod ⟨"BellPlate$Tower", "costOf", "(I)I"⟩ ∈ lw_ok := okm (tk_4 (List.mem_of_getElem? (l := tables_1_4) (i := 170) (by decide +kernel))) rfl
theorem w1010 : Cond.selects "BellPlate$Tower" ⟨"BellPlate$Tower", "costOf", "(I)I"⟩ ⟨"BellPlate$Tower", "costOf", "(I)I"⟩ ∈ lw_ok := okm (tk_4 (List.mem_of_getElem? (l := tables_1_4) (i := 171) (by decide +kernel))) rfl
theorem w1011 : Cond.code ⟨"BellPlate$Tower", "costOf", "(I)I"⟩ prog_12_method_23_code 2 (some FieldType.int) ∈ lw_ok := okm (tk_4 (List.mem_of_getElem? (l := tables_1_4) (i := 172) (by decide +kernel))) rfl
theorem w1012 : Cond.methodLink "BellPlate$Tower" 67 ⟨"BellPlate$Tower", "hasSet", "(I)Z"⟩ ∈ lw_ok := okm (tk_4 (List.mem_of_getElem? (l := tables_1_4) (i := 173) (by decide +kernel))) rfl
theorem w1013 : Cond.methodLink "BellPlateLaw" 45 ⟨"BellPlate", "trial", "(IZ)I"⟩ ∈ lw_ok := okm (tk_4 (List.mem_of_getElem? (l := tables_1_4) (i := 174) (by decide +kernel))) rfl
theorem w1014 : Cond.instanceMethod ⟨"BellPlate", "trial", "(IZ)I"⟩ ∈ lw_ok := okm (tk_4 (List.mem_of_getElem? (l := tables_1_4) (i := 175) (by decide +kernel))) rfl
theorem w1015 : Cond.selects "BellPlate" ⟨"BellPlate", "trial", "(IZ)I"⟩ ⟨"BellPlate", "trial", "(IZ)I"⟩ ∈ lw_ok := okm (tk_4 (List.mem_of_getElem? (l := tables_1_4) (i := 176) (by decide +kernel))) rfl
theorem w1016 : Cond.code ⟨"BellPlate", "trial", "(IZ)I"⟩ prog_1_method_7_code 3 (some FieldType.int) ∈ lw_ok := okm (tk_4 (List.mem_of_getElem? (l := tables_1_4) (i := 177) (by decide +kernel))) rfl
theorem w1017 : Cond.methodLink "BellPlate" 146 ⟨"BellPlate$Book", "addTrial", "(IZ)I"⟩ ∈ lw_ok := okm (tk_4 (List.mem_of_getElem? (l := tables_1_4) (i := 178) (by decide +kernel))) rfl
theorem w1018 : Cond.instanceMethod ⟨"BellPlate$Book", "addTrial", "(IZ)I"⟩ ∈ lw_ok := okm (tk_4 (List.mem_of_getElem? (l := tables_1_4) (i := 179) (by decide +kernel))) rfl
theorem w1019 : Cond.selects "BellPlate$Book" ⟨"BellPlate$Book", "addTrial", "(IZ)I"⟩ ⟨"BellPlate$Book", "addTrial", "(IZ)I"⟩ ∈ lw_ok := okm (tk_4 (List.mem_of_getElem? (l := tables_1_4) (i := 180) (by decide +kernel))) rfl
theorem w1020 : Cond.code ⟨"BellPlate$Book", "addTrial", "(IZ)I"⟩ prog_2_method_9_code 3 (some FieldType.int) ∈ lw_ok := okm (tk_4 (List.mem_of_getElem? (l := tables_1_4) (i := 181) (by decide +kernel))) rfl
theorem w1021 : Cond.methodLink "BellPlateLaw" 50 ⟨"BellPlate", "hint", "(II)I"⟩ ∈ lw_ok := okm (tk_4 (List.mem_of_getElem? (l := tables_1_4) (i := 182) (by decide +kernel))) rfl
theorem w1022 : Cond.instanceMethod ⟨"BellPlate", "hint", "(II)I"⟩ ∈ lw_ok := okm (tk_4 (List.mem_of_getElem? (l := tables_1_4) (i := 183) (by decide +kernel))) rfl
theorem w1023 : Cond.selects "BellPlate" ⟨"BellPlate", "hint", "(II)I"⟩ ⟨"BellPlate", "hint", "(II)I"⟩ ∈ lw_ok := okm (tk_4 (List.mem_of_getElem? (l := tables_1_4) (i := 184) (by decide +kernel))) rfl
theorem w1024 : Cond.code ⟨"BellPlate", "hint", "(II)I"⟩ prog_1_method_8_code 3 (some FieldType.int) ∈ lw_ok := okm (tk_4 (List.mem_of_getElem? (l := tables_1_4) (i := 185) (by decide +kernel))) rfl
theorem w1025 : Cond.methodLink "BellPlate" 150 ⟨"BellPlate$Tower", "things", "()I"⟩ ∈ lw_ok := okm (tk_4 (List.mem_of_getElem? (l := tables_1_4) (i := 186) (by decide +kernel))) rfl
theorem w1026 : Cond.methodLink "BellPlate" 155 ⟨"BellPlate$Book", "addHint", "(II)I"⟩ ∈ lw_ok := okm (tk_4 (List.mem_of_getElem? (l := tables_1_4) (i := 187) (by decide +kernel))) rfl
theorem w1027 : Cond.instanceMethod ⟨"BellPlate$Book", "addHint", "(II)I"⟩ ∈ lw_ok := okm (tk_4 (List.mem_of_getElem? (l := tables_1_4) (i := 188) (by decide +kernel))) rfl
theorem w1028 : Cond.selects "BellPlate$Book" ⟨"BellPlate$Book", "addHint", "(II)I"⟩ ⟨"BellPlate$Book", "addHint", "(II)I"⟩ ∈ lw_ok := okm (tk_4 (List.mem_of_getElem? (l := tables_1_4) (i := 189) (by decide +kernel))) rfl
theorem w1029 : Cond.code ⟨"BellPlate$Book", "addHint", "(II)I"⟩ prog_2_method_10_code 3 (some FieldType.int) ∈ lw_ok := okm (tk_4 (List.mem_of_getElem? (l := tables_1_4) (i := 190) (by decide +kernel))) rfl
theorem w1030 : Cond.methodLink "BellPlateLaw" 55 ⟨"BellPlate", "left", "(I)I"⟩ ∈ lw_ok := okm (tk_4 (List.mem_of_getElem? (l := tables_1_4) (i := 191) (by decide +kernel))) rfl
theorem w1031 : Cond.instanceMethod ⟨"BellPlate", "left", "(I)I"⟩ ∈ lw_ok := okm (tk_4 (List.mem_of_getElem? (l := tables_1_4) (i := 192) (by decide +kernel))) rfl
theorem w1032 : Cond.selects "BellPlate" ⟨"BellPlate", "left", "(I)I"⟩ ⟨"BellPlate", "left", "(I)I"⟩ ∈ lw_ok := okm (tk_4 (List.mem_of_getElem? (l := tables_1_4) (i := 193) (by decide +kernel))) rfl
theorem w1033 : Cond.code ⟨"BellPlate", "left", "(I)I"⟩ prog_1_method_9_code 2 (some FieldType.int) ∈ lw_ok := okm (tk_4 (List.mem_of_getElem? (l := tables_1_4) (i := 194) (by decide +kernel))) rfl
theorem w1034 : Cond.methodLink "BellPlate" 159 ⟨"BellPlate$Rest", "refresh", "()V"⟩ ∈ lw_ok := okm (tk_4 (List.mem_of_getElem? (l := tables_1_4) (i := 195) (by decide +kernel))) rfl
theorem w1035 : Cond.instanceMethod ⟨"BellPlate$Rest", "refresh", "()V"⟩ ∈ lw_ok := okm (tk_4 (List.mem_of_getElem? (l := tables_1_4) (i := 196) (by decide +kernel))) rfl
theorem w1036 : Cond.selects "BellPlate$Rest" ⟨"BellPlate$Rest", "refresh", "()V"⟩ ⟨"BellPlate$Rest", "refresh", "()V"⟩ ∈ lw_ok := okm (tk_4 (List.mem_of_getElem? (l := tables_1_4) (i := 197) (by decide +kernel))) rfl
theorem w1037 : Cond.code ⟨"BellPlate$Rest", "refresh", "()V"⟩ prog_10_method_2_code 8 (none) ∈ lw_ok := okm (tk_4 (List.mem_of_getElem? (l := tables_1_4) (i := 198) (by decide +kernel))) rfl
theorem w1038 : Cond.methodLink "BellPlate$Rest" 36 ⟨"BellPlate$Book", "age", "()I"⟩ ∈ lw_ok := okm (tk_4 (List.mem_of_getElem? (l := tables_1_4) (i := 199) (by decide +kernel))) rfl
theorem w1039 : Cond.instanceMethod ⟨"BellPlate$Book", "age", "()I"⟩ ∈ lw_ok := okm (tk_4 (List.mem_of_getElem? (l := tables_1_4) (i := 200) (by decide +kernel))) rfl
theorem w1040 : Cond.selects "BellPlate$Book" ⟨"BellPlate$Book", "age", "()I"⟩ ⟨"BellPlate$Book", "age", "()I"⟩ ∈ lw_ok := okm (tk_4 (List.mem_of_getElem? (l := tables_1_4) (i := 201) (by decide +kernel))) rfl
theorem w1041 : Cond.code ⟨"BellPlate$Book", "age", "()I"⟩ prog_2_method_4_code 1 (some FieldType.int) ∈ lw_ok := okm (tk_4 (List.mem_of_getElem? (l := tables_1_4) (i := 202) (by decide +kernel))) rfl
theorem w1042 : Cond.methodLink "BellPlate$Rest" 41 ⟨"BellPlate$Lists", "room", "()I"⟩ ∈ lw_ok := okm (tk_4 (List.mem_of_getElem? (l := tables_1_4) (i := 203) (by decide +kernel))) rfl
theorem w1043 : Cond.instanceMethod ⟨"BellPlate$Lists", "room", "()I"⟩ ∈ lw_ok := okm (tk_4 (List.mem_of_getElem? (l := tables_1_4) (i := 204) (by decide +kernel))) rfl
theorem w1044 : Cond.selects "BellPlate$Lists" ⟨"BellPlate$Lists", "room", "()I"⟩ ⟨"BellPlate$Lists", "room", "()I"⟩ ∈ lw_ok := okm (tk_4 (List.mem_of_getElem? (l := tables_1_4) (i := 205) (by decide +kernel))) rfl
theorem w1045 : Cond.code ⟨"BellPlate$Lists", "room", "()I"⟩ prog_6_method_4_code 1 (some FieldType.int) ∈ lw_ok := okm (tk_4 (List.mem_of_getElem? (l := tables_1_4) (i := 206) (by decide +kernel))) rfl
theorem w1046 : Cond.methodLink "BellPlate$Rest" 46 ⟨"BellPlate$Book", "setsTold", "(ZI)J"⟩ ∈ lw_ok := okm (tk_4 (List.mem_of_getElem? (l := tables_1_4) (i := 207) (by decide +kernel))) rfl
theorem w1047 : Cond.instanceMethod ⟨"BellPlate$Book", "setsTold", "(ZI)J"⟩ ∈ lw_ok := okm (tk_4 (List.mem_of_getElem? (l := tables_1_4) (i := 208) (by decide +kernel))) rfl
theorem w1048 : Cond.selects "BellPlate$Book" ⟨"BellPlate$Book", "setsTold", "(ZI)J"⟩ ⟨"BellPlate$Book", "setsTold", "(ZI)J"⟩ ∈ lw_ok := okm (tk_4 (List.mem_of_getElem? (l := tables_1_4) (i := 209) (by decide +kernel))) rfl
theorem w1049 : Cond.code ⟨"BellPlate$Book", "setsTold", "(ZI)J"⟩ prog_2_method_14_code 6 (some FieldType.long) ∈ lw_ok := okm (tk_4 (List.mem_of_getElem? (l := tables_1_4) (i := 210) (by decide +kernel))) rfl
theorem w1050 : Cond.constantLong "BellPlate$Rest" 60 (-1) ∈ lw_ok := okm (tk_4 (List.mem_of_getElem? (l := tables_1_4) (i := 211) (by decide +kernel))) rfl
theorem w1051 : Cond.methodLink "BellPlate$Rest" 65 ⟨"BellPlate$Lists", "size", "()I"⟩ ∈ lw_ok := okm (tk_4 (List.mem_of_getElem? (l := tables_1_4) (i := 212) (by decide +kernel))) rfl
theorem w1052 : Cond.instanceMethod ⟨"BellPlate$Lists", "size", "()I"⟩ ∈ lw_ok := okm (tk_4 (List.mem_of_getElem? (l := tables_1_4) (i := 213) (by decide +kernel))) rfl
theorem w1053 : Cond.selects "BellPlate$Lists" ⟨"BellPlate$Lists", "size", "()I"⟩ ⟨"BellPlate$Lists", "size", "()I"⟩ ∈ lw_ok := okm (tk_4 (List.mem_of_getElem? (l := tables_1_4) (i := 214) (by decide +kernel))) rfl
theorem w1054 : Cond.code ⟨"BellPlate$Lists", "size", "()I"⟩ prog_6_method_2_code 1 (some FieldType.int) ∈ lw_ok := okm (tk_4 (List.mem_of_getElem? (l := tables_1_4) (i := 215) (by decide +kernel))) rfl
theorem w1055 : Cond.methodLink "BellPlate$Rest" 67 ⟨"BellPlate$Lists", "at", "(I)J"⟩ ∈ lw_ok := okm (tk_4 (List.mem_of_getElem? (l := tables_1_4) (i := 216) (by decide +kernel))) rfl
theorem w1056 : Cond.methodLink "BellPlate$Rest" 71 ⟨"BellPlate$Book", "hintsHold", "(J)Z"⟩ ∈ lw_ok := okm (tk_4 (List.mem_of_getElem? (l := tables_1_4) (i := 217) (by decide +kernel))) rfl
theorem w1057 : Cond.instanceMethod ⟨"BellPlate$Book", "hintsHold", "(J)Z"⟩ ∈ lw_ok := okm (tk_4 (List.mem_of_getElem? (l := tables_1_4) (i := 218) (by decide +kernel))) rfl
theorem w1058 : Cond.selects "BellPlate$Book" ⟨"BellPlate$Book", "hintsHold", "(J)Z"⟩ ⟨"BellPlate$Book", "hintsHold", "(J)Z"⟩ ∈ lw_ok := okm (tk_4 (List.mem_of_getElem? (l := tables_1_4) (i := 219) (by decide +kernel))) rfl
theorem w1059 : Cond.code ⟨"BellPlate$Book", "hintsHold", "(J)Z"⟩ prog_2_method_15_code 4 (some FieldType.boolean) ∈ lw_ok := okm (tk_4 (List.mem_of_getElem? (l := tables_1_4) (i := 220) (by decide +kernel))) rfl
theorem w1060 : Cond.methodLink "BellPlate$Book" 57 ⟨"BellPlate$Sets", "ofSize", "(I)J"⟩ ∈ lw_ok := okm (tk_4 (List.mem_of_getElem? (l := tables_1_4) (i := 221) (by decide +kernel))) rfl
theorem w1061 : Cond.static ⟨"BellPlate$Sets", "ofSize", "(I)J"⟩ ∈ lw_ok := okm (tk_4 (List.mem_of_getElem? (l := tables_1_4) (i := 222) (by decide +kernel))) rfl
theorem w1062 : Cond.code ⟨"BellPlate$Sets", "ofSize", "(I)J"⟩ prog_11_method_3_code 1 (some FieldType.long) ∈ lw_ok := okm (tk_4 (List.mem_of_getElem? (l := tables_1_4) (i := 223) (by decide +kernel))) rfl
theorem w1063 : Cond.fieldLink "BellPlate$Sets" 9 "BellPlate$Sets" "OF_SIZE" "[J" ∈ lw_ok := okm (tk_4 (List.mem_of_getElem? (l := tables_1_4) (i := 224) (by decide +kernel))) rfl
theorem w1065 : Cond.methodLink "BellPlate$Book" 63 ⟨"java/lang/Long", "bitCount", "(J)I"⟩ ∈ lw_ok := okm (tk_4 (List.mem_of_getElem? (l := tables_1_4) (i := 226) (by decide +kernel))) rfl
theorem w1066 : Cond.static ⟨"java/lang/Long", "bitCount", "(J)I"⟩ ∈ lw_ok := okm (tk_4 (List.mem_of_getElem? (l := tables_1_4) (i := 227) (by decide +kernel))) rfl
theorem w1067 : Cond.code ⟨"java/lang/Long", "bitCount", "(J)I"⟩ prog_21_method_50_code 2 (some FieldType.int) ∈ lw_ok := okm (tk_4 (List.mem_of_getElem? (l := tables_1_4) (i := 228) (by decide +kernel))) rfl
theorem w1068 : Cond.constantLong "java/lang/Long" 314 6148914691236517205 ∈ lw_ok := okm (tk_4 (List.mem_of_getElem? (l := tables_1_4) (i := 229) (by decide +kernel))) rfl
theorem w1069 : Cond.constantLong "java/lang/Long" 316 3689348814741910323 ∈ lw_ok := okm (tk_4 (List.mem_of_getElem? (l := tables_1_4) (i := 230) (by decide +kernel))) rfl
theorem w1070 : Cond.constantLong "java/lang/Long" 318 1085102592571150095 ∈ lw_ok := okm (tk_4 (List.mem_of_getElem? (l := tables_1_4) (i := 231) (by decide +kernel))) rfl
theorem w1071 : Cond.methodLink "BellPlate$Rest" 75 ⟨"BellPlate$Rest", "keep", "(IJ)V"⟩ ∈ lw_ok := okm (tk_4 (List.mem_of_getElem? (l := tables_1_4) (i := 232) (by decide +kernel))) rfl
theorem w1073 : Cond.instanceMethod ⟨"BellPlate$Rest", "keep", "(IJ)V"⟩ ∈ lw_ok := okm (tk_4 (List.mem_of_getElem? (l := tables_1_4) (i := 234) (by decide +kernel))) rfl
theorem w1074 : Cond.code ⟨"BellPlate$Rest", "keep", "(IJ)V"⟩ prog_10_method_3_code 4 (none) ∈ lw_ok := okm (tk_4 (List.mem_of_getElem? (l := tables_1_4) (i := 235) (by decide +kernel))) rfl
theorem w1075 : Cond.methodLink "BellPlate$Rest" 79 ⟨"BellPlate$Lists", "share", "(I)I"⟩ ∈ lw_ok := okm (tk_4 (List.mem_of_getElem? (l := tables_1_4) (i := 236) (by decide +kernel))) rfl
theorem w1076 : Cond.instanceMethod ⟨"BellPlate$Lists", "share", "(I)I"⟩ ∈ lw_ok := okm (tk_4 (List.mem_of_getElem? (l := tables_1_4) (i := 237) (by decide +kernel))) rfl
theorem w1077 : Cond.selects "BellPlate$Lists" ⟨"BellPlate$Lists", "share", "(I)I"⟩ ⟨"BellPlate$Lists", "share", "(I)I"⟩ ∈ lw_ok := okm (tk_4 (List.mem_of_getElem? (l := tables_1_4) (i := 238) (by decide +kernel))) rfl
theorem w1078 : Cond.code ⟨"BellPlate$Lists", "share", "(I)I"⟩ prog_6_method_6_code 2 (some FieldType.int) ∈ lw_ok := okm (tk_4 (List.mem_of_getElem? (l := tables_1_4) (i := 239) (by decide +kernel))) rfl
theorem w1079 : Cond.methodLink "BellPlate" 162 ⟨"BellPlate$Rest", "weights", "()I"⟩ ∈ lw_ok := okm (tk_5 (List.mem_of_getElem? (l := tables_1_5) (i := 0) (by decide +kernel))) rfl
theorem w1080 : Cond.instanceMethod ⟨"BellPlate$Rest", "weights", "()I"⟩ ∈ lw_ok := okm (tk_5 (List.mem_of_getElem? (l := tables_1_5) (i := 1) (by decide +kernel))) rfl
theorem w1081 : Cond.selects "BellPlate$Rest" ⟨"BellPlate$Rest", "weights", "()I"⟩ ⟨"BellPlate$Rest", "weights", "()I"⟩ ∈ lw_ok := okm (tk_5 (List.mem_of_getElem? (l := tables_1_5) (i := 2) (by decide +kernel))) rfl
theorem w1082 : Cond.code ⟨"BellPlate$Rest", "weights", "()I"⟩ prog_10_method_5_code 1 (some FieldType.int) ∈ lw_ok := okm (tk_5 (List.mem_of_getElem? (l := tables_1_5) (i := 3) (by decide +kernel))) rfl
theorem w1083 : Cond.methodLink "BellPlate" 165 ⟨"BellPlate$Rest", "size", "()I"⟩ ∈ lw_ok := okm (tk_5 (List.mem_of_getElem? (l := tables_1_5) (i := 4) (by decide +kernel))) rfl
theorem w1084 : Cond.instanceMethod ⟨"BellPlate$Rest", "size", "()I"⟩ ∈ lw_ok := okm (tk_5 (List.mem_of_getElem? (l := tables_1_5) (i := 5) (by decide +kernel))) rfl
theorem w1085 : Cond.selects "BellPlate$Rest" ⟨"BellPlate$Rest", "size", "()I"⟩ ⟨"BellPlate$Rest", "size", "()I"⟩ ∈ lw_ok := okm (tk_5 (List.mem_of_getElem? (l := tables_1_5) (i := 6) (by decide +kernel))) rfl
theorem w1086 : Cond.code ⟨"BellPlate$Rest", "size", "()I"⟩ prog_10_method_4_code 1 (some FieldType.int) ∈ lw_ok := okm (tk_5 (List.mem_of_getElem? (l := tables_1_5) (i := 7) (by decide +kernel))) rfl
theorem w1087 : Cond.methodLink "BellPlate" 166 ⟨"BellPlate$Rest", "leastWeights", "()I"⟩ ∈ lw_ok := okm (tk_5 (List.mem_of_getElem? (l := tables_1_5) (i := 8) (by decide +kernel))) rfl
theorem w1088 : Cond.instanceMethod ⟨"BellPlate$Rest", "leastWeights", "()I"⟩ ∈ lw_ok := okm (tk_5 (List.mem_of_getElem? (l := tables_1_5) (i := 9) (by decide +kernel))) rfl
theorem w1089 : Cond.selects "BellPlate$Rest" ⟨"BellPlate$Rest", "leastWeights", "()I"⟩ ⟨"BellPlate$Rest", "leastWeights", "()I"⟩ ∈ lw_ok := okm (tk_5 (List.mem_of_getElem? (l := tables_1_5) (i := 10) (by decide +kernel))) rfl
theorem w1090 : Cond.code ⟨"BellPlate$Rest", "leastWeights", "()I"⟩ prog_10_method_11_code 2 (some FieldType.int) ∈ lw_ok := okm (tk_5 (List.mem_of_getElem? (l := tables_1_5) (i := 11) (by decide +kernel))) rfl
theorem w1091 : Cond.methodLink "BellPlate$Rest" 83 ⟨"BellPlate$Lists", "numberOf", "(I)I"⟩ ∈ lw_ok := okm (tk_5 (List.mem_of_getElem? (l := tables_1_5) (i := 12) (by decide +kernel))) rfl
theorem w1092 : Cond.methodLink "BellPlateLaw" 59 ⟨"BellPlate", "sure", "(I)I"⟩ ∈ lw_ok := okm (tk_5 (List.mem_of_getElem? (l := tables_1_5) (i := 13) (by decide +kernel))) rfl
theorem w1093 : Cond.instanceMethod ⟨"BellPlate", "sure", "(I)I"⟩ ∈ lw_ok := okm (tk_5 (List.mem_of_getElem? (l := tables_1_5) (i := 14) (by decide +kernel))) rfl
theorem w1094 : Cond.selects "BellPlate" ⟨"BellPlate", "sure", "(I)I"⟩ ⟨"BellPlate", "sure", "(I)I"⟩ ∈ lw_ok := okm (tk_5 (List.mem_of_getElem? (l := tables_1_5) (i := 15) (by decide +kernel))) rfl
theorem w1095 : Cond.code ⟨"BellPlate", "sure", "(I)I"⟩ prog_1_method_10_code 2 (some FieldType.int) ∈ lw_ok := okm (tk_5 (List.mem_of_getElem? (l := tables_1_5) (i := 16) (by decide +kernel))) rfl
theorem w1096 : Cond.methodLink "BellPlate" 169 ⟨"BellPlate$Rest", "every", "()J"⟩ ∈ lw_ok := okm (tk_5 (List.mem_of_getElem? (l := tables_1_5) (i := 17) (by decide +kernel))) rfl
theorem w1097 : Cond.instanceMethod ⟨"BellPlate$Rest", "every", "()J"⟩ ∈ lw_ok := okm (tk_5 (List.mem_of_getElem? (l := tables_1_5) (i := 18) (by decide +kernel))) rfl
theorem w1098 : Cond.selects "BellPlate$Rest" ⟨"BellPlate$Rest", "every", "()J"⟩ ⟨"BellPlate$Rest", "every", "()J"⟩ ∈ lw_ok := okm (tk_5 (List.mem_of_getElem? (l := tables_1_5) (i := 19) (by decide +kernel))) rfl
theorem w1099 : Cond.code ⟨"BellPlate$Rest", "every", "()J"⟩ prog_10_method_7_code 1 (some FieldType.long) ∈ lw_ok := okm (tk_5 (List.mem_of_getElem? (l := tables_1_5) (i := 20) (by decide +kernel))) rfl
theorem w1100 : Cond.methodLink "BellPlate" 173 ⟨"BellPlate$Sets", "has", "(JI)Z"⟩ ∈ lw_ok := okm (tk_5 (List.mem_of_getElem? (l := tables_1_5) (i := 21) (by decide +kernel))) rfl
theorem w1101 : Cond.static ⟨"BellPlate$Sets", "has", "(JI)Z"⟩ ∈ lw_ok := okm (tk_5 (List.mem_of_getElem? (l := tables_1_5) (i := 22) (by decide +kernel))) rfl
theorem w1102 : Cond.code ⟨"BellPlate$Sets", "has", "(JI)Z"⟩ prog_11_method_2_code 3 (some FieldType.boolean) ∈ lw_ok := okm (tk_5 (List.mem_of_getElem? (l := tables_1_5) (i := 23) (by decide +kernel))) rfl
theorem w1103 : Cond.methodLink "BellPlate" 177 ⟨"BellPlate$Rest", "some", "()J"⟩ ∈ lw_ok := okm (tk_5 (List.mem_of_getElem? (l := tables_1_5) (i := 24) (by decide +kernel))) rfl
theorem w1104 : Cond.instanceMethod ⟨"BellPlate$Rest", "some", "()J"⟩ ∈ lw_ok := okm (tk_5 (List.mem_of_getElem? (l := tables_1_5) (i := 25) (by decide +kernel))) rfl
theorem w1105 : Cond.selects "BellPlate$Rest" ⟨"BellPlate$Rest", "some", "()J"⟩ ⟨"BellPlate$Rest", "some", "()J"⟩ ∈ lw_ok := okm (tk_5 (List.mem_of_getElem? (l := tables_1_5) (i := 26) (by decide +kernel))) rfl
theorem w1106 : Cond.code ⟨"BellPlate$Rest", "some", "()J"⟩ prog_10_method_6_code 1 (some FieldType.long) ∈ lw_ok := okm (tk_5 (List.mem_of_getElem? (l := tables_1_5) (i := 27) (by decide +kernel))) rfl
theorem w1107 : Cond.methodLink "BellPlateLaw" 63 ⟨"BellPlate", "matters", "(I)I"⟩ ∈ lw_ok := okm (tk_5 (List.mem_of_getElem? (l := tables_1_5) (i := 28) (by decide +kernel))) rfl
theorem w1108 : Cond.instanceMethod ⟨"BellPlate", "matters", "(I)I"⟩ ∈ lw_ok := okm (tk_5 (List.mem_of_getElem? (l := tables_1_5) (i := 29) (by decide +kernel))) rfl
theorem w1109 : Cond.selects "BellPlate" ⟨"BellPlate", "matters", "(I)I"⟩ ⟨"BellPlate", "matters", "(I)I"⟩ ∈ lw_ok := okm (tk_5 (List.mem_of_getElem? (l := tables_1_5) (i := 30) (by decide +kernel))) rfl
theorem w1110 : Cond.code ⟨"BellPlate", "matters", "(I)I"⟩ prog_1_method_11_code 2 (some FieldType.int) ∈ lw_ok := okm (tk_5 (List.mem_of_getElem? (l := tables_1_5) (i := 31) (by decide +kernel))) rfl
theorem w1111 : Cond.methodLink "BellPlate" 180 ⟨"BellPlate$Tower", "hasThing", "(I)Z"⟩ ∈ lw_ok := okm (tk_5 (List.mem_of_getElem? (l := tables_1_5) (i := 32) (by decide +kernel))) rfl
theorem w1112 : Cond.instanceMethod ⟨"BellPlate$Tower", "hasThing", "(I)Z"⟩ ∈ lw_ok := okm (tk_5 (List.mem_of_getElem? (l := tables_1_5) (i := 33) (by decide +kernel))) rfl
theorem w1113 : Cond.selects "BellPlate$Tower" ⟨"BellPlate$Tower", "hasThing", "(I)Z"⟩ ⟨"BellPlate$Tower", "hasThing", "(I)Z"⟩ ∈ lw_ok := okm (tk_5 (List.mem_of_getElem? (l := tables_1_5) (i := 34) (by decide +kernel))) rfl
theorem w1114 : Cond.code ⟨"BellPlate$Tower", "hasThing", "(I)Z"⟩ prog_12_method_22_code 2 (some FieldType.boolean) ∈ lw_ok := okm (tk_5 (List.mem_of_getElem? (l := tables_1_5) (i := 35) (by decide +kernel))) rfl
theorem w1115 : Cond.methodLink "BellPlate" 183 ⟨"BellPlate$Planner", "allOrNone", "(II)I"⟩ ∈ lw_ok := okm (tk_5 (List.mem_of_getElem? (l := tables_1_5) (i := 36) (by decide +kernel))) rfl
theorem w1116 : Cond.instanceMethod ⟨"BellPlate$Planner", "allOrNone", "(II)I"⟩ ∈ lw_ok := okm (tk_5 (List.mem_of_getElem? (l := tables_1_5) (i := 37) (by decide +kernel))) rfl
theorem w1117 : Cond.selects "BellPlate$Planner" ⟨"BellPlate$Planner", "allOrNone", "(II)I"⟩ ⟨"BellPlate$Planner", "allOrNone", "(II)I"⟩ ∈ lw_ok := okm (tk_5 (List.mem_of_getElem? (l := tables_1_5) (i := 38) (by decide +kernel))) rfl
theorem w1118 : Cond.code ⟨"BellPlate$Planner", "allOrNone", "(II)I"⟩ prog_7_method_3_code 5 (some FieldType.int) ∈ lw_ok := okm (tk_5 (List.mem_of_getElem? (l := tables_1_5) (i := 39) (by decide +kernel))) rfl
theorem w1119 : Cond.methodLink "BellPlate$Planner" 58 ⟨"BellPlate$Rest", "size", "()I"⟩ ∈ lw_ok := okm (tk_5 (List.mem_of_getElem? (l := tables_1_5) (i := 40) (by decide +kernel))) rfl
theorem w1120 : Cond.methodLink "BellPlate$Planner" 64 ⟨"BellPlate$Rest", "listAt", "(I)J"⟩ ∈ lw_ok := okm (tk_5 (List.mem_of_getElem? (l := tables_1_5) (i := 41) (by decide +kernel))) rfl
theorem w1121 : Cond.instanceMethod ⟨"BellPlate$Rest", "listAt", "(I)J"⟩ ∈ lw_ok := okm (tk_5 (List.mem_of_getElem? (l := tables_1_5) (i := 42) (by decide +kernel))) rfl
theorem w1122 : Cond.selects "BellPlate$Rest" ⟨"BellPlate$Rest", "listAt", "(I)J"⟩ ⟨"BellPlate$Rest", "listAt", "(I)J"⟩ ∈ lw_ok := okm (tk_5 (List.mem_of_getElem? (l := tables_1_5) (i := 43) (by decide +kernel))) rfl
theorem w1123 : Cond.code ⟨"BellPlate$Rest", "listAt", "(I)J"⟩ prog_10_method_9_code 2 (some FieldType.long) ∈ lw_ok := okm (tk_5 (List.mem_of_getElem? (l := tables_1_5) (i := 44) (by decide +kernel))) rfl
theorem w1124 : Cond.methodLink "BellPlate$Planner" 68 ⟨"BellPlate$Planner", "answer", "(IIJI)I"⟩ ∈ lw_ok := okm (tk_5 (List.mem_of_getElem? (l := tables_1_5) (i := 45) (by decide +kernel))) rfl
theorem w1125 : Cond.static ⟨"BellPlate$Planner", "answer", "(IIJI)I"⟩ ∈ lw_ok := okm (tk_5 (List.mem_of_getElem? (l := tables_1_5) (i := 46) (by decide +kernel))) rfl
theorem w1126 : Cond.code ⟨"BellPlate$Planner", "answer", "(IIJI)I"⟩ prog_7_method_2_code 5 (some FieldType.int) ∈ lw_ok := okm (tk_5 (List.mem_of_getElem? (l := tables_1_5) (i := 47) (by decide +kernel))) rfl
theorem w1127 : Cond.methodLink "BellPlate$Planner" 38 ⟨"BellPlate$Sets", "swung", "(JI)J"⟩ ∈ lw_ok := okm (tk_5 (List.mem_of_getElem? (l := tables_1_5) (i := 48) (by decide +kernel))) rfl
theorem w1128 : Cond.static ⟨"BellPlate$Sets", "swung", "(JI)J"⟩ ∈ lw_ok := okm (tk_5 (List.mem_of_getElem? (l := tables_1_5) (i := 49) (by decide +kernel))) rfl
theorem w1129 : Cond.code ⟨"BellPlate$Sets", "swung", "(JI)J"⟩ prog_11_method_4_code 3 (some FieldType.long) ∈ lw_ok := okm (tk_5 (List.mem_of_getElem? (l := tables_1_5) (i := 50) (by decide +kernel))) rfl
theorem w1130 : Cond.constantLong "BellPlate$Sets" 15 (-1) ∈ lw_ok := okm (tk_5 (List.mem_of_getElem? (l := tables_1_5) (i := 51) (by decide +kernel))) rfl
theorem w1131 : Cond.fieldLink "BellPlate$Sets" 17 "BellPlate$Sets" "WITHOUT" "[J" ∈ lw_ok := okm (tk_5 (List.mem_of_getElem? (l := tables_1_5) (i := 52) (by decide +kernel))) rfl
theorem w1133 : Cond.methodLink "BellPlate$Planner" 44 ⟨"BellPlate$Sets", "swappable", "(JII)Z"⟩ ∈ lw_ok := okm (tk_5 (List.mem_of_getElem? (l := tables_1_5) (i := 54) (by decide +kernel))) rfl
theorem w1134 : Cond.static ⟨"BellPlate$Sets", "swappable", "(JII)Z"⟩ ∈ lw_ok := okm (tk_5 (List.mem_of_getElem? (l := tables_1_5) (i := 55) (by decide +kernel))) rfl
theorem w1135 : Cond.code ⟨"BellPlate$Sets", "swappable", "(JII)Z"⟩ prog_11_method_5_code 9 (some FieldType.boolean) ∈ lw_ok := okm (tk_5 (List.mem_of_getElem? (l := tables_1_5) (i := 56) (by decide +kernel))) rfl
theorem w1136 : Cond.methodLink "BellPlate$Sets" 20 ⟨"java/lang/Math", "min", "(II)I"⟩ ∈ lw_ok := okm (tk_5 (List.mem_of_getElem? (l := tables_1_5) (i := 57) (by decide +kernel))) rfl
theorem w1137 : Cond.methodLink "BellPlate$Sets" 26 ⟨"java/lang/Math", "max", "(II)I"⟩ ∈ lw_ok := okm (tk_5 (List.mem_of_getElem? (l := tables_1_5) (i := 58) (by decide +kernel))) rfl
theorem w1138 : Cond.methodLink "BellPlate$Planner" 48 ⟨"BellPlate$Sets", "has", "(JI)Z"⟩ ∈ lw_ok := okm (tk_5 (List.mem_of_getElem? (l := tables_1_5) (i := 59) (by decide +kernel))) rfl
theorem w1139 : Cond.methodLink "BellPlate$Planner" 52 ⟨"java/lang/Long", "bitCount", "(J)I"⟩ ∈ lw_ok := okm (tk_5 (List.mem_of_getElem? (l := tables_1_5) (i := 60) (by decide +kernel))) rfl
theorem w1140 : Cond.methodLink "BellPlateLaw" 67 ⟨"BellPlate", "alike", "(II)I"⟩ ∈ lw_ok := okm (tk_5 (List.mem_of_getElem? (l := tables_1_5) (i := 61) (by decide +kernel))) rfl
theorem w1141 : Cond.instanceMethod ⟨"BellPlate", "alike", "(II)I"⟩ ∈ lw_ok := okm (tk_5 (List.mem_of_getElem? (l := tables_1_5) (i := 62) (by decide +kernel))) rfl
theorem w1142 : Cond.selects "BellPlate" ⟨"BellPlate", "alike", "(II)I"⟩ ⟨"BellPlate", "alike", "(II)I"⟩ ∈ lw_ok := okm (tk_5 (List.mem_of_getElem? (l := tables_1_5) (i := 63) (by decide +kernel))) rfl
theorem w1143 : Cond.code ⟨"BellPlate", "alike", "(II)I"⟩ prog_1_method_12_code 3 (some FieldType.int) ∈ lw_ok := okm (tk_5 (List.mem_of_getElem? (l := tables_1_5) (i := 64) (by decide +kernel))) rfl
theorem w1144 : Cond.methodLink "BellPlateLaw" 71 ⟨"BellPlate", "next", "(I)I"⟩ ∈ lw_ok := okm (tk_5 (List.mem_of_getElem? (l := tables_1_5) (i := 65) (by decide +kernel))) rfl
theorem w1145 : Cond.instanceMethod ⟨"BellPlate", "next", "(I)I"⟩ ∈ lw_ok := okm (tk_5 (List.mem_of_getElem? (l := tables_1_5) (i := 66) (by decide +kernel))) rfl
theorem w1146 : Cond.selects "BellPlate" ⟨"BellPlate", "next", "(I)I"⟩ ⟨"BellPlate", "next", "(I)I"⟩ ∈ lw_ok := okm (tk_5 (List.mem_of_getElem? (l := tables_1_5) (i := 67) (by decide +kernel))) rfl
theorem w1147 : Cond.code ⟨"BellPlate", "next", "(I)I"⟩ prog_1_method_13_code 2 (some FieldType.int) ∈ lw_ok := okm (tk_5 (List.mem_of_getElem? (l := tables_1_5) (i := 68) (by decide +kernel))) rfl
theorem w1148 : Cond.methodLink "BellPlate" 186 ⟨"BellPlate$Chooser", "isWay", "(I)Z"⟩ ∈ lw_ok := okm (tk_5 (List.mem_of_getElem? (l := tables_1_5) (i := 69) (by decide +kernel))) rfl
theorem w1149 : Cond.static ⟨"BellPlate$Chooser", "isWay", "(I)Z"⟩ ∈ lw_ok := okm (tk_5 (List.mem_of_getElem? (l := tables_1_5) (i := 70) (by decide +kernel))) rfl
theorem w1150 : Cond.code ⟨"BellPlate$Chooser", "isWay", "(I)Z"⟩ prog_3_method_2_code 1 (some FieldType.boolean) ∈ lw_ok := okm (tk_5 (List.mem_of_getElem? (l := tables_1_5) (i := 71) (by decide +kernel))) rfl
theorem w1151 : Cond.methodLink "BellPlate" 189 ⟨"BellPlate$Rest", "row", "()[I"⟩ ∈ lw_ok := okm (tk_5 (List.mem_of_getElem? (l := tables_1_5) (i := 72) (by decide +kernel))) rfl
theorem w1152 : Cond.instanceMethod ⟨"BellPlate$Rest", "row", "()[I"⟩ ∈ lw_ok := okm (tk_5 (List.mem_of_getElem? (l := tables_1_5) (i := 73) (by decide +kernel))) rfl
theorem w1153 : Cond.selects "BellPlate$Rest" ⟨"BellPlate$Rest", "row", "()[I"⟩ ⟨"BellPlate$Rest", "row", "()[I"⟩ ∈ lw_ok := okm (tk_5 (List.mem_of_getElem? (l := tables_1_5) (i := 74) (by decide +kernel))) rfl
theorem w1154 : Cond.code ⟨"BellPlate$Rest", "row", "()[I"⟩ prog_10_method_8_code 1 (some (FieldType.array FieldType.int)) ∈ lw_ok := okm (tk_5 (List.mem_of_getElem? (l := tables_1_5) (i := 75) (by decide +kernel))) rfl
theorem w1155 : Cond.methodLink "BellPlate" 193 ⟨"BellPlate$Chooser", "pick", "([IIII)I"⟩ ∈ lw_ok := okm (tk_5 (List.mem_of_getElem? (l := tables_1_5) (i := 76) (by decide +kernel))) rfl
theorem w1156 : Cond.instanceMethod ⟨"BellPlate$Chooser", "pick", "([IIII)I"⟩ ∈ lw_ok := okm (tk_5 (List.mem_of_getElem? (l := tables_1_5) (i := 77) (by decide +kernel))) rfl
theorem w1157 : Cond.selects "BellPlate$Chooser" ⟨"BellPlate$Chooser", "pick", "([IIII)I"⟩ ⟨"BellPlate$Chooser", "pick", "([IIII)I"⟩ ∈ lw_ok := okm (tk_5 (List.mem_of_getElem? (l := tables_1_5) (i := 78) (by decide +kernel))) rfl
theorem w1158 : Cond.code ⟨"BellPlate$Chooser", "pick", "([IIII)I"⟩ prog_3_method_3_code 14 (some FieldType.int) ∈ lw_ok := okm (tk_5 (List.mem_of_getElem? (l := tables_1_5) (i := 79) (by decide +kernel))) rfl
theorem w1159 : Cond.methodLink "BellPlate$Chooser" 65 ⟨"java/util/Arrays", "fill", "([JJ)V"⟩ ∈ lw_ok := okm (tk_5 (List.mem_of_getElem? (l := tables_1_5) (i := 80) (by decide +kernel))) rfl
theorem w1160 : Cond.static ⟨"java/util/Arrays", "fill", "([JJ)V"⟩ ∈ lw_ok := okm (tk_5 (List.mem_of_getElem? (l := tables_1_5) (i := 81) (by decide +kernel))) rfl
theorem w1161 : Cond.code ⟨"java/util/Arrays", "fill", "([JJ)V"⟩ prog_31_method_101_code 5 (none) ∈ lw_ok := okm (tk_5 (List.mem_of_getElem? (l := tables_1_5) (i := 82) (by decide +kernel))) rfl
theorem w1162 : Cond.constantLong "BellPlate$Chooser" 68 (-1) ∈ lw_ok := okm (tk_5 (List.mem_of_getElem? (l := tables_1_5) (i := 83) (by decide +kernel))) rfl
theorem w1163 : Cond.methodLink "BellPlate$Chooser" 70 ⟨"BellPlate$Lists", "at", "(I)J"⟩ ∈ lw_ok := okm (tk_5 (List.mem_of_getElem? (l := tables_1_5) (i := 84) (by decide +kernel))) rfl
theorem w1164 : Cond.methodLink "BellPlate$Chooser" 76 ⟨"BellPlate$Lists", "share", "(I)I"⟩ ∈ lw_ok := okm (tk_5 (List.mem_of_getElem? (l := tables_1_5) (i := 85) (by decide +kernel))) rfl
theorem w1165 : Cond.methodLink "BellPlate$Chooser" 80 ⟨"BellPlate$Chooser", "addTimes", "(JI)V"⟩ ∈ lw_ok := okm (tk_5 (List.mem_of_getElem? (l := tables_1_5) (i := 86) (by decide +kernel))) rfl
theorem w1167 : Cond.instanceMethod ⟨"BellPlate$Chooser", "addTimes", "(JI)V"⟩ ∈ lw_ok := okm (tk_5 (List.mem_of_getElem? (l := tables_1_5) (i := 88) (by decide +kernel))) rfl
theorem w1168 : Cond.code ⟨"BellPlate$Chooser", "addTimes", "(JI)V"⟩ prog_3_method_5_code 5 (none) ∈ lw_ok := okm (tk_5 (List.mem_of_getElem? (l := tables_1_5) (i := 89) (by decide +kernel))) rfl
theorem w1169 : Cond.methodLink "BellPlate$Chooser" 98 ⟨"BellPlate$Sets", "addTo", "([JJI)V"⟩ ∈ lw_ok := okm (tk_5 (List.mem_of_getElem? (l := tables_1_5) (i := 90) (by decide +kernel))) rfl
theorem w1170 : Cond.static ⟨"BellPlate$Sets", "addTo", "([JJI)V"⟩ ∈ lw_ok := okm (tk_5 (List.mem_of_getElem? (l := tables_1_5) (i := 91) (by decide +kernel))) rfl
theorem w1171 : Cond.code ⟨"BellPlate$Sets", "addTo", "([JJI)V"⟩ prog_11_method_10_code 9 (none) ∈ lw_ok := okm (tk_5 (List.mem_of_getElem? (l := tables_1_5) (i := 92) (by decide +kernel))) rfl
theorem w1172 : Cond.methodLink "BellPlate$Chooser" 84 ⟨"BellPlate$Chooser", "bitsOf", "(I)I"⟩ ∈ lw_ok := okm (tk_5 (List.mem_of_getElem? (l := tables_1_5) (i := 93) (by decide +kernel))) rfl
theorem w1173 : Cond.static ⟨"BellPlate$Chooser", "bitsOf", "(I)I"⟩ ∈ lw_ok := okm (tk_5 (List.mem_of_getElem? (l := tables_1_5) (i := 94) (by decide +kernel))) rfl
theorem w1174 : Cond.code ⟨"BellPlate$Chooser", "bitsOf", "(I)I"⟩ prog_3_method_4_code 3 (some FieldType.int) ∈ lw_ok := okm (tk_5 (List.mem_of_getElem? (l := tables_1_5) (i := 95) (by decide +kernel))) rfl
theorem w1175 : Cond.methodLink "BellPlate$Chooser" 90 ⟨"BellPlate$Chooser", "stillest", "(J)I"⟩ ∈ lw_ok := okm (tk_5 (List.mem_of_getElem? (l := tables_1_5) (i := 96) (by decide +kernel))) rfl
theorem w1177 : Cond.instanceMethod ⟨"BellPlate$Chooser", "stillest", "(J)I"⟩ ∈ lw_ok := okm (tk_5 (List.mem_of_getElem? (l := tables_1_5) (i := 98) (by decide +kernel))) rfl
theorem w1178 : Cond.code ⟨"BellPlate$Chooser", "stillest", "(J)I"⟩ prog_3_method_6_code 7 (some FieldType.int) ∈ lw_ok := okm (tk_5 (List.mem_of_getElem? (l := tables_1_5) (i := 99) (by decide +kernel))) rfl
theorem w1179 : Cond.methodLink "BellPlate$Chooser" 104 ⟨"BellPlate$Tower", "sets", "()I"⟩ ∈ lw_ok := okm (tk_5 (List.mem_of_getElem? (l := tables_1_5) (i := 100) (by decide +kernel))) rfl
theorem w1180 : Cond.methodLink "BellPlate$Chooser" 110 ⟨"BellPlate$Sets", "has", "(JI)Z"⟩ ∈ lw_ok := okm (tk_5 (List.mem_of_getElem? (l := tables_1_5) (i := 101) (by decide +kernel))) rfl
theorem w1181 : Cond.methodLink "BellPlate$Chooser" 114 ⟨"BellPlate$Sets", "counted", "([JII)I"⟩ ∈ lw_ok := okm (tk_5 (List.mem_of_getElem? (l := tables_1_5) (i := 102) (by decide +kernel))) rfl
theorem w1182 : Cond.static ⟨"BellPlate$Sets", "counted", "([JII)I"⟩ ∈ lw_ok := okm (tk_5 (List.mem_of_getElem? (l := tables_1_5) (i := 103) (by decide +kernel))) rfl
theorem w1183 : Cond.code ⟨"BellPlate$Sets", "counted", "([JII)I"⟩ prog_11_method_11_code 5 (some FieldType.int) ∈ lw_ok := okm (tk_5 (List.mem_of_getElem? (l := tables_1_5) (i := 104) (by decide +kernel))) rfl
theorem w1184 : Cond.methodLink "BellPlate$Chooser" 94 ⟨"BellPlate$Chooser", "evenest", "(JIZ)I"⟩ ∈ lw_ok := okm (tk_5 (List.mem_of_getElem? (l := tables_1_5) (i := 105) (by decide +kernel))) rfl
theorem w1186 : Cond.instanceMethod ⟨"BellPlate$Chooser", "evenest", "(JIZ)I"⟩ ∈ lw_ok := okm (tk_5 (List.mem_of_getElem? (l := tables_1_5) (i := 107) (by decide +kernel))) rfl
theorem w1187 : Cond.code ⟨"BellPlate$Chooser", "evenest", "(JIZ)I"⟩ prog_3_method_7_code 12 (some FieldType.int) ∈ lw_ok := okm (tk_5 (List.mem_of_getElem? (l := tables_1_5) (i := 108) (by decide +kernel))) rfl
theorem w1188 : Cond.methodLink "BellPlate$Chooser" 118 ⟨"BellPlate$Tower", "costOf", "(I)I"⟩ ∈ lw_ok := okm (tk_5 (List.mem_of_getElem? (l := tables_1_5) (i := 109) (by decide +kernel))) rfl
theorem w1189 : Cond.methodLink "BellPlate$Chooser" 121 ⟨"java/lang/Math", "max", "(II)I"⟩ ∈ lw_ok := okm (tk_5 (List.mem_of_getElem? (l := tables_1_5) (i := 110) (by decide +kernel))) rfl
theorem w1190 : Cond.methodLink "BellPlateLaw" 75 ⟨"BellPlate", "fewest", "(I)I"⟩ ∈ lw_ok := okm (tk_5 (List.mem_of_getElem? (l := tables_1_5) (i := 111) (by decide +kernel))) rfl
theorem w1191 : Cond.instanceMethod ⟨"BellPlate", "fewest", "(I)I"⟩ ∈ lw_ok := okm (tk_5 (List.mem_of_getElem? (l := tables_1_5) (i := 112) (by decide +kernel))) rfl
theorem w1192 : Cond.selects "BellPlate" ⟨"BellPlate", "fewest", "(I)I"⟩ ⟨"BellPlate", "fewest", "(I)I"⟩ ∈ lw_ok := okm (tk_5 (List.mem_of_getElem? (l := tables_1_5) (i := 113) (by decide +kernel))) rfl
theorem w1193 : Cond.code ⟨"BellPlate", "fewest", "(I)I"⟩ prog_1_method_14_code 2 (some FieldType.int) ∈ lw_ok := okm (tk_5 (List.mem_of_getElem? (l := tables_1_5) (i := 114) (by decide +kernel))) rfl
theorem w1194 : Cond.methodLink "BellPlate" 197 ⟨"BellPlate", "fewestFor", "(III)I"⟩ ∈ lw_ok := okm (tk_5 (List.mem_of_getElem? (l := tables_1_5) (i := 115) (by decide +kernel))) rfl
theorem w1195 : Cond.instanceMethod ⟨"BellPlate", "fewestFor", "(III)I"⟩ ∈ lw_ok := okm (tk_5 (List.mem_of_getElem? (l := tables_1_5) (i := 116) (by decide +kernel))) rfl
theorem w1196 : Cond.selects "BellPlate" ⟨"BellPlate", "fewestFor", "(III)I"⟩ ⟨"BellPlate", "fewestFor", "(III)I"⟩ ∈ lw_ok := okm (tk_5 (List.mem_of_getElem? (l := tables_1_5) (i := 117) (by decide +kernel))) rfl
theorem w1197 : Cond.code ⟨"BellPlate", "fewestFor", "(III)I"⟩ prog_1_method_15_code 4 (some FieldType.int) ∈ lw_ok := okm (tk_5 (List.mem_of_getElem? (l := tables_1_5) (i := 118) (by decide +kernel))) rfl
theorem w1198 : Cond.methodLink "BellPlate" 201 ⟨"BellPlate", "isQuestion", "(II)Z"⟩ ∈ lw_ok := okm (tk_5 (List.mem_of_getElem? (l := tables_1_5) (i := 119) (by decide +kernel))) rfl
theorem w1200 : Cond.instanceMethod ⟨"BellPlate", "isQuestion", "(II)Z"⟩ ∈ lw_ok := okm (tk_5 (List.mem_of_getElem? (l := tables_1_5) (i := 121) (by decide +kernel))) rfl
theorem w1201 : Cond.code ⟨"BellPlate", "isQuestion", "(II)Z"⟩ prog_1_method_16_code 5 (some FieldType.boolean) ∈ lw_ok := okm (tk_5 (List.mem_of_getElem? (l := tables_1_5) (i := 122) (by decide +kernel))) rfl
theorem w1202 : Cond.methodLink "BellPlate" 205 ⟨"BellPlate$Planner", "plan", "(II)V"⟩ ∈ lw_ok := okm (tk_5 (List.mem_of_getElem? (l := tables_1_5) (i := 123) (by decide +kernel))) rfl
theorem w1203 : Cond.instanceMethod ⟨"BellPlate$Planner", "plan", "(II)V"⟩ ∈ lw_ok := okm (tk_5 (List.mem_of_getElem? (l := tables_1_5) (i := 124) (by decide +kernel))) rfl
theorem w1204 : Cond.selects "BellPlate$Planner" ⟨"BellPlate$Planner", "plan", "(II)V"⟩ ⟨"BellPlate$Planner", "plan", "(II)V"⟩ ∈ lw_ok := okm (tk_5 (List.mem_of_getElem? (l := tables_1_5) (i := 125) (by decide +kernel))) rfl
theorem w1205 : Cond.code ⟨"BellPlate$Planner", "plan", "(II)V"⟩ prog_7_method_6_code 6 (none) ∈ lw_ok := okm (tk_5 (List.mem_of_getElem? (l := tables_1_5) (i := 126) (by decide +kernel))) rfl
theorem w1206 : Cond.methodLink "BellPlate$Planner" 79 ⟨"java/lang/Math", "min", "(II)I"⟩ ∈ lw_ok := okm (tk_5 (List.mem_of_getElem? (l := tables_1_5) (i := 127) (by decide +kernel))) rfl
theorem w1207 : Cond.methodLink "BellPlate$Planner" 85 ⟨"BellPlate$Planner", "groupAnswers", "(III)V"⟩ ∈ lw_ok := okm (tk_5 (List.mem_of_getElem? (l := tables_1_5) (i := 128) (by decide +kernel))) rfl
theorem w1209 : Cond.instanceMethod ⟨"BellPlate$Planner", "groupAnswers", "(III)V"⟩ ∈ lw_ok := okm (tk_5 (List.mem_of_getElem? (l := tables_1_5) (i := 130) (by decide +kernel))) rfl
theorem w1210 : Cond.code ⟨"BellPlate$Planner", "groupAnswers", "(III)V"⟩ prog_7_method_7_code 6 (none) ∈ lw_ok := okm (tk_5 (List.mem_of_getElem? (l := tables_1_5) (i := 131) (by decide +kernel))) rfl
theorem w1211 : Cond.methodLink "BellPlate$Planner" 89 ⟨"BellPlate$Planner", "findSplits", "(I)V"⟩ ∈ lw_ok := okm (tk_5 (List.mem_of_getElem? (l := tables_1_5) (i := 132) (by decide +kernel))) rfl
theorem w1213 : Cond.instanceMethod ⟨"BellPlate$Planner", "findSplits", "(I)V"⟩ ∈ lw_ok := okm (tk_5 (List.mem_of_getElem? (l := tables_1_5) (i := 134) (by decide +kernel))) rfl
theorem w1214 : Cond.code ⟨"BellPlate$Planner", "findSplits", "(I)V"⟩ prog_7_method_8_code 6 (none) ∈ lw_ok := okm (tk_5 (List.mem_of_getElem? (l := tables_1_5) (i := 135) (by decide +kernel))) rfl
theorem w1215 : Cond.methodLink "BellPlate$Planner" 109 ⟨"BellPlate$Planner", "isNewSplit", "(II)Z"⟩ ∈ lw_ok := okm (tk_5 (List.mem_of_getElem? (l := tables_1_5) (i := 136) (by decide +kernel))) rfl
theorem w1217 : Cond.instanceMethod ⟨"BellPlate$Planner", "isNewSplit", "(II)Z"⟩ ∈ lw_ok := okm (tk_5 (List.mem_of_getElem? (l := tables_1_5) (i := 138) (by decide +kernel))) rfl
theorem w1218 : Cond.code ⟨"BellPlate$Planner", "isNewSplit", "(II)Z"⟩ prog_7_method_9_code 4 (some FieldType.boolean) ∈ lw_ok := okm (tk_5 (List.mem_of_getElem? (l := tables_1_5) (i := 139) (by decide +kernel))) rfl
theorem w1219 : Cond.methodLink "BellPlate$Planner" 93 ⟨"java/util/Arrays", "fill", "([BIIB)V"⟩ ∈ lw_ok := okm (tk_5 (List.mem_of_getElem? (l := tables_1_5) (i := 140) (by decide +kernel))) rfl
theorem w1220 : Cond.static ⟨"java/util/Arrays", "fill", "([BIIB)V"⟩ ∈ lw_ok := okm (tk_5 (List.mem_of_getElem? (l := tables_1_5) (i := 141) (by decide +kernel))) rfl
theorem w1221 : Cond.code ⟨"java/util/Arrays", "fill", "([BIIB)V"⟩ prog_31_method_110_code 5 (none) ∈ lw_ok := okm (tk_5 (List.mem_of_getElem? (l := tables_1_5) (i := 142) (by decide +kernel))) rfl
theorem w1222 : Cond.methodLink "java/util/Arrays" 13 ⟨"java/util/Arrays", "rangeCheck", "(III)V"⟩ ∈ lw_ok := okm (tk_5 (List.mem_of_getElem? (l := tables_1_5) (i := 143) (by decide +kernel))) rfl
theorem w1223 : Cond.static ⟨"java/util/Arrays", "rangeCheck", "(III)V"⟩ ∈ lw_ok := okm (tk_5 (List.mem_of_getElem? (l := tables_1_5) (i := 144) (by decide +kernel))) rfl
theorem w1224 : Cond.code ⟨"java/util/Arrays", "rangeCheck", "(III)V"⟩ prog_31_method_30_code 3 (none) ∈ lw_ok := okm (tk_5 (List.mem_of_getElem? (l := tables_1_5) (i := 145) (by decide +kernel))) rfl
theorem w1225 : Cond.methodLink "BellPlate$Planner" 99 ⟨"BellPlate$Planner", "depthOf", "(II)I"⟩ ∈ lw_ok := okm (tk_5 (List.mem_of_getElem? (l := tables_1_5) (i := 146) (by decide +kernel))) rfl
theorem w1227 : Cond.instanceMethod ⟨"BellPlate$Planner", "depthOf", "(II)I"⟩ ∈ lw_ok := okm (tk_5 (List.mem_of_getElem? (l := tables_1_5) (i := 148) (by decide +kernel))) rfl
theorem w1228 : Cond.code ⟨"BellPlate$Planner", "depthOf", "(II)I"⟩ prog_7_method_10_code 5 (some FieldType.int) ∈ lw_ok := okm (tk_5 (List.mem_of_getElem? (l := tables_1_5) (i := 149) (by decide +kernel))) rfl
theorem w1229 : Cond.methodLink "BellPlate$Planner" 113 ⟨"BellPlate$Planner", "isAlike", "(I)Z"⟩ ∈ lw_ok := okm (tk_5 (List.mem_of_getElem? (l := tables_1_5) (i := 150) (by decide +kernel))) rfl
theorem w1231 : Cond.instanceMethod ⟨"BellPlate$Planner", "isAlike", "(I)Z"⟩ ∈ lw_ok := okm (tk_5 (List.mem_of_getElem? (l := tables_1_5) (i := 152) (by decide +kernel))) rfl
theorem w1232 : Cond.code ⟨"BellPlate$Planner", "isAlike", "(I)Z"⟩ prog_7_method_11_code 3 (some FieldType.boolean) ∈ lw_ok := okm (tk_5 (List.mem_of_getElem? (l := tables_1_5) (i := 153) (by decide +kernel))) rfl
theorem w1233 : Cond.methodLink "BellPlate$Planner" 105 ⟨"BellPlate$Planner", "depthBy", "(IIII)I"⟩ ∈ lw_ok := okm (tk_5 (List.mem_of_getElem? (l := tables_1_5) (i := 154) (by decide +kernel))) rfl
theorem w1235 : Cond.instanceMethod ⟨"BellPlate$Planner", "depthBy", "(IIII)I"⟩ ∈ lw_ok := okm (tk_5 (List.mem_of_getElem? (l := tables_1_5) (i := 156) (by decide +kernel))) rfl
theorem w1236 : Cond.code ⟨"BellPlate$Planner", "depthBy", "(IIII)I"⟩ prog_7_method_12_code 8 (some FieldType.int) ∈ lw_ok := okm (tk_5 (List.mem_of_getElem? (l := tables_1_5) (i := 157) (by decide +kernel))) rfl
theorem w1237 : Cond.methodLink "BellPlate$Planner" 117 ⟨"java/lang/Math", "max", "(II)I"⟩ ∈ lw_ok := okm (tk_5 (List.mem_of_getElem? (l := tables_1_5) (i := 158) (by decide +kernel))) rfl
theorem w1238 : Cond.methodLink "BellPlate" 209 ⟨"BellPlate$Planner", "trials", "()I"⟩ ∈ lw_ok := okm (tk_5 (List.mem_of_getElem? (l := tables_1_5) (i := 159) (by decide +kernel))) rfl
theorem w1239 : Cond.instanceMethod ⟨"BellPlate$Planner", "trials", "()I"⟩ ∈ lw_ok := okm (tk_5 (List.mem_of_getElem? (l := tables_1_5) (i := 160) (by decide +kernel))) rfl
theorem w1240 : Cond.selects "BellPlate$Planner" ⟨"BellPlate$Planner", "trials", "()I"⟩ ⟨"BellPlate$Planner", "trials", "()I"⟩ ∈ lw_ok := okm (tk_5 (List.mem_of_getElem? (l := tables_1_5) (i := 161) (by decide +kernel))) rfl
theorem w1241 : Cond.code ⟨"BellPlate$Planner", "trials", "()I"⟩ prog_7_method_4_code 1 (some FieldType.int) ∈ lw_ok := okm (tk_5 (List.mem_of_getElem? (l := tables_1_5) (i := 162) (by decide +kernel))) rfl
theorem w1242 : Cond.methodLink "BellPlate" 212 ⟨"BellPlate$Planner", "firstSet", "()I"⟩ ∈ lw_ok := okm (tk_5 (List.mem_of_getElem? (l := tables_1_5) (i := 163) (by decide +kernel))) rfl
theorem w1243 : Cond.instanceMethod ⟨"BellPlate$Planner", "firstSet", "()I"⟩ ∈ lw_ok := okm (tk_5 (List.mem_of_getElem? (l := tables_1_5) (i := 164) (by decide +kernel))) rfl
theorem w1244 : Cond.selects "BellPlate$Planner" ⟨"BellPlate$Planner", "firstSet", "()I"⟩ ⟨"BellPlate$Planner", "firstSet", "()I"⟩ ∈ lw_ok := okm (tk_5 (List.mem_of_getElem? (l := tables_1_5) (i := 165) (by decide +kernel))) rfl
theorem w1245 : Cond.code ⟨"BellPlate$Planner", "firstSet", "()I"⟩ prog_7_method_5_code 1 (some FieldType.int) ∈ lw_ok := okm (tk_5 (List.mem_of_getElem? (l := tables_1_5) (i := 166) (by decide +kernel))) rfl
theorem w1246 : Cond.methodLink "BellPlateLaw" 79 ⟨"BellPlate", "fewestFor", "(III)I"⟩ ∈ lw_ok := okm (tk_5 (List.mem_of_getElem? (l := tables_1_5) (i := 167) (by decide +kernel))) rfl
theorem w1247 : Cond.methodLink "BellPlateLaw" 92 ⟨"BellPlate", "runSet", "(III)I"⟩ ∈ lw_ok := okm (tk_5 (List.mem_of_getElem? (l := tables_1_5) (i := 168) (by decide +kernel))) rfl
theorem w1248 : Cond.instanceMethod ⟨"BellPlate", "runSet", "(III)I"⟩ ∈ lw_ok := okm (tk_5 (List.mem_of_getElem? (l := tables_1_5) (i := 169) (by decide +kernel))) rfl
theorem w1249 : Cond.selects "BellPlate" ⟨"BellPlate", "runSet", "(III)I"⟩ ⟨"BellPlate", "runSet", "(III)I"⟩ ∈ lw_ok := okm (tk_5 (List.mem_of_getElem? (l := tables_1_5) (i := 170) (by decide +kernel))) rfl
theorem w1250 : Cond.code ⟨"BellPlate", "runSet", "(III)I"⟩ prog_1_method_18_code 4 (some FieldType.int) ∈ lw_ok := okm (tk_5 (List.mem_of_getElem? (l := tables_1_5) (i := 171) (by decide +kernel))) rfl
theorem w1251 : Cond.methodLink "BellPlate" 215 ⟨"BellPlate", "canRun", "(II)Z"⟩ ∈ lw_ok := okm (tk_5 (List.mem_of_getElem? (l := tables_1_5) (i := 172) (by decide +kernel))) rfl
theorem w1253 : Cond.instanceMethod ⟨"BellPlate", "canRun", "(II)Z"⟩ ∈ lw_ok := okm (tk_5 (List.mem_of_getElem? (l := tables_1_5) (i := 174) (by decide +kernel))) rfl
theorem w1254 : Cond.code ⟨"BellPlate", "canRun", "(II)Z"⟩ prog_1_method_19_code 3 (some FieldType.boolean) ∈ lw_ok := okm (tk_5 (List.mem_of_getElem? (l := tables_1_5) (i := 175) (by decide +kernel))) rfl
theorem w1255 : Cond.methodLink "BellPlate" 240 ⟨"BellPlate$Rest", "holds", "(I)Z"⟩ ∈ lw_ok := okm (tk_5 (List.mem_of_getElem? (l := tables_1_5) (i := 176) (by decide +kernel))) rfl
theorem w1256 : Cond.instanceMethod ⟨"BellPlate$Rest", "holds", "(I)Z"⟩ ∈ lw_ok := okm (tk_5 (List.mem_of_getElem? (l := tables_1_5) (i := 177) (by decide +kernel))) rfl
theorem w1257 : Cond.selects "BellPlate$Rest" ⟨"BellPlate$Rest", "holds", "(I)Z"⟩ ⟨"BellPlate$Rest", "holds", "(I)Z"⟩ ∈ lw_ok := okm (tk_5 (List.mem_of_getElem? (l := tables_1_5) (i := 178) (by decide +kernel))) rfl
theorem w1258 : Cond.code ⟨"BellPlate$Rest", "holds", "(I)Z"⟩ prog_10_method_10_code 3 (some FieldType.boolean) ∈ lw_ok := okm (tk_5 (List.mem_of_getElem? (l := tables_1_5) (i := 179) (by decide +kernel))) rfl
theorem w1259 : Cond.methodLink "BellPlate" 225 ⟨"BellPlate$Chooser", "hide", "(II)V"⟩ ∈ lw_ok := okm (tk_5 (List.mem_of_getElem? (l := tables_1_5) (i := 180) (by decide +kernel))) rfl
theorem w1260 : Cond.instanceMethod ⟨"BellPlate$Chooser", "hide", "(II)V"⟩ ∈ lw_ok := okm (tk_5 (List.mem_of_getElem? (l := tables_1_5) (i := 181) (by decide +kernel))) rfl
theorem w1261 : Cond.selects "BellPlate$Chooser" ⟨"BellPlate$Chooser", "hide", "(II)V"⟩ ⟨"BellPlate$Chooser", "hide", "(II)V"⟩ ∈ lw_ok := okm (tk_5 (List.mem_of_getElem? (l := tables_1_5) (i := 182) (by decide +kernel))) rfl
theorem w1262 : Cond.code ⟨"BellPlate$Chooser", "hide", "(II)V"⟩ prog_3_method_10_code 12 (none) ∈ lw_ok := okm (tk_5 (List.mem_of_getElem? (l := tables_1_5) (i := 183) (by decide +kernel))) rfl
theorem w1263 : Cond.methodLink "BellPlate$Chooser" 145 ⟨"BellPlate$Book", "age", "()I"⟩ ∈ lw_ok := okm (tk_5 (List.mem_of_getElem? (l := tables_1_5) (i := 184) (by decide +kernel))) rfl
theorem w1264 : Cond.methodLink "BellPlate$Chooser" 163 ⟨"BellPlate$Lists", "listOf", "(I)J"⟩ ∈ lw_ok := okm (tk_5 (List.mem_of_getElem? (l := tables_1_5) (i := 185) (by decide +kernel))) rfl
theorem w1265 : Cond.methodLink "BellPlate$Chooser" 166 ⟨"BellPlate$Chooser", "copyOfRest", "()[I"⟩ ∈ lw_ok := okm (tk_5 (List.mem_of_getElem? (l := tables_1_5) (i := 186) (by decide +kernel))) rfl
theorem w1267 : Cond.instanceMethod ⟨"BellPlate$Chooser", "copyOfRest", "()[I"⟩ ∈ lw_ok := okm (tk_5 (List.mem_of_getElem? (l := tables_1_5) (i := 188) (by decide +kernel))) rfl
theorem w1268 : Cond.code ⟨"BellPlate$Chooser", "copyOfRest", "()[I"⟩ prog_3_method_9_code 2 (some (FieldType.array FieldType.int)) ∈ lw_ok := okm (tk_5 (List.mem_of_getElem? (l := tables_1_5) (i := 189) (by decide +kernel))) rfl
theorem w1269 : Cond.methodLink "BellPlate$Chooser" 127 ⟨"BellPlate$Lists", "spare", "()[I"⟩ ∈ lw_ok := okm (tk_5 (List.mem_of_getElem? (l := tables_1_5) (i := 190) (by decide +kernel))) rfl
theorem w1270 : Cond.instanceMethod ⟨"BellPlate$Lists", "spare", "()[I"⟩ ∈ lw_ok := okm (tk_5 (List.mem_of_getElem? (l := tables_1_5) (i := 191) (by decide +kernel))) rfl
theorem w1271 : Cond.selects "BellPlate$Lists" ⟨"BellPlate$Lists", "spare", "()[I"⟩ ⟨"BellPlate$Lists", "spare", "()[I"⟩ ∈ lw_ok := okm (tk_5 (List.mem_of_getElem? (l := tables_1_5) (i := 192) (by decide +kernel))) rfl
theorem w1272 : Cond.code ⟨"BellPlate$Lists", "spare", "()[I"⟩ prog_6_method_8_code 1 (some (FieldType.array FieldType.int)) ∈ lw_ok := okm (tk_5 (List.mem_of_getElem? (l := tables_1_5) (i := 193) (by decide +kernel))) rfl
theorem w1273 : Cond.methodLink "BellPlate$Chooser" 131 ⟨"BellPlate$Rest", "row", "()[I"⟩ ∈ lw_ok := okm (tk_5 (List.mem_of_getElem? (l := tables_1_5) (i := 194) (by decide +kernel))) rfl
theorem w1274 : Cond.methodLink "BellPlate$Chooser" 136 ⟨"BellPlate$Rest", "size", "()I"⟩ ∈ lw_ok := okm (tk_5 (List.mem_of_getElem? (l := tables_1_5) (i := 195) (by decide +kernel))) rfl
theorem w1275 : Cond.methodLink "BellPlate$Chooser" 139 ⟨"java/lang/System", "arraycopy", "(Ljava/lang/Object;ILjava/lang/Object;II)V"⟩ ∈ lw_ok := okm (tk_5 (List.mem_of_getElem? (l := tables_1_5) (i := 196) (by decide +kernel))) rfl
theorem w1276 : Cond.methodLink "BellPlate$Chooser" 169 ⟨"BellPlate$Chooser", "pick", "([IIII)I"⟩ ∈ lw_ok := okm (tk_5 (List.mem_of_getElem? (l := tables_1_5) (i := 197) (by decide +kernel))) rfl
theorem w1277 : Cond.methodLink "BellPlate$Chooser" 173 ⟨"BellPlate$Chooser", "partRow", "([IIII)I"⟩ ∈ lw_ok := okm (tk_5 (List.mem_of_getElem? (l := tables_1_5) (i := 198) (by decide +kernel))) rfl
theorem w1279 : Cond.instanceMethod ⟨"BellPlate$Chooser", "partRow", "([IIII)I"⟩ ∈ lw_ok := okm (tk_5 (List.mem_of_getElem? (l := tables_1_5) (i := 200) (by decide +kernel))) rfl
theorem w1280 : Cond.code ⟨"BellPlate$Chooser", "partRow", "([IIII)I"⟩ prog_3_method_8_code 8 (some FieldType.int) ∈ lw_ok := okm (tk_5 (List.mem_of_getElem? (l := tables_1_5) (i := 201) (by decide +kernel))) rfl
theorem w1281 : Cond.methodLink "BellPlate" 237 ⟨"BellPlate$Chooser", "setAt", "(I)I"⟩ ∈ lw_ok := okm (tk_5 (List.mem_of_getElem? (l := tables_1_5) (i := 202) (by decide +kernel))) rfl
theorem w1282 : Cond.instanceMethod ⟨"BellPlate$Chooser", "setAt", "(I)I"⟩ ∈ lw_ok := okm (tk_5 (List.mem_of_getElem? (l := tables_1_5) (i := 203) (by decide +kernel))) rfl
theorem w1283 : Cond.selects "BellPlate$Chooser" ⟨"BellPlate$Chooser", "setAt", "(I)I"⟩ ⟨"BellPlate$Chooser", "setAt", "(I)I"⟩ ∈ lw_ok := okm (tk_5 (List.mem_of_getElem? (l := tables_1_5) (i := 204) (by decide +kernel))) rfl
theorem w1284 : Cond.code ⟨"BellPlate$Chooser", "setAt", "(I)I"⟩ prog_3_method_14_code 2 (some FieldType.int) ∈ lw_ok := okm (tk_5 (List.mem_of_getElem? (l := tables_1_5) (i := 205) (by decide +kernel))) rfl
theorem w1285 : Cond.methodLink "BellPlateLaw" 96 ⟨"BellPlate", "worst", "(I)I"⟩ ∈ lw_ok := okm (tk_5 (List.mem_of_getElem? (l := tables_1_5) (i := 206) (by decide +kernel))) rfl
theorem w1286 : Cond.instanceMethod ⟨"BellPlate", "worst", "(I)I"⟩ ∈ lw_ok := okm (tk_5 (List.mem_of_getElem? (l := tables_1_5) (i := 207) (by decide +kernel))) rfl
theorem w1287 : Cond.selects "BellPlate" ⟨"BellPlate", "worst", "(I)I"⟩ ⟨"BellPlate", "worst", "(I)I"⟩ ∈ lw_ok := okm (tk_5 (List.mem_of_getElem? (l := tables_1_5) (i := 208) (by decide +kernel))) rfl
theorem w1288 : Cond.code ⟨"BellPlate", "worst", "(I)I"⟩ prog_1_method_20_code 2 (some FieldType.int) ∈ lw_ok := okm (tk_5 (List.mem_of_getElem? (l := tables_1_5) (i := 209) (by decide +kernel))) rfl
theorem w1289 : Cond.methodLink "BellPlate" 243 ⟨"BellPlate$Chooser", "tryAll", "(I)V"⟩ ∈ lw_ok := okm (tk_5 (List.mem_of_getElem? (l := tables_1_5) (i := 210) (by decide +kernel))) rfl
theorem w1290 : Cond.instanceMethod ⟨"BellPlate$Chooser", "tryAll", "(I)V"⟩ ∈ lw_ok := okm (tk_5 (List.mem_of_getElem? (l := tables_1_5) (i := 211) (by decide +kernel))) rfl
theorem w1291 : Cond.selects "BellPlate$Chooser" ⟨"BellPlate$Chooser", "tryAll", "(I)V"⟩ ⟨"BellPlate$Chooser", "tryAll", "(I)V"⟩ ∈ lw_ok := okm (tk_5 (List.mem_of_getElem? (l := tables_1_5) (i := 212) (by decide +kernel))) rfl
theorem w1292 : Cond.code ⟨"BellPlate$Chooser", "tryAll", "(I)V"⟩ prog_3_method_15_code 10 (none) ∈ lw_ok := okm (tk_5 (List.mem_of_getElem? (l := tables_1_5) (i := 213) (by decide +kernel))) rfl
theorem w1293 : Cond.methodLink "BellPlate$Chooser" 176 ⟨"BellPlate$Chooser", "put", "(IIII)I"⟩ ∈ lw_ok := okm (tk_5 (List.mem_of_getElem? (l := tables_1_5) (i := 214) (by decide +kernel))) rfl
theorem w1295 : Cond.instanceMethod ⟨"BellPlate$Chooser", "put", "(IIII)I"⟩ ∈ lw_ok := okm (tk_5 (List.mem_of_getElem? (l := tables_1_5) (i := 216) (by decide +kernel))) rfl
theorem w1296 : Cond.code ⟨"BellPlate$Chooser", "put", "(IIII)I"⟩ prog_3_method_16_code 5 (some FieldType.int) ∈ lw_ok := okm (tk_5 (List.mem_of_getElem? (l := tables_1_5) (i := 217) (by decide +kernel))) rfl
theorem w1297 : Cond.constant "BellPlate$Chooser" 180 40000 ∈ lw_ok := okm (tk_5 (List.mem_of_getElem? (l := tables_1_5) (i := 218) (by decide +kernel))) rfl
theorem w1298 : Cond.methodLink "BellPlate$Chooser" 181 ⟨"BellPlate$Chooser", "endRuns", "([IIIII)V"⟩ ∈ lw_ok := okm (tk_5 (List.mem_of_getElem? (l := tables_1_5) (i := 219) (by decide +kernel))) rfl
theorem w1300 : Cond.instanceMethod ⟨"BellPlate$Chooser", "endRuns", "([IIIII)V"⟩ ∈ lw_ok := okm (tk_5 (List.mem_of_getElem? (l := tables_1_5) (i := 221) (by decide +kernel))) rfl
theorem w1301 : Cond.code ⟨"BellPlate$Chooser", "endRuns", "([IIIII)V"⟩ prog_3_method_17_code 7 (none) ∈ lw_ok := okm (tk_5 (List.mem_of_getElem? (l := tables_1_5) (i := 222) (by decide +kernel))) rfl
theorem w1302 : Cond.methodLink "BellPlate" 247 ⟨"BellPlate$Chooser", "worstBy", "(I)I"⟩ ∈ lw_ok := okm (tk_5 (List.mem_of_getElem? (l := tables_1_5) (i := 223) (by decide +kernel))) rfl
theorem w1303 : Cond.instanceMethod ⟨"BellPlate$Chooser", "worstBy", "(I)I"⟩ ∈ lw_ok := okm (tk_5 (List.mem_of_getElem? (l := tables_1_5) (i := 224) (by decide +kernel))) rfl
theorem w1304 : Cond.selects "BellPlate$Chooser" ⟨"BellPlate$Chooser", "worstBy", "(I)I"⟩ ⟨"BellPlate$Chooser", "worstBy", "(I)I"⟩ ∈ lw_ok := okm (tk_5 (List.mem_of_getElem? (l := tables_1_5) (i := 225) (by decide +kernel))) rfl
theorem w1305 : Cond.code ⟨"BellPlate$Chooser", "worstBy", "(I)I"⟩ prog_3_method_18_code 2 (some FieldType.int) ∈ lw_ok := okm (tk_5 (List.mem_of_getElem? (l := tables_1_5) (i := 226) (by decide +kernel))) rfl
theorem w1306 : Cond.methodLink "BellPlateLaw" 100 ⟨"BellPlate", "mean", "(II)I"⟩ ∈ lw_ok := okm (tk_5 (List.mem_of_getElem? (l := tables_1_5) (i := 227) (by decide +kernel))) rfl
theorem w1307 : Cond.instanceMethod ⟨"BellPlate", "mean", "(II)I"⟩ ∈ lw_ok := okm (tk_5 (List.mem_of_getElem? (l := tables_1_5) (i := 228) (by decide +kernel))) rfl
theorem w1308 : Cond.selects "BellPlate" ⟨"BellPlate", "mean", "(II)I"⟩ ⟨"BellPlate", "mean", "(II)I"⟩ ∈ lw_ok := okm (tk_5 (List.mem_of_getElem? (l := tables_1_5) (i := 229) (by decide +kernel))) rfl
theorem w1309 : Cond.code ⟨"BellPlate", "mean", "(II)I"⟩ prog_1_method_21_code 3 (some FieldType.int) ∈ lw_ok := okm (tk_5 (List.mem_of_getElem? (l := tables_1_5) (i := 230) (by decide +kernel))) rfl
theorem w1310 : Cond.methodLink "BellPlate" 250 ⟨"BellPlate$Chooser", "togetherBy", "(I)I"⟩ ∈ lw_ok := okm (tk_5 (List.mem_of_getElem? (l := tables_1_5) (i := 231) (by decide +kernel))) rfl
theorem w1311 : Cond.instanceMethod ⟨"BellPlate$Chooser", "togetherBy", "(I)I"⟩ ∈ lw_ok := okm (tk_5 (List.mem_of_getElem? (l := tables_1_5) (i := 232) (by decide +kernel))) rfl
theorem w1312 : Cond.selects "BellPlate$Chooser" ⟨"BellPlate$Chooser", "togetherBy", "(I)I"⟩ ⟨"BellPlate$Chooser", "togetherBy", "(I)I"⟩ ∈ lw_ok := okm (tk_5 (List.mem_of_getElem? (l := tables_1_5) (i := 233) (by decide +kernel))) rfl
theorem w1313 : Cond.code ⟨"BellPlate$Chooser", "togetherBy", "(I)I"⟩ prog_3_method_19_code 2 (some FieldType.int) ∈ lw_ok := okm (tk_5 (List.mem_of_getElem? (l := tables_1_5) (i := 234) (by decide +kernel))) rfl
theorem w1314 : Cond.methodLink "BellPlate" 253 ⟨"BellPlate$Sets", "lowest", "(III)I"⟩ ∈ lw_ok := okm (tk_5 (List.mem_of_getElem? (l := tables_1_5) (i := 235) (by decide +kernel))) rfl
theorem w1315 : Cond.static ⟨"BellPlate$Sets", "lowest", "(III)I"⟩ ∈ lw_ok := okm (tk_5 (List.mem_of_getElem? (l := tables_1_5) (i := 236) (by decide +kernel))) rfl
theorem w1316 : Cond.code ⟨"BellPlate$Sets", "lowest", "(III)I"⟩ prog_11_method_12_code 7 (some FieldType.int) ∈ lw_ok := okm (tk_5 (List.mem_of_getElem? (l := tables_1_5) (i := 237) (by decide +kernel))) rfl
theorem w1317 : Cond.methodLink "BellPlateLaw" 104 ⟨"BellPlate", "smallest", "(I)I"⟩ ∈ lw_ok := okm (tk_5 (List.mem_of_getElem? (l := tables_1_5) (i := 238) (by decide +kernel))) rfl
theorem w1318 : Cond.instanceMethod ⟨"BellPlate", "smallest", "(I)I"⟩ ∈ lw_ok := okm (tk_5 (List.mem_of_getElem? (l := tables_1_5) (i := 239) (by decide +kernel))) rfl
theorem w1319 : Cond.selects "BellPlate" ⟨"BellPlate", "smallest", "(I)I"⟩ ⟨"BellPlate", "smallest", "(I)I"⟩ ∈ lw_ok := okm (tk_6 (List.mem_of_getElem? (l := tables_1_6) (i := 0) (by decide +kernel))) rfl
theorem w1320 : Cond.code ⟨"BellPlate", "smallest", "(I)I"⟩ prog_1_method_22_code 2 (some FieldType.int) ∈ lw_ok := okm (tk_6 (List.mem_of_getElem? (l := tables_1_6) (i := 1) (by decide +kernel))) rfl
theorem w1321 : Cond.methodLink "BellPlate" 256 ⟨"BellPlate$Book", "setsTold", "(ZI)J"⟩ ∈ lw_ok := okm (tk_6 (List.mem_of_getElem? (l := tables_1_6) (i := 2) (by decide +kernel))) rfl
theorem w1322 : Cond.methodLink "BellPlate" 260 ⟨"BellPlate$Fit", "seek", "(JJ)V"⟩ ∈ lw_ok := okm (tk_6 (List.mem_of_getElem? (l := tables_1_6) (i := 3) (by decide +kernel))) rfl
theorem w1323 : Cond.instanceMethod ⟨"BellPlate$Fit", "seek", "(JJ)V"⟩ ∈ lw_ok := okm (tk_6 (List.mem_of_getElem? (l := tables_1_6) (i := 4) (by decide +kernel))) rfl
theorem w1324 : Cond.selects "BellPlate$Fit" ⟨"BellPlate$Fit", "seek", "(JJ)V"⟩ ⟨"BellPlate$Fit", "seek", "(JJ)V"⟩ ∈ lw_ok := okm (tk_6 (List.mem_of_getElem? (l := tables_1_6) (i := 5) (by decide +kernel))) rfl
theorem w1325 : Cond.code ⟨"BellPlate$Fit", "seek", "(JJ)V"⟩ prog_5_method_2_code 8 (none) ∈ lw_ok := okm (tk_6 (List.mem_of_getElem? (l := tables_1_6) (i := 6) (by decide +kernel))) rfl
theorem w1326 : Cond.methodLink "BellPlate$Fit" 45 ⟨"BellPlate$Sets", "leastOf", "(J)J"⟩ ∈ lw_ok := okm (tk_6 (List.mem_of_getElem? (l := tables_1_6) (i := 7) (by decide +kernel))) rfl
theorem w1327 : Cond.static ⟨"BellPlate$Sets", "leastOf", "(J)J"⟩ ∈ lw_ok := okm (tk_6 (List.mem_of_getElem? (l := tables_1_6) (i := 8) (by decide +kernel))) rfl
theorem w1328 : Cond.code ⟨"BellPlate$Sets", "leastOf", "(J)J"⟩ prog_11_method_6_code 7 (some FieldType.long) ∈ lw_ok := okm (tk_6 (List.mem_of_getElem? (l := tables_1_6) (i := 9) (by decide +kernel))) rfl
theorem w1329 : Cond.methodLink "BellPlate$Fit" 49 ⟨"BellPlate$Sets", "spread", "(J[I)I"⟩ ∈ lw_ok := okm (tk_6 (List.mem_of_getElem? (l := tables_1_6) (i := 10) (by decide +kernel))) rfl
theorem w1330 : Cond.static ⟨"BellPlate$Sets", "spread", "(J[I)I"⟩ ∈ lw_ok := okm (tk_6 (List.mem_of_getElem? (l := tables_1_6) (i := 11) (by decide +kernel))) rfl
theorem w1331 : Cond.code ⟨"BellPlate$Sets", "spread", "(J[I)I"⟩ prog_11_method_9_code 5 (some FieldType.int) ∈ lw_ok := okm (tk_6 (List.mem_of_getElem? (l := tables_1_6) (i := 12) (by decide +kernel))) rfl
theorem w1332 : Cond.methodLink "BellPlate$Sets" 29 ⟨"BellPlate$Sets", "has", "(JI)Z"⟩ ∈ lw_ok := okm (tk_6 (List.mem_of_getElem? (l := tables_1_6) (i := 13) (by decide +kernel))) rfl
theorem w1333 : Cond.methodLink "BellPlate$Fit" 57 ⟨"BellPlate$Sets", "greatestOf", "(J)J"⟩ ∈ lw_ok := okm (tk_6 (List.mem_of_getElem? (l := tables_1_6) (i := 14) (by decide +kernel))) rfl
theorem w1334 : Cond.static ⟨"BellPlate$Sets", "greatestOf", "(J)J"⟩ ∈ lw_ok := okm (tk_6 (List.mem_of_getElem? (l := tables_1_6) (i := 15) (by decide +kernel))) rfl
theorem w1335 : Cond.code ⟨"BellPlate$Sets", "greatestOf", "(J)J"⟩ prog_11_method_7_code 7 (some FieldType.long) ∈ lw_ok := okm (tk_6 (List.mem_of_getElem? (l := tables_1_6) (i := 16) (by decide +kernel))) rfl
theorem w1336 : Cond.methodLink "BellPlate$Fit" 67 ⟨"java/util/Arrays", "fill", "([II)V"⟩ ∈ lw_ok := okm (tk_6 (List.mem_of_getElem? (l := tables_1_6) (i := 17) (by decide +kernel))) rfl
theorem w1337 : Cond.methodLink "BellPlate$Fit" 73 ⟨"BellPlate$Tower", "all", "()I"⟩ ∈ lw_ok := okm (tk_6 (List.mem_of_getElem? (l := tables_1_6) (i := 18) (by decide +kernel))) rfl
theorem w1338 : Cond.methodLink "BellPlate$Fit" 80 ⟨"BellPlate$Fit", "tryRow", "(II)V"⟩ ∈ lw_ok := okm (tk_6 (List.mem_of_getElem? (l := tables_1_6) (i := 19) (by decide +kernel))) rfl
theorem w1340 : Cond.instanceMethod ⟨"BellPlate$Fit", "tryRow", "(II)V"⟩ ∈ lw_ok := okm (tk_6 (List.mem_of_getElem? (l := tables_1_6) (i := 21) (by decide +kernel))) rfl
theorem w1341 : Cond.code ⟨"BellPlate$Fit", "tryRow", "(II)V"⟩ prog_5_method_3_code 4 (none) ∈ lw_ok := okm (tk_6 (List.mem_of_getElem? (l := tables_1_6) (i := 22) (by decide +kernel))) rfl
theorem w1342 : Cond.methodLink "BellPlate$Fit" 88 ⟨"BellPlate$Fit", "leastBarOfRow", "()I"⟩ ∈ lw_ok := okm (tk_6 (List.mem_of_getElem? (l := tables_1_6) (i := 23) (by decide +kernel))) rfl
theorem w1344 : Cond.instanceMethod ⟨"BellPlate$Fit", "leastBarOfRow", "()I"⟩ ∈ lw_ok := okm (tk_6 (List.mem_of_getElem? (l := tables_1_6) (i := 25) (by decide +kernel))) rfl
theorem w1345 : Cond.code ⟨"BellPlate$Fit", "leastBarOfRow", "()I"⟩ prog_5_method_4_code 3 (some FieldType.int) ∈ lw_ok := okm (tk_6 (List.mem_of_getElem? (l := tables_1_6) (i := 26) (by decide +kernel))) rfl
theorem w1346 : Cond.methodLink "BellPlate$Fit" 97 ⟨"BellPlate$Tower", "sumOf", "(I[I)I"⟩ ∈ lw_ok := okm (tk_6 (List.mem_of_getElem? (l := tables_1_6) (i := 27) (by decide +kernel))) rfl
theorem w1347 : Cond.methodLink "BellPlate$Fit" 101 ⟨"java/lang/Math", "max", "(II)I"⟩ ∈ lw_ok := okm (tk_6 (List.mem_of_getElem? (l := tables_1_6) (i := 28) (by decide +kernel))) rfl
theorem w1348 : Cond.methodLink "BellPlate$Fit" 84 ⟨"BellPlate$Tower", "step", "([I)I"⟩ ∈ lw_ok := okm (tk_6 (List.mem_of_getElem? (l := tables_1_6) (i := 29) (by decide +kernel))) rfl
theorem w1349 : Cond.methodLink "BellPlate" 264 ⟨"BellPlate$Fit", "answer", "(I)I"⟩ ∈ lw_ok := okm (tk_6 (List.mem_of_getElem? (l := tables_1_6) (i := 30) (by decide +kernel))) rfl
theorem w1350 : Cond.instanceMethod ⟨"BellPlate$Fit", "answer", "(I)I"⟩ ∈ lw_ok := okm (tk_6 (List.mem_of_getElem? (l := tables_1_6) (i := 31) (by decide +kernel))) rfl
theorem w1351 : Cond.selects "BellPlate$Fit" ⟨"BellPlate$Fit", "answer", "(I)I"⟩ ⟨"BellPlate$Fit", "answer", "(I)I"⟩ ∈ lw_ok := okm (tk_6 (List.mem_of_getElem? (l := tables_1_6) (i := 32) (by decide +kernel))) rfl
theorem w1352 : Cond.code ⟨"BellPlate$Fit", "answer", "(I)I"⟩ prog_5_method_5_code 2 (some FieldType.int) ∈ lw_ok := okm (tk_6 (List.mem_of_getElem? (l := tables_1_6) (i := 33) (by decide +kernel))) rfl
theorem w1353 : Cond.methodLink "BellPlateLaw" 108 ⟨"BellPlate", "cannot", "(I)I"⟩ ∈ lw_ok := okm (tk_6 (List.mem_of_getElem? (l := tables_1_6) (i := 34) (by decide +kernel))) rfl
theorem w1354 : Cond.instanceMethod ⟨"BellPlate", "cannot", "(I)I"⟩ ∈ lw_ok := okm (tk_6 (List.mem_of_getElem? (l := tables_1_6) (i := 35) (by decide +kernel))) rfl
theorem w1355 : Cond.selects "BellPlate" ⟨"BellPlate", "cannot", "(I)I"⟩ ⟨"BellPlate", "cannot", "(I)I"⟩ ∈ lw_ok := okm (tk_6 (List.mem_of_getElem? (l := tables_1_6) (i := 36) (by decide +kernel))) rfl
theorem w1356 : Cond.code ⟨"BellPlate", "cannot", "(I)I"⟩ prog_1_method_23_code 2 (some FieldType.int) ∈ lw_ok := okm (tk_6 (List.mem_of_getElem? (l := tables_1_6) (i := 37) (by decide +kernel))) rfl
theorem w1357 : Cond.methodLink "BellPlate" 267 ⟨"BellPlate$Fit", "seekTrade", "()V"⟩ ∈ lw_ok := okm (tk_6 (List.mem_of_getElem? (l := tables_1_6) (i := 38) (by decide +kernel))) rfl
theorem w1358 : Cond.instanceMethod ⟨"BellPlate$Fit", "seekTrade", "()V"⟩ ∈ lw_ok := okm (tk_6 (List.mem_of_getElem? (l := tables_1_6) (i := 39) (by decide +kernel))) rfl
theorem w1359 : Cond.selects "BellPlate$Fit" ⟨"BellPlate$Fit", "seekTrade", "()V"⟩ ⟨"BellPlate$Fit", "seekTrade", "()V"⟩ ∈ lw_ok := okm (tk_6 (List.mem_of_getElem? (l := tables_1_6) (i := 40) (by decide +kernel))) rfl
theorem w1360 : Cond.code ⟨"BellPlate$Fit", "seekTrade", "()V"⟩ prog_5_method_6_code 2 (none) ∈ lw_ok := okm (tk_6 (List.mem_of_getElem? (l := tables_1_6) (i := 41) (by decide +kernel))) rfl
theorem w1361 : Cond.methodLink "BellPlate$Fit" 107 ⟨"BellPlate$Fit", "gatherTrials", "()V"⟩ ∈ lw_ok := okm (tk_6 (List.mem_of_getElem? (l := tables_1_6) (i := 42) (by decide +kernel))) rfl
theorem w1363 : Cond.instanceMethod ⟨"BellPlate$Fit", "gatherTrials", "()V"⟩ ∈ lw_ok := okm (tk_6 (List.mem_of_getElem? (l := tables_1_6) (i := 44) (by decide +kernel))) rfl
theorem w1364 : Cond.code ⟨"BellPlate$Fit", "gatherTrials", "()V"⟩ prog_5_method_7_code 7 (none) ∈ lw_ok := okm (tk_6 (List.mem_of_getElem? (l := tables_1_6) (i := 45) (by decide +kernel))) rfl
theorem w1365 : Cond.methodLink "BellPlate$Fit" 120 ⟨"java/util/Arrays", "fill", "([JJ)V"⟩ ∈ lw_ok := okm (tk_6 (List.mem_of_getElem? (l := tables_1_6) (i := 46) (by decide +kernel))) rfl
theorem w1366 : Cond.methodLink "BellPlate$Fit" 123 ⟨"BellPlate$Book", "trials", "()I"⟩ ∈ lw_ok := okm (tk_6 (List.mem_of_getElem? (l := tables_1_6) (i := 47) (by decide +kernel))) rfl
theorem w1367 : Cond.instanceMethod ⟨"BellPlate$Book", "trials", "()I"⟩ ∈ lw_ok := okm (tk_6 (List.mem_of_getElem? (l := tables_1_6) (i := 48) (by decide +kernel))) rfl
theorem w1368 : Cond.selects "BellPlate$Book" ⟨"BellPlate$Book", "trials", "()I"⟩ ⟨"BellPlate$Book", "trials", "()I"⟩ ∈ lw_ok := okm (tk_6 (List.mem_of_getElem? (l := tables_1_6) (i := 49) (by decide +kernel))) rfl
theorem w1369 : Cond.code ⟨"BellPlate$Book", "trials", "()I"⟩ prog_2_method_2_code 1 (some FieldType.int) ∈ lw_ok := okm (tk_6 (List.mem_of_getElem? (l := tables_1_6) (i := 50) (by decide +kernel))) rfl
theorem w1370 : Cond.methodLink "BellPlate$Fit" 126 ⟨"BellPlate$Book", "setAt", "(I)I"⟩ ∈ lw_ok := okm (tk_6 (List.mem_of_getElem? (l := tables_1_6) (i := 51) (by decide +kernel))) rfl
theorem w1371 : Cond.instanceMethod ⟨"BellPlate$Book", "setAt", "(I)I"⟩ ∈ lw_ok := okm (tk_6 (List.mem_of_getElem? (l := tables_1_6) (i := 52) (by decide +kernel))) rfl
theorem w1372 : Cond.selects "BellPlate$Book" ⟨"BellPlate$Book", "setAt", "(I)I"⟩ ⟨"BellPlate$Book", "setAt", "(I)I"⟩ ∈ lw_ok := okm (tk_6 (List.mem_of_getElem? (l := tables_1_6) (i := 53) (by decide +kernel))) rfl
theorem w1373 : Cond.code ⟨"BellPlate$Book", "setAt", "(I)I"⟩ prog_2_method_6_code 2 (some FieldType.int) ∈ lw_ok := okm (tk_6 (List.mem_of_getElem? (l := tables_1_6) (i := 54) (by decide +kernel))) rfl
theorem w1374 : Cond.methodLink "BellPlate$Book" 44 ⟨"BellPlate$Book", "hasTrial", "(I)Z"⟩ ∈ lw_ok := okm (tk_6 (List.mem_of_getElem? (l := tables_1_6) (i := 55) (by decide +kernel))) rfl
theorem w1375 : Cond.instanceMethod ⟨"BellPlate$Book", "hasTrial", "(I)Z"⟩ ∈ lw_ok := okm (tk_6 (List.mem_of_getElem? (l := tables_1_6) (i := 56) (by decide +kernel))) rfl
theorem w1376 : Cond.selects "BellPlate$Book" ⟨"BellPlate$Book", "hasTrial", "(I)Z"⟩ ⟨"BellPlate$Book", "hasTrial", "(I)Z"⟩ ∈ lw_ok := okm (tk_6 (List.mem_of_getElem? (l := tables_1_6) (i := 57) (by decide +kernel))) rfl
theorem w1377 : Cond.code ⟨"BellPlate$Book", "hasTrial", "(I)Z"⟩ prog_2_method_5_code 2 (some FieldType.boolean) ∈ lw_ok := okm (tk_6 (List.mem_of_getElem? (l := tables_1_6) (i := 58) (by decide +kernel))) rfl
theorem w1378 : Cond.methodLink "BellPlate$Fit" 130 ⟨"BellPlate$Book", "rangAt", "(I)Z"⟩ ∈ lw_ok := okm (tk_6 (List.mem_of_getElem? (l := tables_1_6) (i := 59) (by decide +kernel))) rfl
theorem w1379 : Cond.instanceMethod ⟨"BellPlate$Book", "rangAt", "(I)Z"⟩ ∈ lw_ok := okm (tk_6 (List.mem_of_getElem? (l := tables_1_6) (i := 60) (by decide +kernel))) rfl
theorem w1380 : Cond.selects "BellPlate$Book" ⟨"BellPlate$Book", "rangAt", "(I)Z"⟩ ⟨"BellPlate$Book", "rangAt", "(I)Z"⟩ ∈ lw_ok := okm (tk_6 (List.mem_of_getElem? (l := tables_1_6) (i := 61) (by decide +kernel))) rfl
theorem w1381 : Cond.code ⟨"BellPlate$Book", "rangAt", "(I)Z"⟩ prog_2_method_7_code 2 (some FieldType.boolean) ∈ lw_ok := okm (tk_6 (List.mem_of_getElem? (l := tables_1_6) (i := 62) (by decide +kernel))) rfl
theorem w1382 : Cond.methodLink "BellPlate$Fit" 134 ⟨"BellPlate$Sets", "has", "(JI)Z"⟩ ∈ lw_ok := okm (tk_6 (List.mem_of_getElem? (l := tables_1_6) (i := 63) (by decide +kernel))) rfl
theorem w1383 : Cond.methodLink "BellPlate$Fit" 138 ⟨"BellPlate$Fit", "addHolder", "(II)V"⟩ ∈ lw_ok := okm (tk_6 (List.mem_of_getElem? (l := tables_1_6) (i := 64) (by decide +kernel))) rfl
theorem w1385 : Cond.instanceMethod ⟨"BellPlate$Fit", "addHolder", "(II)V"⟩ ∈ lw_ok := okm (tk_6 (List.mem_of_getElem? (l := tables_1_6) (i := 66) (by decide +kernel))) rfl
theorem w1386 : Cond.code ⟨"BellPlate$Fit", "addHolder", "(II)V"⟩ prog_5_method_8_code 4 (none) ∈ lw_ok := okm (tk_6 (List.mem_of_getElem? (l := tables_1_6) (i := 67) (by decide +kernel))) rfl
theorem w1387 : Cond.methodLink "BellPlate$Fit" 113 ⟨"BellPlate$Fit", "chooseRinging", "(IIIIII)Z"⟩ ∈ lw_ok := okm (tk_6 (List.mem_of_getElem? (l := tables_1_6) (i := 68) (by decide +kernel))) rfl
theorem w1389 : Cond.instanceMethod ⟨"BellPlate$Fit", "chooseRinging", "(IIIIII)Z"⟩ ∈ lw_ok := okm (tk_6 (List.mem_of_getElem? (l := tables_1_6) (i := 70) (by decide +kernel))) rfl
theorem w1390 : Cond.code ⟨"BellPlate$Fit", "chooseRinging", "(IIIIII)Z"⟩ prog_5_method_9_code 10 (some FieldType.boolean) ∈ lw_ok := okm (tk_6 (List.mem_of_getElem? (l := tables_1_6) (i := 71) (by decide +kernel))) rfl
theorem w1391 : Cond.methodLink "BellPlate$Fit" 141 ⟨"BellPlate$Fit", "chooseSilent", "(IIIIII)Z"⟩ ∈ lw_ok := okm (tk_6 (List.mem_of_getElem? (l := tables_1_6) (i := 72) (by decide +kernel))) rfl
theorem w1393 : Cond.instanceMethod ⟨"BellPlate$Fit", "chooseSilent", "(IIIIII)Z"⟩ ∈ lw_ok := okm (tk_6 (List.mem_of_getElem? (l := tables_1_6) (i := 74) (by decide +kernel))) rfl
theorem w1394 : Cond.code ⟨"BellPlate$Fit", "chooseSilent", "(IIIIII)Z"⟩ prog_5_method_10_code 12 (some FieldType.boolean) ∈ lw_ok := okm (tk_6 (List.mem_of_getElem? (l := tables_1_6) (i := 75) (by decide +kernel))) rfl
theorem w1395 : Cond.methodLink "BellPlate" 270 ⟨"BellPlate$Fit", "trade", "(I)I"⟩ ∈ lw_ok := okm (tk_6 (List.mem_of_getElem? (l := tables_1_6) (i := 76) (by decide +kernel))) rfl
theorem w1396 : Cond.instanceMethod ⟨"BellPlate$Fit", "trade", "(I)I"⟩ ∈ lw_ok := okm (tk_6 (List.mem_of_getElem? (l := tables_1_6) (i := 77) (by decide +kernel))) rfl
theorem w1397 : Cond.selects "BellPlate$Fit" ⟨"BellPlate$Fit", "trade", "(I)I"⟩ ⟨"BellPlate$Fit", "trade", "(I)I"⟩ ∈ lw_ok := okm (tk_6 (List.mem_of_getElem? (l := tables_1_6) (i := 78) (by decide +kernel))) rfl
theorem w1398 : Cond.code ⟨"BellPlate$Fit", "trade", "(I)I"⟩ prog_5_method_11_code 3 (some FieldType.int) ∈ lw_ok := okm (tk_6 (List.mem_of_getElem? (l := tables_1_6) (i := 79) (by decide +kernel))) rfl
theorem w1399 : Cond.methodLink "BellPlateLaw" 112 ⟨"BellPlate", "wrong", "(I)I"⟩ ∈ lw_ok := okm (tk_6 (List.mem_of_getElem? (l := tables_1_6) (i := 80) (by decide +kernel))) rfl
theorem w1400 : Cond.instanceMethod ⟨"BellPlate", "wrong", "(I)I"⟩ ∈ lw_ok := okm (tk_6 (List.mem_of_getElem? (l := tables_1_6) (i := 81) (by decide +kernel))) rfl
theorem w1401 : Cond.selects "BellPlate" ⟨"BellPlate", "wrong", "(I)I"⟩ ⟨"BellPlate", "wrong", "(I)I"⟩ ∈ lw_ok := okm (tk_6 (List.mem_of_getElem? (l := tables_1_6) (i := 82) (by decide +kernel))) rfl
theorem w1402 : Cond.code ⟨"BellPlate", "wrong", "(I)I"⟩ prog_1_method_24_code 2 (some FieldType.int) ∈ lw_ok := okm (tk_6 (List.mem_of_getElem? (l := tables_1_6) (i := 83) (by decide +kernel))) rfl
theorem w1403 : Cond.methodLink "BellPlate" 273 ⟨"BellPlate$Lists", "allowed", "()I"⟩ ∈ lw_ok := okm (tk_6 (List.mem_of_getElem? (l := tables_1_6) (i := 84) (by decide +kernel))) rfl
theorem w1404 : Cond.instanceMethod ⟨"BellPlate$Lists", "allowed", "()I"⟩ ∈ lw_ok := okm (tk_6 (List.mem_of_getElem? (l := tables_1_6) (i := 85) (by decide +kernel))) rfl
theorem w1405 : Cond.selects "BellPlate$Lists" ⟨"BellPlate$Lists", "allowed", "()I"⟩ ⟨"BellPlate$Lists", "allowed", "()I"⟩ ∈ lw_ok := okm (tk_6 (List.mem_of_getElem? (l := tables_1_6) (i := 86) (by decide +kernel))) rfl
theorem w1406 : Cond.code ⟨"BellPlate$Lists", "allowed", "()I"⟩ prog_6_method_3_code 1 (some FieldType.int) ∈ lw_ok := okm (tk_6 (List.mem_of_getElem? (l := tables_1_6) (i := 87) (by decide +kernel))) rfl
theorem w1407 : Cond.methodLink "BellPlate" 276 ⟨"BellPlate$Doubt", "refresh", "()V"⟩ ∈ lw_ok := okm (tk_6 (List.mem_of_getElem? (l := tables_1_6) (i := 88) (by decide +kernel))) rfl
theorem w1408 : Cond.instanceMethod ⟨"BellPlate$Doubt", "refresh", "()V"⟩ ∈ lw_ok := okm (tk_6 (List.mem_of_getElem? (l := tables_1_6) (i := 89) (by decide +kernel))) rfl
theorem w1409 : Cond.selects "BellPlate$Doubt" ⟨"BellPlate$Doubt", "refresh", "()V"⟩ ⟨"BellPlate$Doubt", "refresh", "()V"⟩ ∈ lw_ok := okm (tk_6 (List.mem_of_getElem? (l := tables_1_6) (i := 90) (by decide +kernel))) rfl
theorem w1410 : Cond.code ⟨"BellPlate$Doubt", "refresh", "()V"⟩ prog_4_method_2_code 2 (none) ∈ lw_ok := okm (tk_6 (List.mem_of_getElem? (l := tables_1_6) (i := 91) (by decide +kernel))) rfl
theorem w1411 : Cond.methodLink "BellPlate$Doubt" 48 ⟨"BellPlate$Book", "age", "()I"⟩ ∈ lw_ok := okm (tk_6 (List.mem_of_getElem? (l := tables_1_6) (i := 92) (by decide +kernel))) rfl
theorem w1412 : Cond.methodLink "BellPlate$Doubt" 51 ⟨"java/util/Arrays", "fill", "([JJ)V"⟩ ∈ lw_ok := okm (tk_6 (List.mem_of_getElem? (l := tables_1_6) (i := 93) (by decide +kernel))) rfl
theorem w1413 : Cond.methodLink "BellPlate$Doubt" 57 ⟨"BellPlate$Book", "trials", "()I"⟩ ∈ lw_ok := okm (tk_6 (List.mem_of_getElem? (l := tables_1_6) (i := 94) (by decide +kernel))) rfl
theorem w1414 : Cond.methodLink "BellPlate$Doubt" 60 ⟨"BellPlate$Book", "rangAt", "(I)Z"⟩ ∈ lw_ok := okm (tk_6 (List.mem_of_getElem? (l := tables_1_6) (i := 95) (by decide +kernel))) rfl
theorem w1415 : Cond.methodLink "BellPlate$Doubt" 64 ⟨"BellPlate$Book", "setAt", "(I)I"⟩ ∈ lw_ok := okm (tk_6 (List.mem_of_getElem? (l := tables_1_6) (i := 96) (by decide +kernel))) rfl
theorem w1416 : Cond.methodLink "BellPlate$Doubt" 68 ⟨"BellPlate$Sets", "addTo", "([JJI)V"⟩ ∈ lw_ok := okm (tk_6 (List.mem_of_getElem? (l := tables_1_6) (i := 97) (by decide +kernel))) rfl
theorem w1417 : Cond.methodLink "BellPlate$Doubt" 74 ⟨"java/util/Arrays", "fill", "([II)V"⟩ ∈ lw_ok := okm (tk_6 (List.mem_of_getElem? (l := tables_1_6) (i := 98) (by decide +kernel))) rfl
theorem w1418 : Cond.constantLong "BellPlate$Doubt" 84 (-1) ∈ lw_ok := okm (tk_6 (List.mem_of_getElem? (l := tables_1_6) (i := 99) (by decide +kernel))) rfl
theorem w1419 : Cond.methodLink "BellPlate$Doubt" 89 ⟨"BellPlate$Lists", "size", "()I"⟩ ∈ lw_ok := okm (tk_6 (List.mem_of_getElem? (l := tables_1_6) (i := 100) (by decide +kernel))) rfl
theorem w1420 : Cond.methodLink "BellPlate$Doubt" 94 ⟨"BellPlate$Lists", "at", "(I)J"⟩ ∈ lw_ok := okm (tk_6 (List.mem_of_getElem? (l := tables_1_6) (i := 101) (by decide +kernel))) rfl
theorem w1421 : Cond.methodLink "BellPlate$Doubt" 98 ⟨"BellPlate$Lists", "share", "(I)I"⟩ ∈ lw_ok := okm (tk_6 (List.mem_of_getElem? (l := tables_1_6) (i := 102) (by decide +kernel))) rfl
theorem w1422 : Cond.methodLink "BellPlate$Doubt" 101 ⟨"BellPlate$Doubt", "note", "(JI)V"⟩ ∈ lw_ok := okm (tk_6 (List.mem_of_getElem? (l := tables_1_6) (i := 103) (by decide +kernel))) rfl
theorem w1424 : Cond.instanceMethod ⟨"BellPlate$Doubt", "note", "(JI)V"⟩ ∈ lw_ok := okm (tk_6 (List.mem_of_getElem? (l := tables_1_6) (i := 105) (by decide +kernel))) rfl
theorem w1425 : Cond.code ⟨"BellPlate$Doubt", "note", "(JI)V"⟩ prog_4_method_3_code 7 (none) ∈ lw_ok := okm (tk_6 (List.mem_of_getElem? (l := tables_1_6) (i := 106) (by decide +kernel))) rfl
theorem w1426 : Cond.methodLink "BellPlate$Doubt" 105 ⟨"java/lang/Long", "bitCount", "(J)I"⟩ ∈ lw_ok := okm (tk_6 (List.mem_of_getElem? (l := tables_1_6) (i := 107) (by decide +kernel))) rfl
theorem w1427 : Cond.methodLink "BellPlate" 277 ⟨"BellPlate$Doubt", "fewestWrong", "()I"⟩ ∈ lw_ok := okm (tk_6 (List.mem_of_getElem? (l := tables_1_6) (i := 108) (by decide +kernel))) rfl
theorem w1428 : Cond.instanceMethod ⟨"BellPlate$Doubt", "fewestWrong", "()I"⟩ ∈ lw_ok := okm (tk_6 (List.mem_of_getElem? (l := tables_1_6) (i := 109) (by decide +kernel))) rfl
theorem w1429 : Cond.selects "BellPlate$Doubt" ⟨"BellPlate$Doubt", "fewestWrong", "()I"⟩ ⟨"BellPlate$Doubt", "fewestWrong", "()I"⟩ ∈ lw_ok := okm (tk_6 (List.mem_of_getElem? (l := tables_1_6) (i := 110) (by decide +kernel))) rfl
theorem w1430 : Cond.code ⟨"BellPlate$Doubt", "fewestWrong", "()I"⟩ prog_4_method_4_code 1 (some FieldType.int) ∈ lw_ok := okm (tk_6 (List.mem_of_getElem? (l := tables_1_6) (i := 111) (by decide +kernel))) rfl
theorem w1431 : Cond.methodLink "BellPlate" 280 ⟨"BellPlate$Doubt", "weightsWith", "(I)I"⟩ ∈ lw_ok := okm (tk_6 (List.mem_of_getElem? (l := tables_1_6) (i := 112) (by decide +kernel))) rfl
theorem w1432 : Cond.instanceMethod ⟨"BellPlate$Doubt", "weightsWith", "(I)I"⟩ ∈ lw_ok := okm (tk_6 (List.mem_of_getElem? (l := tables_1_6) (i := 113) (by decide +kernel))) rfl
theorem w1433 : Cond.selects "BellPlate$Doubt" ⟨"BellPlate$Doubt", "weightsWith", "(I)I"⟩ ⟨"BellPlate$Doubt", "weightsWith", "(I)I"⟩ ∈ lw_ok := okm (tk_6 (List.mem_of_getElem? (l := tables_1_6) (i := 114) (by decide +kernel))) rfl
theorem w1434 : Cond.code ⟨"BellPlate$Doubt", "weightsWith", "(I)I"⟩ prog_4_method_5_code 4 (some FieldType.int) ∈ lw_ok := okm (tk_6 (List.mem_of_getElem? (l := tables_1_6) (i := 115) (by decide +kernel))) rfl
theorem w1435 : Cond.methodLink "BellPlateLaw" 116 ⟨"BellPlate", "suspect", "(I)I"⟩ ∈ lw_ok := okm (tk_6 (List.mem_of_getElem? (l := tables_1_6) (i := 116) (by decide +kernel))) rfl
theorem w1436 : Cond.instanceMethod ⟨"BellPlate", "suspect", "(I)I"⟩ ∈ lw_ok := okm (tk_6 (List.mem_of_getElem? (l := tables_1_6) (i := 117) (by decide +kernel))) rfl
theorem w1437 : Cond.selects "BellPlate" ⟨"BellPlate", "suspect", "(I)I"⟩ ⟨"BellPlate", "suspect", "(I)I"⟩ ∈ lw_ok := okm (tk_6 (List.mem_of_getElem? (l := tables_1_6) (i := 118) (by decide +kernel))) rfl
theorem w1438 : Cond.code ⟨"BellPlate", "suspect", "(I)I"⟩ prog_1_method_25_code 2 (some FieldType.int) ∈ lw_ok := okm (tk_6 (List.mem_of_getElem? (l := tables_1_6) (i := 119) (by decide +kernel))) rfl
theorem w1439 : Cond.methodLink "BellPlate" 283 ⟨"BellPlate$Book", "hasTrial", "(I)Z"⟩ ∈ lw_ok := okm (tk_6 (List.mem_of_getElem? (l := tables_1_6) (i := 120) (by decide +kernel))) rfl
theorem w1440 : Cond.methodLink "BellPlate" 286 ⟨"BellPlate$Doubt", "alwaysWrong", "(I)Z"⟩ ∈ lw_ok := okm (tk_6 (List.mem_of_getElem? (l := tables_1_6) (i := 121) (by decide +kernel))) rfl
theorem w1441 : Cond.instanceMethod ⟨"BellPlate$Doubt", "alwaysWrong", "(I)Z"⟩ ∈ lw_ok := okm (tk_6 (List.mem_of_getElem? (l := tables_1_6) (i := 122) (by decide +kernel))) rfl
theorem w1442 : Cond.selects "BellPlate$Doubt" ⟨"BellPlate$Doubt", "alwaysWrong", "(I)Z"⟩ ⟨"BellPlate$Doubt", "alwaysWrong", "(I)Z"⟩ ∈ lw_ok := okm (tk_6 (List.mem_of_getElem? (l := tables_1_6) (i := 123) (by decide +kernel))) rfl
theorem w1443 : Cond.code ⟨"BellPlate$Doubt", "alwaysWrong", "(I)Z"⟩ prog_4_method_6_code 3 (some FieldType.boolean) ∈ lw_ok := okm (tk_6 (List.mem_of_getElem? (l := tables_1_6) (i := 124) (by decide +kernel))) rfl
theorem w1444 : Cond.methodLink "BellPlate$Doubt" 111 ⟨"BellPlate$Sets", "has", "(JI)Z"⟩ ∈ lw_ok := okm (tk_6 (List.mem_of_getElem? (l := tables_1_6) (i := 125) (by decide +kernel))) rfl
theorem w1445 : Cond.methodLink "BellPlateLaw" 120 ⟨"BellPlate", "with", "(I)I"⟩ ∈ lw_ok := okm (tk_6 (List.mem_of_getElem? (l := tables_1_6) (i := 126) (by decide +kernel))) rfl
theorem w1446 : Cond.instanceMethod ⟨"BellPlate", "with", "(I)I"⟩ ∈ lw_ok := okm (tk_6 (List.mem_of_getElem? (l := tables_1_6) (i := 127) (by decide +kernel))) rfl
theorem w1447 : Cond.selects "BellPlate" ⟨"BellPlate", "with", "(I)I"⟩ ⟨"BellPlate", "with", "(I)I"⟩ ∈ lw_ok := okm (tk_6 (List.mem_of_getElem? (l := tables_1_6) (i := 128) (by decide +kernel))) rfl
theorem w1448 : Cond.code ⟨"BellPlate", "with", "(I)I"⟩ prog_1_method_26_code 2 (some FieldType.int) ∈ lw_ok := okm (tk_6 (List.mem_of_getElem? (l := tables_1_6) (i := 129) (by decide +kernel))) rfl
theorem w1449 : Cond.methodLink "BellPlateLaw" 124 ⟨"BellPlate", "grown", "(I)I"⟩ ∈ lw_ok := okm (tk_6 (List.mem_of_getElem? (l := tables_1_6) (i := 130) (by decide +kernel))) rfl
theorem w1450 : Cond.instanceMethod ⟨"BellPlate", "grown", "(I)I"⟩ ∈ lw_ok := okm (tk_6 (List.mem_of_getElem? (l := tables_1_6) (i := 131) (by decide +kernel))) rfl
theorem w1451 : Cond.selects "BellPlate" ⟨"BellPlate", "grown", "(I)I"⟩ ⟨"BellPlate", "grown", "(I)I"⟩ ∈ lw_ok := okm (tk_6 (List.mem_of_getElem? (l := tables_1_6) (i := 132) (by decide +kernel))) rfl
theorem w1452 : Cond.code ⟨"BellPlate", "grown", "(I)I"⟩ prog_1_method_27_code 2 (some FieldType.int) ∈ lw_ok := okm (tk_6 (List.mem_of_getElem? (l := tables_1_6) (i := 133) (by decide +kernel))) rfl
theorem w1453 : Cond.methodLink "BellPlate" 289 ⟨"BellPlate$Doubt", "seekGrowth", "()V"⟩ ∈ lw_ok := okm (tk_6 (List.mem_of_getElem? (l := tables_1_6) (i := 134) (by decide +kernel))) rfl
theorem w1454 : Cond.instanceMethod ⟨"BellPlate$Doubt", "seekGrowth", "()V"⟩ ∈ lw_ok := okm (tk_6 (List.mem_of_getElem? (l := tables_1_6) (i := 135) (by decide +kernel))) rfl
theorem w1455 : Cond.selects "BellPlate$Doubt" ⟨"BellPlate$Doubt", "seekGrowth", "()V"⟩ ⟨"BellPlate$Doubt", "seekGrowth", "()V"⟩ ∈ lw_ok := okm (tk_6 (List.mem_of_getElem? (l := tables_1_6) (i := 136) (by decide +kernel))) rfl
theorem w1456 : Cond.code ⟨"BellPlate$Doubt", "seekGrowth", "()V"⟩ prog_4_method_7_code 5 (none) ∈ lw_ok := okm (tk_6 (List.mem_of_getElem? (l := tables_1_6) (i := 137) (by decide +kernel))) rfl
theorem w1457 : Cond.methodLink "BellPlate$Doubt" 118 ⟨"BellPlate$Tower", "all", "()I"⟩ ∈ lw_ok := okm (tk_6 (List.mem_of_getElem? (l := tables_1_6) (i := 138) (by decide +kernel))) rfl
theorem w1458 : Cond.methodLink "BellPlate$Doubt" 121 ⟨"BellPlate$Lists", "numberOf", "(I)I"⟩ ∈ lw_ok := okm (tk_6 (List.mem_of_getElem? (l := tables_1_6) (i := 139) (by decide +kernel))) rfl
theorem w1459 : Cond.methodLink "BellPlate$Doubt" 124 ⟨"BellPlate$Doubt", "firstWrong", "(J)I"⟩ ∈ lw_ok := okm (tk_6 (List.mem_of_getElem? (l := tables_1_6) (i := 140) (by decide +kernel))) rfl
theorem w1461 : Cond.instanceMethod ⟨"BellPlate$Doubt", "firstWrong", "(J)I"⟩ ∈ lw_ok := okm (tk_6 (List.mem_of_getElem? (l := tables_1_6) (i := 142) (by decide +kernel))) rfl
theorem w1462 : Cond.code ⟨"BellPlate$Doubt", "firstWrong", "(J)I"⟩ prog_4_method_8_code 4 (some FieldType.int) ∈ lw_ok := okm (tk_6 (List.mem_of_getElem? (l := tables_1_6) (i := 143) (by decide +kernel))) rfl
theorem w1463 : Cond.methodLink "BellPlate$Doubt" 130 ⟨"BellPlate$Tower", "spread", "(I[I)V"⟩ ∈ lw_ok := okm (tk_6 (List.mem_of_getElem? (l := tables_1_6) (i := 144) (by decide +kernel))) rfl
theorem w1464 : Cond.methodLink "BellPlate$Doubt" 134 ⟨"BellPlate$Doubt", "tryGrowths", "(I)V"⟩ ∈ lw_ok := okm (tk_6 (List.mem_of_getElem? (l := tables_1_6) (i := 145) (by decide +kernel))) rfl
theorem w1466 : Cond.instanceMethod ⟨"BellPlate$Doubt", "tryGrowths", "(I)V"⟩ ∈ lw_ok := okm (tk_6 (List.mem_of_getElem? (l := tables_1_6) (i := 147) (by decide +kernel))) rfl
theorem w1467 : Cond.code ⟨"BellPlate$Doubt", "tryGrowths", "(I)V"⟩ prog_4_method_9_code 7 (none) ∈ lw_ok := okm (tk_6 (List.mem_of_getElem? (l := tables_1_6) (i := 148) (by decide +kernel))) rfl
theorem w1468 : Cond.methodLink "BellPlate$Doubt" 138 ⟨"BellPlate$Tower", "bar", "()I"⟩ ∈ lw_ok := okm (tk_6 (List.mem_of_getElem? (l := tables_1_6) (i := 149) (by decide +kernel))) rfl
theorem w1469 : Cond.methodLink "BellPlate$Doubt" 141 ⟨"BellPlate$Tower", "sumOf", "(I[I)I"⟩ ∈ lw_ok := okm (tk_6 (List.mem_of_getElem? (l := tables_1_6) (i := 150) (by decide +kernel))) rfl
theorem w1470 : Cond.methodLink "BellPlate$Doubt" 145 ⟨"java/lang/Math", "max", "(II)I"⟩ ∈ lw_ok := okm (tk_6 (List.mem_of_getElem? (l := tables_1_6) (i := 151) (by decide +kernel))) rfl
theorem w1471 : Cond.methodLink "BellPlate$Doubt" 151 ⟨"BellPlate$Tower", "things", "()I"⟩ ∈ lw_ok := okm (tk_6 (List.mem_of_getElem? (l := tables_1_6) (i := 152) (by decide +kernel))) rfl
theorem w1472 : Cond.methodLink "BellPlate$Doubt" 154 ⟨"BellPlate$Doubt", "isBetter", "(III)Z"⟩ ∈ lw_ok := okm (tk_6 (List.mem_of_getElem? (l := tables_1_6) (i := 153) (by decide +kernel))) rfl
theorem w1474 : Cond.instanceMethod ⟨"BellPlate$Doubt", "isBetter", "(III)Z"⟩ ∈ lw_ok := okm (tk_6 (List.mem_of_getElem? (l := tables_1_6) (i := 155) (by decide +kernel))) rfl
theorem w1475 : Cond.code ⟨"BellPlate$Doubt", "isBetter", "(III)Z"⟩ prog_4_method_10_code 4 (some FieldType.boolean) ∈ lw_ok := okm (tk_6 (List.mem_of_getElem? (l := tables_1_6) (i := 156) (by decide +kernel))) rfl
theorem w1476 : Cond.methodLink "BellPlate$Doubt" 158 ⟨"BellPlate$Doubt", "holdsGrown", "(III)Z"⟩ ∈ lw_ok := okm (tk_6 (List.mem_of_getElem? (l := tables_1_6) (i := 157) (by decide +kernel))) rfl
theorem w1478 : Cond.instanceMethod ⟨"BellPlate$Doubt", "holdsGrown", "(III)Z"⟩ ∈ lw_ok := okm (tk_6 (List.mem_of_getElem? (l := tables_1_6) (i := 159) (by decide +kernel))) rfl
theorem w1479 : Cond.code ⟨"BellPlate$Doubt", "holdsGrown", "(III)Z"⟩ prog_4_method_11_code 7 (some FieldType.boolean) ∈ lw_ok := okm (tk_6 (List.mem_of_getElem? (l := tables_1_6) (i := 160) (by decide +kernel))) rfl
theorem w1480 : Cond.methodLink "BellPlate" 292 ⟨"BellPlate$Doubt", "growth", "(I)I"⟩ ∈ lw_ok := okm (tk_6 (List.mem_of_getElem? (l := tables_1_6) (i := 161) (by decide +kernel))) rfl
theorem w1481 : Cond.instanceMethod ⟨"BellPlate$Doubt", "growth", "(I)I"⟩ ∈ lw_ok := okm (tk_6 (List.mem_of_getElem? (l := tables_1_6) (i := 162) (by decide +kernel))) rfl
theorem w1482 : Cond.selects "BellPlate$Doubt" ⟨"BellPlate$Doubt", "growth", "(I)I"⟩ ⟨"BellPlate$Doubt", "growth", "(I)I"⟩ ∈ lw_ok := okm (tk_6 (List.mem_of_getElem? (l := tables_1_6) (i := 163) (by decide +kernel))) rfl
theorem w1483 : Cond.code ⟨"BellPlate$Doubt", "growth", "(I)I"⟩ prog_4_method_12_code 2 (some FieldType.int) ∈ lw_ok := okm (tk_6 (List.mem_of_getElem? (l := tables_1_6) (i := 164) (by decide +kernel))) rfl
theorem w1484 : Cond.methodLink "BellPlateLaw" 128 ⟨"BellPlate", "bells", "()I"⟩ ∈ lw_ok := okm (tk_6 (List.mem_of_getElem? (l := tables_1_6) (i := 165) (by decide +kernel))) rfl
theorem w1485 : Cond.instanceMethod ⟨"BellPlate", "bells", "()I"⟩ ∈ lw_ok := okm (tk_6 (List.mem_of_getElem? (l := tables_1_6) (i := 166) (by decide +kernel))) rfl
theorem w1486 : Cond.selects "BellPlate" ⟨"BellPlate", "bells", "()I"⟩ ⟨"BellPlate", "bells", "()I"⟩ ∈ lw_ok := okm (tk_6 (List.mem_of_getElem? (l := tables_1_6) (i := 167) (by decide +kernel))) rfl
theorem w1487 : Cond.code ⟨"BellPlate", "bells", "()I"⟩ prog_1_method_28_code 1 (some FieldType.int) ∈ lw_ok := okm (tk_6 (List.mem_of_getElem? (l := tables_1_6) (i := 168) (by decide +kernel))) rfl
theorem w1488 : Cond.methodLink "BellPlate" 295 ⟨"BellPlate$Doubt", "bellsNeeded", "()I"⟩ ∈ lw_ok := okm (tk_6 (List.mem_of_getElem? (l := tables_1_6) (i := 169) (by decide +kernel))) rfl
theorem w1489 : Cond.instanceMethod ⟨"BellPlate$Doubt", "bellsNeeded", "()I"⟩ ∈ lw_ok := okm (tk_6 (List.mem_of_getElem? (l := tables_1_6) (i := 170) (by decide +kernel))) rfl
theorem w1490 : Cond.selects "BellPlate$Doubt" ⟨"BellPlate$Doubt", "bellsNeeded", "()I"⟩ ⟨"BellPlate$Doubt", "bellsNeeded", "()I"⟩ ∈ lw_ok := okm (tk_6 (List.mem_of_getElem? (l := tables_1_6) (i := 171) (by decide +kernel))) rfl
theorem w1491 : Cond.code ⟨"BellPlate$Doubt", "bellsNeeded", "()I"⟩ prog_4_method_13_code 10 (some FieldType.int) ∈ lw_ok := okm (tk_6 (List.mem_of_getElem? (l := tables_1_6) (i := 172) (by decide +kernel))) rfl
theorem w1492 : Cond.methodLink "BellPlate$Doubt" 164 ⟨"BellPlate$Book", "setsTold", "(ZI)J"⟩ ∈ lw_ok := okm (tk_6 (List.mem_of_getElem? (l := tables_1_6) (i := 173) (by decide +kernel))) rfl
theorem w1493 : Cond.methodLink "BellPlate$Doubt" 168 ⟨"BellPlate$Lists", "spare", "()[I"⟩ ∈ lw_ok := okm (tk_6 (List.mem_of_getElem? (l := tables_1_6) (i := 174) (by decide +kernel))) rfl
theorem w1494 : Cond.methodLink "BellPlate$Doubt" 172 ⟨"BellPlate$Doubt", "isCovered", "(J[II)Z"⟩ ∈ lw_ok := okm (tk_6 (List.mem_of_getElem? (l := tables_1_6) (i := 175) (by decide +kernel))) rfl
theorem w1496 : Cond.instanceMethod ⟨"BellPlate$Doubt", "isCovered", "(J[II)Z"⟩ ∈ lw_ok := okm (tk_6 (List.mem_of_getElem? (l := tables_1_6) (i := 177) (by decide +kernel))) rfl
theorem w1497 : Cond.code ⟨"BellPlate$Doubt", "isCovered", "(J[II)Z"⟩ prog_4_method_14_code 6 (some FieldType.boolean) ∈ lw_ok := okm (tk_6 (List.mem_of_getElem? (l := tables_1_6) (i := 178) (by decide +kernel))) rfl
theorem w1498 : Cond.methodLink "BellPlate$Doubt" 176 ⟨"BellPlate$Doubt", "hasPair", "(J[II)Z"⟩ ∈ lw_ok := okm (tk_6 (List.mem_of_getElem? (l := tables_1_6) (i := 179) (by decide +kernel))) rfl
theorem w1500 : Cond.instanceMethod ⟨"BellPlate$Doubt", "hasPair", "(J[II)Z"⟩ ∈ lw_ok := okm (tk_6 (List.mem_of_getElem? (l := tables_1_6) (i := 181) (by decide +kernel))) rfl
theorem w1501 : Cond.code ⟨"BellPlate$Doubt", "hasPair", "(J[II)Z"⟩ prog_4_method_15_code 9 (some FieldType.boolean) ∈ lw_ok := okm (tk_6 (List.mem_of_getElem? (l := tables_1_6) (i := 182) (by decide +kernel))) rfl
theorem w1502 : Cond.methodLink "BellPlateLaw" 132 ⟨"BellPlate", "late", "(II)I"⟩ ∈ lw_ok := okm (tk_6 (List.mem_of_getElem? (l := tables_1_6) (i := 183) (by decide +kernel))) rfl
theorem w1503 : Cond.instanceMethod ⟨"BellPlate", "late", "(II)I"⟩ ∈ lw_ok := okm (tk_6 (List.mem_of_getElem? (l := tables_1_6) (i := 184) (by decide +kernel))) rfl
theorem w1504 : Cond.selects "BellPlate" ⟨"BellPlate", "late", "(II)I"⟩ ⟨"BellPlate", "late", "(II)I"⟩ ∈ lw_ok := okm (tk_6 (List.mem_of_getElem? (l := tables_1_6) (i := 185) (by decide +kernel))) rfl
theorem w1505 : Cond.code ⟨"BellPlate", "late", "(II)I"⟩ prog_1_method_29_code 4 (some FieldType.int) ∈ lw_ok := okm (tk_6 (List.mem_of_getElem? (l := tables_1_6) (i := 186) (by decide +kernel))) rfl
theorem w1506 : Cond.methodLink "BellPlate" 298 ⟨"BellPlate$Doubt", "bestLag", "()I"⟩ ∈ lw_ok := okm (tk_6 (List.mem_of_getElem? (l := tables_1_6) (i := 187) (by decide +kernel))) rfl
theorem w1507 : Cond.instanceMethod ⟨"BellPlate$Doubt", "bestLag", "()I"⟩ ∈ lw_ok := okm (tk_6 (List.mem_of_getElem? (l := tables_1_6) (i := 188) (by decide +kernel))) rfl
theorem w1508 : Cond.selects "BellPlate$Doubt" ⟨"BellPlate$Doubt", "bestLag", "()I"⟩ ⟨"BellPlate$Doubt", "bestLag", "()I"⟩ ∈ lw_ok := okm (tk_6 (List.mem_of_getElem? (l := tables_1_6) (i := 189) (by decide +kernel))) rfl
theorem w1509 : Cond.code ⟨"BellPlate$Doubt", "bestLag", "()I"⟩ prog_4_method_17_code 5 (some FieldType.int) ∈ lw_ok := okm (tk_6 (List.mem_of_getElem? (l := tables_1_6) (i := 190) (by decide +kernel))) rfl
theorem w1510 : Cond.methodLink "BellPlate$Doubt" 183 ⟨"BellPlate$Doubt", "weightsIfLate", "(I)I"⟩ ∈ lw_ok := okm (tk_6 (List.mem_of_getElem? (l := tables_1_6) (i := 191) (by decide +kernel))) rfl
theorem w1511 : Cond.instanceMethod ⟨"BellPlate$Doubt", "weightsIfLate", "(I)I"⟩ ∈ lw_ok := okm (tk_6 (List.mem_of_getElem? (l := tables_1_6) (i := 192) (by decide +kernel))) rfl
theorem w1512 : Cond.selects "BellPlate$Doubt" ⟨"BellPlate$Doubt", "weightsIfLate", "(I)I"⟩ ⟨"BellPlate$Doubt", "weightsIfLate", "(I)I"⟩ ∈ lw_ok := okm (tk_6 (List.mem_of_getElem? (l := tables_1_6) (i := 193) (by decide +kernel))) rfl
theorem w1513 : Cond.code ⟨"BellPlate$Doubt", "weightsIfLate", "(I)I"⟩ prog_4_method_16_code 2 (some FieldType.int) ∈ lw_ok := okm (tk_6 (List.mem_of_getElem? (l := tables_1_6) (i := 194) (by decide +kernel))) rfl
theorem w1514 : Cond.methodLink "BellPlate$Doubt" 179 ⟨"BellPlate$Lists", "weightsAs", "(JJ)I"⟩ ∈ lw_ok := okm (tk_6 (List.mem_of_getElem? (l := tables_1_6) (i := 195) (by decide +kernel))) rfl
theorem w1515 : Cond.instanceMethod ⟨"BellPlate$Lists", "weightsAs", "(JJ)I"⟩ ∈ lw_ok := okm (tk_6 (List.mem_of_getElem? (l := tables_1_6) (i := 196) (by decide +kernel))) rfl
theorem w1516 : Cond.selects "BellPlate$Lists" ⟨"BellPlate$Lists", "weightsAs", "(JJ)I"⟩ ⟨"BellPlate$Lists", "weightsAs", "(JJ)I"⟩ ∈ lw_ok := okm (tk_6 (List.mem_of_getElem? (l := tables_1_6) (i := 197) (by decide +kernel))) rfl
theorem w1517 : Cond.code ⟨"BellPlate$Lists", "weightsAs", "(JJ)I"⟩ prog_6_method_12_code 7 (some FieldType.int) ∈ lw_ok := okm (tk_6 (List.mem_of_getElem? (l := tables_1_6) (i := 198) (by decide +kernel))) rfl
theorem w1518 : Cond.constantLong "BellPlate$Lists" 81 (-1) ∈ lw_ok := okm (tk_6 (List.mem_of_getElem? (l := tables_1_6) (i := 199) (by decide +kernel))) rfl
theorem w1519 : Cond.methodLink "BellPlate" 301 ⟨"BellPlate$Doubt", "weightsIfLate", "(I)I"⟩ ∈ lw_ok := okm (tk_6 (List.mem_of_getElem? (l := tables_1_6) (i := 200) (by decide +kernel))) rfl
theorem w1520 : Cond.methodLink "BellPlateLaw" 136 ⟨"BellPlate", "often", "(I)I"⟩ ∈ lw_ok := okm (tk_6 (List.mem_of_getElem? (l := tables_1_6) (i := 201) (by decide +kernel))) rfl
theorem w1521 : Cond.instanceMethod ⟨"BellPlate", "often", "(I)I"⟩ ∈ lw_ok := okm (tk_6 (List.mem_of_getElem? (l := tables_1_6) (i := 202) (by decide +kernel))) rfl
theorem w1522 : Cond.selects "BellPlate" ⟨"BellPlate", "often", "(I)I"⟩ ⟨"BellPlate", "often", "(I)I"⟩ ∈ lw_ok := okm (tk_6 (List.mem_of_getElem? (l := tables_1_6) (i := 203) (by decide +kernel))) rfl
theorem w1523 : Cond.code ⟨"BellPlate", "often", "(I)I"⟩ prog_1_method_30_code 2 (some FieldType.int) ∈ lw_ok := okm (tk_6 (List.mem_of_getElem? (l := tables_1_6) (i := 204) (by decide +kernel))) rfl
theorem w1524 : Cond.methodLink "BellPlate" 304 ⟨"BellPlate$Rest", "fewestRinging", "()I"⟩ ∈ lw_ok := okm (tk_6 (List.mem_of_getElem? (l := tables_1_6) (i := 205) (by decide +kernel))) rfl
theorem w1525 : Cond.instanceMethod ⟨"BellPlate$Rest", "fewestRinging", "()I"⟩ ∈ lw_ok := okm (tk_6 (List.mem_of_getElem? (l := tables_1_6) (i := 206) (by decide +kernel))) rfl
theorem w1526 : Cond.selects "BellPlate$Rest" ⟨"BellPlate$Rest", "fewestRinging", "()I"⟩ ⟨"BellPlate$Rest", "fewestRinging", "()I"⟩ ∈ lw_ok := okm (tk_6 (List.mem_of_getElem? (l := tables_1_6) (i := 207) (by decide +kernel))) rfl
theorem w1527 : Cond.code ⟨"BellPlate$Rest", "fewestRinging", "()I"⟩ prog_10_method_13_code 3 (some FieldType.int) ∈ lw_ok := okm (tk_6 (List.mem_of_getElem? (l := tables_1_6) (i := 208) (by decide +kernel))) rfl
theorem w1528 : Cond.methodLink "BellPlate$Rest" 86 ⟨"BellPlate$Rest", "listAt", "(I)J"⟩ ∈ lw_ok := okm (tk_6 (List.mem_of_getElem? (l := tables_1_6) (i := 209) (by decide +kernel))) rfl
theorem w1529 : Cond.methodLink "BellPlate$Rest" 95 ⟨"java/lang/Long", "bitCount", "(J)I"⟩ ∈ lw_ok := okm (tk_6 (List.mem_of_getElem? (l := tables_1_6) (i := 210) (by decide +kernel))) rfl
theorem w1530 : Cond.methodLink "BellPlate$Rest" 101 ⟨"java/lang/Math", "min", "(II)I"⟩ ∈ lw_ok := okm (tk_6 (List.mem_of_getElem? (l := tables_1_6) (i := 211) (by decide +kernel))) rfl
theorem w1531 : Cond.methodLink "BellPlate" 307 ⟨"BellPlate$Rest", "mostRinging", "()I"⟩ ∈ lw_ok := okm (tk_6 (List.mem_of_getElem? (l := tables_1_6) (i := 212) (by decide +kernel))) rfl
theorem w1532 : Cond.instanceMethod ⟨"BellPlate$Rest", "mostRinging", "()I"⟩ ∈ lw_ok := okm (tk_6 (List.mem_of_getElem? (l := tables_1_6) (i := 213) (by decide +kernel))) rfl
theorem w1533 : Cond.selects "BellPlate$Rest" ⟨"BellPlate$Rest", "mostRinging", "()I"⟩ ⟨"BellPlate$Rest", "mostRinging", "()I"⟩ ∈ lw_ok := okm (tk_6 (List.mem_of_getElem? (l := tables_1_6) (i := 214) (by decide +kernel))) rfl
theorem w1534 : Cond.code ⟨"BellPlate$Rest", "mostRinging", "()I"⟩ prog_10_method_14_code 3 (some FieldType.int) ∈ lw_ok := okm (tk_6 (List.mem_of_getElem? (l := tables_1_6) (i := 215) (by decide +kernel))) rfl
theorem w1535 : Cond.methodLink "BellPlate$Rest" 107 ⟨"java/lang/Math", "max", "(II)I"⟩ ∈ lw_ok := okm (tk_6 (List.mem_of_getElem? (l := tables_1_6) (i := 216) (by decide +kernel))) rfl
theorem w1536 : Cond.methodLink "BellPlateLaw" 140 ⟨"BellPlate", "rings", "(I)I"⟩ ∈ lw_ok := okm (tk_6 (List.mem_of_getElem? (l := tables_1_6) (i := 217) (by decide +kernel))) rfl
theorem w1537 : Cond.instanceMethod ⟨"BellPlate", "rings", "(I)I"⟩ ∈ lw_ok := okm (tk_6 (List.mem_of_getElem? (l := tables_1_6) (i := 218) (by decide +kernel))) rfl
theorem w1538 : Cond.selects "BellPlate" ⟨"BellPlate", "rings", "(I)I"⟩ ⟨"BellPlate", "rings", "(I)I"⟩ ∈ lw_ok := okm (tk_6 (List.mem_of_getElem? (l := tables_1_6) (i := 219) (by decide +kernel))) rfl
theorem w1539 : Cond.code ⟨"BellPlate", "rings", "(I)I"⟩ prog_1_method_31_code 2 (some FieldType.int) ∈ lw_ok := okm (tk_6 (List.mem_of_getElem? (l := tables_1_6) (i := 220) (by decide +kernel))) rfl
theorem w1540 : Cond.methodLink "BellPlate" 310 ⟨"BellPlate$Rest", "listsRinging", "(I)I"⟩ ∈ lw_ok := okm (tk_6 (List.mem_of_getElem? (l := tables_1_6) (i := 221) (by decide +kernel))) rfl
theorem w1541 : Cond.instanceMethod ⟨"BellPlate$Rest", "listsRinging", "(I)I"⟩ ∈ lw_ok := okm (tk_6 (List.mem_of_getElem? (l := tables_1_6) (i := 222) (by decide +kernel))) rfl
theorem w1542 : Cond.selects "BellPlate$Rest" ⟨"BellPlate$Rest", "listsRinging", "(I)I"⟩ ⟨"BellPlate$Rest", "listsRinging", "(I)I"⟩ ∈ lw_ok := okm (tk_6 (List.mem_of_getElem? (l := tables_1_6) (i := 223) (by decide +kernel))) rfl
theorem w1543 : Cond.code ⟨"BellPlate$Rest", "listsRinging", "(I)I"⟩ prog_10_method_15_code 4 (some FieldType.int) ∈ lw_ok := okm (tk_6 (List.mem_of_getElem? (l := tables_1_6) (i := 224) (by decide +kernel))) rfl
theorem w1544 : Cond.methodLink "BellPlateLaw" 144 ⟨"BellPlate", "vote", "(III)I"⟩ ∈ lw_ok := okm (tk_6 (List.mem_of_getElem? (l := tables_1_6) (i := 225) (by decide +kernel))) rfl
theorem w1545 : Cond.instanceMethod ⟨"BellPlate", "vote", "(III)I"⟩ ∈ lw_ok := okm (tk_6 (List.mem_of_getElem? (l := tables_1_6) (i := 226) (by decide +kernel))) rfl
theorem w1546 : Cond.selects "BellPlate" ⟨"BellPlate", "vote", "(III)I"⟩ ⟨"BellPlate", "vote", "(III)I"⟩ ∈ lw_ok := okm (tk_6 (List.mem_of_getElem? (l := tables_1_6) (i := 227) (by decide +kernel))) rfl
theorem w1547 : Cond.code ⟨"BellPlate", "vote", "(III)I"⟩ prog_1_method_32_code 4 (some FieldType.int) ∈ lw_ok := okm (tk_6 (List.mem_of_getElem? (l := tables_1_6) (i := 228) (by decide +kernel))) rfl
theorem w1548 : Cond.methodLink "BellPlate" 313 ⟨"BellPlate$Power", "ordersDecided", "(II)I"⟩ ∈ lw_ok := okm (tk_6 (List.mem_of_getElem? (l := tables_1_6) (i := 229) (by decide +kernel))) rfl
theorem w1549 : Cond.instanceMethod ⟨"BellPlate$Power", "ordersDecided", "(II)I"⟩ ∈ lw_ok := okm (tk_6 (List.mem_of_getElem? (l := tables_1_6) (i := 230) (by decide +kernel))) rfl
theorem w1550 : Cond.selects "BellPlate$Power" ⟨"BellPlate$Power", "ordersDecided", "(II)I"⟩ ⟨"BellPlate$Power", "ordersDecided", "(II)I"⟩ ∈ lw_ok := okm (tk_6 (List.mem_of_getElem? (l := tables_1_6) (i := 231) (by decide +kernel))) rfl
theorem w1551 : Cond.code ⟨"BellPlate$Power", "ordersDecided", "(II)I"⟩ prog_8_method_4_code 8 (some FieldType.int) ∈ lw_ok := okm (tk_6 (List.mem_of_getElem? (l := tables_1_6) (i := 232) (by decide +kernel))) rfl
theorem w1552 : Cond.methodLink "BellPlate$Power" 33 ⟨"BellPlate$Lists", "listOf", "(I)J"⟩ ∈ lw_ok := okm (tk_6 (List.mem_of_getElem? (l := tables_1_6) (i := 233) (by decide +kernel))) rfl
theorem w1553 : Cond.methodLink "BellPlate$Power" 39 ⟨"BellPlate$Sets", "swung", "(JI)J"⟩ ∈ lw_ok := okm (tk_6 (List.mem_of_getElem? (l := tables_1_6) (i := 234) (by decide +kernel))) rfl
theorem w1554 : Cond.methodLink "BellPlate$Power" 23 ⟨"BellPlate$Tower", "things", "()I"⟩ ∈ lw_ok := okm (tk_6 (List.mem_of_getElem? (l := tables_1_6) (i := 235) (by decide +kernel))) rfl
theorem w1555 : Cond.methodLink "BellPlate$Power" 29 ⟨"BellPlate$Power", "factorial", "(I)I"⟩ ∈ lw_ok := okm (tk_6 (List.mem_of_getElem? (l := tables_1_6) (i := 236) (by decide +kernel))) rfl
theorem w1556 : Cond.static ⟨"BellPlate$Power", "factorial", "(I)I"⟩ ∈ lw_ok := okm (tk_6 (List.mem_of_getElem? (l := tables_1_6) (i := 237) (by decide +kernel))) rfl
theorem w1557 : Cond.code ⟨"BellPlate$Power", "factorial", "(I)I"⟩ prog_8_method_2_code 1 (some FieldType.int) ∈ lw_ok := okm (tk_6 (List.mem_of_getElem? (l := tables_1_6) (i := 238) (by decide +kernel))) rfl
theorem w1558 : Cond.fieldLink "BellPlate$Power" 19 "BellPlate$Power" "FACTORIALS" "[I" ∈ lw_ok := okm (tk_6 (List.mem_of_getElem? (l := tables_1_6) (i := 239) (by decide +kernel))) rfl
theorem w1560 : Cond.methodLink "BellPlate$Power" 45 ⟨"BellPlate$Sets", "ofSize", "(I)J"⟩ ∈ lw_ok := okm (tk_7 (List.mem_of_getElem? (l := tables_1_7) (i := 1) (by decide +kernel))) rfl
theorem w1561 : Cond.methodLink "BellPlate$Power" 48 ⟨"java/lang/Long", "bitCount", "(J)I"⟩ ∈ lw_ok := okm (tk_7 (List.mem_of_getElem? (l := tables_1_7) (i := 2) (by decide +kernel))) rfl
theorem w1562 : Cond.methodLink "BellPlate" 316 ⟨"BellPlate$Power", "orders", "()I"⟩ ∈ lw_ok := okm (tk_7 (List.mem_of_getElem? (l := tables_1_7) (i := 3) (by decide +kernel))) rfl
theorem w1563 : Cond.instanceMethod ⟨"BellPlate$Power", "orders", "()I"⟩ ∈ lw_ok := okm (tk_7 (List.mem_of_getElem? (l := tables_1_7) (i := 4) (by decide +kernel))) rfl
theorem w1564 : Cond.selects "BellPlate$Power" ⟨"BellPlate$Power", "orders", "()I"⟩ ⟨"BellPlate$Power", "orders", "()I"⟩ ∈ lw_ok := okm (tk_7 (List.mem_of_getElem? (l := tables_1_7) (i := 5) (by decide +kernel))) rfl
theorem w1565 : Cond.code ⟨"BellPlate$Power", "orders", "()I"⟩ prog_8_method_3_code 1 (some FieldType.int) ∈ lw_ok := okm (tk_7 (List.mem_of_getElem? (l := tables_1_7) (i := 6) (by decide +kernel))) rfl
theorem w1566 : Cond.methodLink "BellPlateLaw" 148 ⟨"BellPlate", "swings", "(II)I"⟩ ∈ lw_ok := okm (tk_7 (List.mem_of_getElem? (l := tables_1_7) (i := 7) (by decide +kernel))) rfl
theorem w1567 : Cond.instanceMethod ⟨"BellPlate", "swings", "(II)I"⟩ ∈ lw_ok := okm (tk_7 (List.mem_of_getElem? (l := tables_1_7) (i := 8) (by decide +kernel))) rfl
theorem w1568 : Cond.selects "BellPlate" ⟨"BellPlate", "swings", "(II)I"⟩ ⟨"BellPlate", "swings", "(II)I"⟩ ∈ lw_ok := okm (tk_7 (List.mem_of_getElem? (l := tables_1_7) (i := 9) (by decide +kernel))) rfl
theorem w1569 : Cond.code ⟨"BellPlate", "swings", "(II)I"⟩ prog_1_method_33_code 3 (some FieldType.int) ∈ lw_ok := okm (tk_7 (List.mem_of_getElem? (l := tables_1_7) (i := 10) (by decide +kernel))) rfl
theorem w1570 : Cond.methodLink "BellPlate" 319 ⟨"BellPlate$Sets", "swung", "(JI)J"⟩ ∈ lw_ok := okm (tk_7 (List.mem_of_getElem? (l := tables_1_7) (i := 11) (by decide +kernel))) rfl
theorem w1571 : Cond.methodLink "BellPlate" 323 ⟨"java/lang/Long", "bitCount", "(J)I"⟩ ∈ lw_ok := okm (tk_7 (List.mem_of_getElem? (l := tables_1_7) (i := 12) (by decide +kernel))) rfl
theorem w1572 : Cond.methodLink "BellPlateLaw" 152 ⟨"BellPlate", "heavy", "(IZI)I"⟩ ∈ lw_ok := okm (tk_7 (List.mem_of_getElem? (l := tables_1_7) (i := 13) (by decide +kernel))) rfl
theorem w1573 : Cond.instanceMethod ⟨"BellPlate", "heavy", "(IZI)I"⟩ ∈ lw_ok := okm (tk_7 (List.mem_of_getElem? (l := tables_1_7) (i := 14) (by decide +kernel))) rfl
theorem w1574 : Cond.selects "BellPlate" ⟨"BellPlate", "heavy", "(IZI)I"⟩ ⟨"BellPlate", "heavy", "(IZI)I"⟩ ∈ lw_ok := okm (tk_7 (List.mem_of_getElem? (l := tables_1_7) (i := 15) (by decide +kernel))) rfl
theorem w1575 : Cond.code ⟨"BellPlate", "heavy", "(IZI)I"⟩ prog_1_method_34_code 5 (some FieldType.int) ∈ lw_ok := okm (tk_7 (List.mem_of_getElem? (l := tables_1_7) (i := 16) (by decide +kernel))) rfl
theorem w1576 : Cond.methodLink "BellPlate" 329 ⟨"BellPlate$Power", "nearest", "(IZ)I"⟩ ∈ lw_ok := okm (tk_7 (List.mem_of_getElem? (l := tables_1_7) (i := 17) (by decide +kernel))) rfl
theorem w1577 : Cond.instanceMethod ⟨"BellPlate$Power", "nearest", "(IZ)I"⟩ ∈ lw_ok := okm (tk_7 (List.mem_of_getElem? (l := tables_1_7) (i := 18) (by decide +kernel))) rfl
theorem w1578 : Cond.selects "BellPlate$Power" ⟨"BellPlate$Power", "nearest", "(IZ)I"⟩ ⟨"BellPlate$Power", "nearest", "(IZ)I"⟩ ∈ lw_ok := okm (tk_7 (List.mem_of_getElem? (l := tables_1_7) (i := 19) (by decide +kernel))) rfl
theorem w1579 : Cond.code ⟨"BellPlate$Power", "nearest", "(IZ)I"⟩ prog_8_method_5_code 6 (some FieldType.int) ∈ lw_ok := okm (tk_7 (List.mem_of_getElem? (l := tables_1_7) (i := 20) (by decide +kernel))) rfl
theorem w1580 : Cond.methodLink "BellPlate$Power" 54 ⟨"BellPlate$Lists", "weigh", "(I)V"⟩ ∈ lw_ok := okm (tk_7 (List.mem_of_getElem? (l := tables_1_7) (i := 21) (by decide +kernel))) rfl
theorem w1581 : Cond.methodLink "BellPlate$Power" 58 ⟨"BellPlate$Tower", "sets", "()I"⟩ ∈ lw_ok := okm (tk_7 (List.mem_of_getElem? (l := tables_1_7) (i := 22) (by decide +kernel))) rfl
theorem w1582 : Cond.methodLink "BellPlate$Power" 61 ⟨"BellPlate$Lists", "weightOf", "(I)I"⟩ ∈ lw_ok := okm (tk_7 (List.mem_of_getElem? (l := tables_1_7) (i := 23) (by decide +kernel))) rfl
theorem w1583 : Cond.instanceMethod ⟨"BellPlate$Lists", "weightOf", "(I)I"⟩ ∈ lw_ok := okm (tk_7 (List.mem_of_getElem? (l := tables_1_7) (i := 24) (by decide +kernel))) rfl
theorem w1584 : Cond.selects "BellPlate$Lists" ⟨"BellPlate$Lists", "weightOf", "(I)I"⟩ ⟨"BellPlate$Lists", "weightOf", "(I)I"⟩ ∈ lw_ok := okm (tk_7 (List.mem_of_getElem? (l := tables_1_7) (i := 25) (by decide +kernel))) rfl
theorem w1585 : Cond.code ⟨"BellPlate$Lists", "weightOf", "(I)I"⟩ prog_6_method_11_code 2 (some FieldType.int) ∈ lw_ok := okm (tk_7 (List.mem_of_getElem? (l := tables_1_7) (i := 26) (by decide +kernel))) rfl
theorem w1586 : Cond.methodLink "BellPlate$Power" 64 ⟨"BellPlate$Tower", "bar", "()I"⟩ ∈ lw_ok := okm (tk_7 (List.mem_of_getElem? (l := tables_1_7) (i := 27) (by decide +kernel))) rfl
theorem w1587 : Cond.methodLink "BellPlate$Power" 67 ⟨"BellPlate$Power", "isNearer", "(IIZ)Z"⟩ ∈ lw_ok := okm (tk_7 (List.mem_of_getElem? (l := tables_1_7) (i := 28) (by decide +kernel))) rfl
theorem w1589 : Cond.instanceMethod ⟨"BellPlate$Power", "isNearer", "(IIZ)Z"⟩ ∈ lw_ok := okm (tk_7 (List.mem_of_getElem? (l := tables_1_7) (i := 30) (by decide +kernel))) rfl
theorem w1590 : Cond.code ⟨"BellPlate$Power", "isNearer", "(IIZ)Z"⟩ prog_8_method_6_code 6 (some FieldType.boolean) ∈ lw_ok := okm (tk_7 (List.mem_of_getElem? (l := tables_1_7) (i := 31) (by decide +kernel))) rfl
theorem w1591 : Cond.methodLink "BellPlate$Power" 71 ⟨"java/lang/Integer", "bitCount", "(I)I"⟩ ∈ lw_ok := okm (tk_7 (List.mem_of_getElem? (l := tables_1_7) (i := 32) (by decide +kernel))) rfl
theorem w1592 : Cond.methodLink "BellPlate" 332 ⟨"BellPlate$Power", "weightOf", "(I)I"⟩ ∈ lw_ok := okm (tk_7 (List.mem_of_getElem? (l := tables_1_7) (i := 33) (by decide +kernel))) rfl
theorem w1593 : Cond.instanceMethod ⟨"BellPlate$Power", "weightOf", "(I)I"⟩ ∈ lw_ok := okm (tk_7 (List.mem_of_getElem? (l := tables_1_7) (i := 34) (by decide +kernel))) rfl
theorem w1594 : Cond.selects "BellPlate$Power" ⟨"BellPlate$Power", "weightOf", "(I)I"⟩ ⟨"BellPlate$Power", "weightOf", "(I)I"⟩ ∈ lw_ok := okm (tk_7 (List.mem_of_getElem? (l := tables_1_7) (i := 35) (by decide +kernel))) rfl
theorem w1595 : Cond.code ⟨"BellPlate$Power", "weightOf", "(I)I"⟩ prog_8_method_7_code 2 (some FieldType.int) ∈ lw_ok := okm (tk_7 (List.mem_of_getElem? (l := tables_1_7) (i := 36) (by decide +kernel))) rfl
theorem w1596 : Cond.methodLink "BellPlateLaw" 157 ⟨"BellPlate", "leastSet", "(II)I"⟩ ∈ lw_ok := okm (tk_7 (List.mem_of_getElem? (l := tables_1_7) (i := 37) (by decide +kernel))) rfl
theorem w1597 : Cond.instanceMethod ⟨"BellPlate", "leastSet", "(II)I"⟩ ∈ lw_ok := okm (tk_7 (List.mem_of_getElem? (l := tables_1_7) (i := 38) (by decide +kernel))) rfl
theorem w1598 : Cond.selects "BellPlate" ⟨"BellPlate", "leastSet", "(II)I"⟩ ⟨"BellPlate", "leastSet", "(II)I"⟩ ∈ lw_ok := okm (tk_7 (List.mem_of_getElem? (l := tables_1_7) (i := 39) (by decide +kernel))) rfl
theorem w1599 : Cond.code ⟨"BellPlate", "leastSet", "(II)I"⟩ prog_1_method_35_code 5 (some FieldType.int) ∈ lw_ok := okm (tk_7 (List.mem_of_getElem? (l := tables_1_7) (i := 40) (by decide +kernel))) rfl
theorem w1600 : Cond.methodLink "BellPlate" 335 ⟨"BellPlate$Sets", "leastOf", "(J)J"⟩ ∈ lw_ok := okm (tk_7 (List.mem_of_getElem? (l := tables_1_7) (i := 41) (by decide +kernel))) rfl
theorem w1601 : Cond.methodLink "BellPlate" 339 ⟨"BellPlate$Sets", "ith", "(JI)I"⟩ ∈ lw_ok := okm (tk_7 (List.mem_of_getElem? (l := tables_1_7) (i := 42) (by decide +kernel))) rfl
theorem w1602 : Cond.static ⟨"BellPlate$Sets", "ith", "(JI)I"⟩ ∈ lw_ok := okm (tk_7 (List.mem_of_getElem? (l := tables_1_7) (i := 43) (by decide +kernel))) rfl
theorem w1603 : Cond.code ⟨"BellPlate$Sets", "ith", "(JI)I"⟩ prog_11_method_8_code 5 (some FieldType.int) ∈ lw_ok := okm (tk_7 (List.mem_of_getElem? (l := tables_1_7) (i := 44) (by decide +kernel))) rfl
theorem w1604 : Cond.methodLink "BellPlateLaw" 161 ⟨"BellPlate", "vetoes", "(I)I"⟩ ∈ lw_ok := okm (tk_7 (List.mem_of_getElem? (l := tables_1_7) (i := 45) (by decide +kernel))) rfl
theorem w1605 : Cond.instanceMethod ⟨"BellPlate", "vetoes", "(I)I"⟩ ∈ lw_ok := okm (tk_7 (List.mem_of_getElem? (l := tables_1_7) (i := 46) (by decide +kernel))) rfl
theorem w1606 : Cond.selects "BellPlate" ⟨"BellPlate", "vetoes", "(I)I"⟩ ⟨"BellPlate", "vetoes", "(I)I"⟩ ∈ lw_ok := okm (tk_7 (List.mem_of_getElem? (l := tables_1_7) (i := 47) (by decide +kernel))) rfl
theorem w1607 : Cond.code ⟨"BellPlate", "vetoes", "(I)I"⟩ prog_1_method_36_code 2 (some FieldType.int) ∈ lw_ok := okm (tk_7 (List.mem_of_getElem? (l := tables_1_7) (i := 48) (by decide +kernel))) rfl
theorem w1608 : Cond.methodLink "BellPlate" 343 ⟨"BellPlate$Power", "inAllThatRing", "(I)I"⟩ ∈ lw_ok := okm (tk_7 (List.mem_of_getElem? (l := tables_1_7) (i := 49) (by decide +kernel))) rfl
theorem w1609 : Cond.instanceMethod ⟨"BellPlate$Power", "inAllThatRing", "(I)I"⟩ ∈ lw_ok := okm (tk_7 (List.mem_of_getElem? (l := tables_1_7) (i := 50) (by decide +kernel))) rfl
theorem w1610 : Cond.selects "BellPlate$Power" ⟨"BellPlate$Power", "inAllThatRing", "(I)I"⟩ ⟨"BellPlate$Power", "inAllThatRing", "(I)I"⟩ ∈ lw_ok := okm (tk_7 (List.mem_of_getElem? (l := tables_1_7) (i := 51) (by decide +kernel))) rfl
theorem w1611 : Cond.code ⟨"BellPlate$Power", "inAllThatRing", "(I)I"⟩ prog_8_method_8_code 6 (some FieldType.int) ∈ lw_ok := okm (tk_7 (List.mem_of_getElem? (l := tables_1_7) (i := 52) (by decide +kernel))) rfl
theorem w1612 : Cond.methodLink "BellPlate$Power" 75 ⟨"BellPlate$Sets", "has", "(JI)Z"⟩ ∈ lw_ok := okm (tk_7 (List.mem_of_getElem? (l := tables_1_7) (i := 53) (by decide +kernel))) rfl
theorem w1613 : Cond.methodLink "BellPlateLaw" 165 ⟨"BellPlate", "same", "(II)I"⟩ ∈ lw_ok := okm (tk_7 (List.mem_of_getElem? (l := tables_1_7) (i := 54) (by decide +kernel))) rfl
theorem w1614 : Cond.instanceMethod ⟨"BellPlate", "same", "(II)I"⟩ ∈ lw_ok := okm (tk_7 (List.mem_of_getElem? (l := tables_1_7) (i := 55) (by decide +kernel))) rfl
theorem w1615 : Cond.selects "BellPlate" ⟨"BellPlate", "same", "(II)I"⟩ ⟨"BellPlate", "same", "(II)I"⟩ ∈ lw_ok := okm (tk_7 (List.mem_of_getElem? (l := tables_1_7) (i := 56) (by decide +kernel))) rfl
theorem w1616 : Cond.code ⟨"BellPlate", "same", "(II)I"⟩ prog_1_method_37_code 5 (some FieldType.int) ∈ lw_ok := okm (tk_7 (List.mem_of_getElem? (l := tables_1_7) (i := 57) (by decide +kernel))) rfl
theorem w1617 : Cond.methodLink "BellPlate" 346 ⟨"BellPlate$Tower", "allSets", "()J"⟩ ∈ lw_ok := okm (tk_7 (List.mem_of_getElem? (l := tables_1_7) (i := 58) (by decide +kernel))) rfl
theorem w1618 : Cond.instanceMethod ⟨"BellPlate$Tower", "allSets", "()J"⟩ ∈ lw_ok := okm (tk_7 (List.mem_of_getElem? (l := tables_1_7) (i := 59) (by decide +kernel))) rfl
theorem w1619 : Cond.selects "BellPlate$Tower" ⟨"BellPlate$Tower", "allSets", "()J"⟩ ⟨"BellPlate$Tower", "allSets", "()J"⟩ ∈ lw_ok := okm (tk_7 (List.mem_of_getElem? (l := tables_1_7) (i := 60) (by decide +kernel))) rfl
theorem w1620 : Cond.code ⟨"BellPlate$Tower", "allSets", "()J"⟩ prog_12_method_19_code 1 (some FieldType.long) ∈ lw_ok := okm (tk_7 (List.mem_of_getElem? (l := tables_1_7) (i := 61) (by decide +kernel))) rfl
theorem w1621 : Cond.constantLong "BellPlate$Tower" 58 (-1) ∈ lw_ok := okm (tk_7 (List.mem_of_getElem? (l := tables_1_7) (i := 62) (by decide +kernel))) rfl
theorem w1622 : Cond.constantLong "BellPlate" 349 (-1) ∈ lw_ok := okm (tk_7 (List.mem_of_getElem? (l := tables_1_7) (i := 63) (by decide +kernel))) rfl
theorem w1623 : Cond.methodLink "BellPlateLaw" 169 ⟨"BellPlate", "lay", "(I)I"⟩ ∈ lw_ok := okm (tk_7 (List.mem_of_getElem? (l := tables_1_7) (i := 64) (by decide +kernel))) rfl
theorem w1624 : Cond.instanceMethod ⟨"BellPlate", "lay", "(I)I"⟩ ∈ lw_ok := okm (tk_7 (List.mem_of_getElem? (l := tables_1_7) (i := 65) (by decide +kernel))) rfl
theorem w1625 : Cond.selects "BellPlate" ⟨"BellPlate", "lay", "(I)I"⟩ ⟨"BellPlate", "lay", "(I)I"⟩ ∈ lw_ok := okm (tk_7 (List.mem_of_getElem? (l := tables_1_7) (i := 66) (by decide +kernel))) rfl
theorem w1626 : Cond.code ⟨"BellPlate", "lay", "(I)I"⟩ prog_1_method_38_code 3 (some FieldType.int) ∈ lw_ok := okm (tk_7 (List.mem_of_getElem? (l := tables_1_7) (i := 67) (by decide +kernel))) rfl
theorem w1627 : Cond.methodLink "BellPlateLaw" 173 ⟨"BellPlate", "clear", "()Z"⟩ ∈ lw_ok := okm (tk_7 (List.mem_of_getElem? (l := tables_1_7) (i := 68) (by decide +kernel))) rfl
theorem w1628 : Cond.instanceMethod ⟨"BellPlate", "clear", "()Z"⟩ ∈ lw_ok := okm (tk_7 (List.mem_of_getElem? (l := tables_1_7) (i := 69) (by decide +kernel))) rfl
theorem w1629 : Cond.selects "BellPlate" ⟨"BellPlate", "clear", "()Z"⟩ ⟨"BellPlate", "clear", "()Z"⟩ ∈ lw_ok := okm (tk_7 (List.mem_of_getElem? (l := tables_1_7) (i := 70) (by decide +kernel))) rfl
theorem w1630 : Cond.code ⟨"BellPlate", "clear", "()Z"⟩ prog_1_method_39_code 1 (some FieldType.boolean) ∈ lw_ok := okm (tk_7 (List.mem_of_getElem? (l := tables_1_7) (i := 71) (by decide +kernel))) rfl
theorem w1631 : Cond.methodLink "BellPlateLaw" 178 ⟨"BellPlate", "feather", "(I)I"⟩ ∈ lw_ok := okm (tk_7 (List.mem_of_getElem? (l := tables_1_7) (i := 72) (by decide +kernel))) rfl
theorem w1632 : Cond.instanceMethod ⟨"BellPlate", "feather", "(I)I"⟩ ∈ lw_ok := okm (tk_7 (List.mem_of_getElem? (l := tables_1_7) (i := 73) (by decide +kernel))) rfl
theorem w1633 : Cond.selects "BellPlate" ⟨"BellPlate", "feather", "(I)I"⟩ ⟨"BellPlate", "feather", "(I)I"⟩ ∈ lw_ok := okm (tk_7 (List.mem_of_getElem? (l := tables_1_7) (i := 74) (by decide +kernel))) rfl
theorem w1634 : Cond.code ⟨"BellPlate", "feather", "(I)I"⟩ prog_1_method_40_code 6 (some FieldType.int) ∈ lw_ok := okm (tk_7 (List.mem_of_getElem? (l := tables_1_7) (i := 75) (by decide +kernel))) rfl
theorem w1635 : Cond.methodLink "BellPlateLaw" 182 ⟨"BellPlate", "odds", "(II)I"⟩ ∈ lw_ok := okm (tk_7 (List.mem_of_getElem? (l := tables_1_7) (i := 76) (by decide +kernel))) rfl
theorem w1636 : Cond.instanceMethod ⟨"BellPlate", "odds", "(II)I"⟩ ∈ lw_ok := okm (tk_7 (List.mem_of_getElem? (l := tables_1_7) (i := 77) (by decide +kernel))) rfl
theorem w1637 : Cond.selects "BellPlate" ⟨"BellPlate", "odds", "(II)I"⟩ ⟨"BellPlate", "odds", "(II)I"⟩ ∈ lw_ok := okm (tk_7 (List.mem_of_getElem? (l := tables_1_7) (i := 78) (by decide +kernel))) rfl
theorem w1638 : Cond.code ⟨"BellPlate", "odds", "(II)I"⟩ prog_1_method_41_code 3 (some FieldType.int) ∈ lw_ok := okm (tk_7 (List.mem_of_getElem? (l := tables_1_7) (i := 79) (by decide +kernel))) rfl
theorem w1639 : Cond.methodLink "BellPlate" 351 ⟨"BellPlate$Rest", "weightsRinging", "(I)I"⟩ ∈ lw_ok := okm (tk_7 (List.mem_of_getElem? (l := tables_1_7) (i := 80) (by decide +kernel))) rfl
theorem w1640 : Cond.instanceMethod ⟨"BellPlate$Rest", "weightsRinging", "(I)I"⟩ ∈ lw_ok := okm (tk_7 (List.mem_of_getElem? (l := tables_1_7) (i := 81) (by decide +kernel))) rfl
theorem w1641 : Cond.selects "BellPlate$Rest" ⟨"BellPlate$Rest", "weightsRinging", "(I)I"⟩ ⟨"BellPlate$Rest", "weightsRinging", "(I)I"⟩ ∈ lw_ok := okm (tk_7 (List.mem_of_getElem? (l := tables_1_7) (i := 82) (by decide +kernel))) rfl
theorem w1642 : Cond.code ⟨"BellPlate$Rest", "weightsRinging", "(I)I"⟩ prog_10_method_12_code 4 (some FieldType.int) ∈ lw_ok := okm (tk_7 (List.mem_of_getElem? (l := tables_1_7) (i := 83) (by decide +kernel))) rfl
theorem w1643 : Cond.methodLink "BellPlate$Rest" 89 ⟨"BellPlate$Sets", "has", "(JI)Z"⟩ ∈ lw_ok := okm (tk_7 (List.mem_of_getElem? (l := tables_1_7) (i := 84) (by decide +kernel))) rfl
theorem w1644 : Cond.methodLink "BellPlateLaw" 186 ⟨"BellPlate", "guess", "(II)I"⟩ ∈ lw_ok := okm (tk_7 (List.mem_of_getElem? (l := tables_1_7) (i := 85) (by decide +kernel))) rfl
theorem w1645 : Cond.instanceMethod ⟨"BellPlate", "guess", "(II)I"⟩ ∈ lw_ok := okm (tk_7 (List.mem_of_getElem? (l := tables_1_7) (i := 86) (by decide +kernel))) rfl
theorem w1646 : Cond.selects "BellPlate" ⟨"BellPlate", "guess", "(II)I"⟩ ⟨"BellPlate", "guess", "(II)I"⟩ ∈ lw_ok := okm (tk_7 (List.mem_of_getElem? (l := tables_1_7) (i := 87) (by decide +kernel))) rfl
theorem w1647 : Cond.code ⟨"BellPlate", "guess", "(II)I"⟩ prog_1_method_42_code 3 (some FieldType.int) ∈ lw_ok := okm (tk_7 (List.mem_of_getElem? (l := tables_1_7) (i := 88) (by decide +kernel))) rfl
theorem w1648 : Cond.methodLink "BellPlate" 354 ⟨"BellPlate$Rest", "countWeightsOf", "(ILBellPlate$Tower;)V"⟩ ∈ lw_ok := okm (tk_7 (List.mem_of_getElem? (l := tables_1_7) (i := 89) (by decide +kernel))) rfl
theorem w1649 : Cond.instanceMethod ⟨"BellPlate$Rest", "countWeightsOf", "(ILBellPlate$Tower;)V"⟩ ∈ lw_ok := okm (tk_7 (List.mem_of_getElem? (l := tables_1_7) (i := 90) (by decide +kernel))) rfl
theorem w1650 : Cond.selects "BellPlate$Rest" ⟨"BellPlate$Rest", "countWeightsOf", "(ILBellPlate$Tower;)V"⟩ ⟨"BellPlate$Rest", "countWeightsOf", "(ILBellPlate$Tower;)V"⟩ ∈ lw_ok := okm (tk_7 (List.mem_of_getElem? (l := tables_1_7) (i := 91) (by decide +kernel))) rfl
theorem w1651 : Cond.code ⟨"BellPlate$Rest", "countWeightsOf", "(ILBellPlate$Tower;)V"⟩ prog_10_method_16_code 7 (none) ∈ lw_ok := okm (tk_7 (List.mem_of_getElem? (l := tables_1_7) (i := 92) (by decide +kernel))) rfl
theorem w1652 : Cond.methodLink "BellPlate$Rest" 110 ⟨"java/util/Arrays", "fill", "([II)V"⟩ ∈ lw_ok := okm (tk_7 (List.mem_of_getElem? (l := tables_1_7) (i := 93) (by decide +kernel))) rfl
theorem w1653 : Cond.methodLink "BellPlate$Rest" 116 ⟨"BellPlate$Tower", "most", "()I"⟩ ∈ lw_ok := okm (tk_7 (List.mem_of_getElem? (l := tables_1_7) (i := 94) (by decide +kernel))) rfl
theorem w1654 : Cond.methodLink "BellPlate$Rest" 119 ⟨"BellPlate$Tower", "all", "()I"⟩ ∈ lw_ok := okm (tk_7 (List.mem_of_getElem? (l := tables_1_7) (i := 95) (by decide +kernel))) rfl
theorem w1655 : Cond.methodLink "BellPlate$Rest" 122 ⟨"BellPlate$Rest", "holds", "(I)Z"⟩ ∈ lw_ok := okm (tk_7 (List.mem_of_getElem? (l := tables_1_7) (i := 96) (by decide +kernel))) rfl
theorem w1656 : Cond.methodLink "BellPlate" 358 ⟨"BellPlate$Rest", "likeliest", "()I"⟩ ∈ lw_ok := okm (tk_7 (List.mem_of_getElem? (l := tables_1_7) (i := 97) (by decide +kernel))) rfl
theorem w1657 : Cond.instanceMethod ⟨"BellPlate$Rest", "likeliest", "()I"⟩ ∈ lw_ok := okm (tk_7 (List.mem_of_getElem? (l := tables_1_7) (i := 98) (by decide +kernel))) rfl
theorem w1658 : Cond.selects "BellPlate$Rest" ⟨"BellPlate$Rest", "likeliest", "()I"⟩ ⟨"BellPlate$Rest", "likeliest", "()I"⟩ ∈ lw_ok := okm (tk_7 (List.mem_of_getElem? (l := tables_1_7) (i := 99) (by decide +kernel))) rfl
theorem w1659 : Cond.code ⟨"BellPlate$Rest", "likeliest", "()I"⟩ prog_10_method_17_code 3 (some FieldType.int) ∈ lw_ok := okm (tk_7 (List.mem_of_getElem? (l := tables_1_7) (i := 100) (by decide +kernel))) rfl
theorem w1660 : Cond.methodLink "BellPlate" 361 ⟨"BellPlate$Rest", "lightest", "()I"⟩ ∈ lw_ok := okm (tk_7 (List.mem_of_getElem? (l := tables_1_7) (i := 101) (by decide +kernel))) rfl
theorem w1661 : Cond.instanceMethod ⟨"BellPlate$Rest", "lightest", "()I"⟩ ∈ lw_ok := okm (tk_7 (List.mem_of_getElem? (l := tables_1_7) (i := 102) (by decide +kernel))) rfl
theorem w1662 : Cond.selects "BellPlate$Rest" ⟨"BellPlate$Rest", "lightest", "()I"⟩ ⟨"BellPlate$Rest", "lightest", "()I"⟩ ∈ lw_ok := okm (tk_7 (List.mem_of_getElem? (l := tables_1_7) (i := 103) (by decide +kernel))) rfl
theorem w1663 : Cond.code ⟨"BellPlate$Rest", "lightest", "()I"⟩ prog_10_method_18_code 2 (some FieldType.int) ∈ lw_ok := okm (tk_7 (List.mem_of_getElem? (l := tables_1_7) (i := 104) (by decide +kernel))) rfl
theorem w1664 : Cond.methodLink "BellPlate" 364 ⟨"BellPlate$Rest", "heaviest", "()I"⟩ ∈ lw_ok := okm (tk_7 (List.mem_of_getElem? (l := tables_1_7) (i := 105) (by decide +kernel))) rfl
theorem w1665 : Cond.instanceMethod ⟨"BellPlate$Rest", "heaviest", "()I"⟩ ∈ lw_ok := okm (tk_7 (List.mem_of_getElem? (l := tables_1_7) (i := 106) (by decide +kernel))) rfl
theorem w1666 : Cond.selects "BellPlate$Rest" ⟨"BellPlate$Rest", "heaviest", "()I"⟩ ⟨"BellPlate$Rest", "heaviest", "()I"⟩ ∈ lw_ok := okm (tk_7 (List.mem_of_getElem? (l := tables_1_7) (i := 107) (by decide +kernel))) rfl
theorem w1667 : Cond.code ⟨"BellPlate$Rest", "heaviest", "()I"⟩ prog_10_method_19_code 2 (some FieldType.int) ∈ lw_ok := okm (tk_7 (List.mem_of_getElem? (l := tables_1_7) (i := 108) (by decide +kernel))) rfl
theorem w1668 : Cond.methodLink "BellPlateLaw" 190 ⟨"BellPlate", "mark", "(IZ)Z"⟩ ∈ lw_ok := okm (tk_7 (List.mem_of_getElem? (l := tables_1_7) (i := 109) (by decide +kernel))) rfl
theorem w1669 : Cond.instanceMethod ⟨"BellPlate", "mark", "(IZ)Z"⟩ ∈ lw_ok := okm (tk_7 (List.mem_of_getElem? (l := tables_1_7) (i := 110) (by decide +kernel))) rfl
theorem w1670 : Cond.selects "BellPlate" ⟨"BellPlate", "mark", "(IZ)Z"⟩ ⟨"BellPlate", "mark", "(IZ)Z"⟩ ∈ lw_ok := okm (tk_7 (List.mem_of_getElem? (l := tables_1_7) (i := 111) (by decide +kernel))) rfl
theorem w1671 : Cond.code ⟨"BellPlate", "mark", "(IZ)Z"⟩ prog_1_method_43_code 3 (some FieldType.boolean) ∈ lw_ok := okm (tk_7 (List.mem_of_getElem? (l := tables_1_7) (i := 112) (by decide +kernel))) rfl
theorem w1672 : Cond.methodLink "BellPlate" 367 ⟨"BellPlate$Book", "goBack", "(I)Z"⟩ ∈ lw_ok := okm (tk_7 (List.mem_of_getElem? (l := tables_1_7) (i := 113) (by decide +kernel))) rfl
theorem w1673 : Cond.instanceMethod ⟨"BellPlate$Book", "goBack", "(I)Z"⟩ ∈ lw_ok := okm (tk_7 (List.mem_of_getElem? (l := tables_1_7) (i := 114) (by decide +kernel))) rfl
theorem w1674 : Cond.selects "BellPlate$Book" ⟨"BellPlate$Book", "goBack", "(I)Z"⟩ ⟨"BellPlate$Book", "goBack", "(I)Z"⟩ ∈ lw_ok := okm (tk_7 (List.mem_of_getElem? (l := tables_1_7) (i := 115) (by decide +kernel))) rfl
theorem w1675 : Cond.code ⟨"BellPlate$Book", "goBack", "(I)Z"⟩ prog_2_method_12_code 3 (some FieldType.boolean) ∈ lw_ok := okm (tk_7 (List.mem_of_getElem? (l := tables_1_7) (i := 116) (by decide +kernel))) rfl
theorem w1676 : Cond.methodLink "BellPlate" 370 ⟨"BellPlate$Book", "layMark", "(I)Z"⟩ ∈ lw_ok := okm (tk_7 (List.mem_of_getElem? (l := tables_1_7) (i := 117) (by decide +kernel))) rfl
theorem w1677 : Cond.instanceMethod ⟨"BellPlate$Book", "layMark", "(I)Z"⟩ ∈ lw_ok := okm (tk_7 (List.mem_of_getElem? (l := tables_1_7) (i := 118) (by decide +kernel))) rfl
theorem w1678 : Cond.selects "BellPlate$Book" ⟨"BellPlate$Book", "layMark", "(I)Z"⟩ ⟨"BellPlate$Book", "layMark", "(I)Z"⟩ ∈ lw_ok := okm (tk_7 (List.mem_of_getElem? (l := tables_1_7) (i := 119) (by decide +kernel))) rfl
theorem w1679 : Cond.code ⟨"BellPlate$Book", "layMark", "(I)Z"⟩ prog_2_method_11_code 2 (some FieldType.boolean) ∈ lw_ok := okm (tk_7 (List.mem_of_getElem? (l := tables_1_7) (i := 120) (by decide +kernel))) rfl
theorem w1680 : Cond.methodLink "BellPlateLaw" 195 ⟨"BellPlate", "count", "(I)I"⟩ ∈ lw_ok := okm (tk_7 (List.mem_of_getElem? (l := tables_1_7) (i := 121) (by decide +kernel))) rfl
theorem w1681 : Cond.instanceMethod ⟨"BellPlate", "count", "(I)I"⟩ ∈ lw_ok := okm (tk_7 (List.mem_of_getElem? (l := tables_1_7) (i := 122) (by decide +kernel))) rfl
theorem w1682 : Cond.selects "BellPlate" ⟨"BellPlate", "count", "(I)I"⟩ ⟨"BellPlate", "count", "(I)I"⟩ ∈ lw_ok := okm (tk_7 (List.mem_of_getElem? (l := tables_1_7) (i := 123) (by decide +kernel))) rfl
theorem w1683 : Cond.code ⟨"BellPlate", "count", "(I)I"⟩ prog_1_method_44_code 2 (some FieldType.int) ∈ lw_ok := okm (tk_7 (List.mem_of_getElem? (l := tables_1_7) (i := 124) (by decide +kernel))) rfl
theorem w1684 : Cond.methodLink "BellPlate" 373 ⟨"BellPlate$Tower", "most", "()I"⟩ ∈ lw_ok := okm (tk_7 (List.mem_of_getElem? (l := tables_1_7) (i := 125) (by decide +kernel))) rfl
theorem w1685 : Cond.methodLink "BellPlate" 376 ⟨"BellPlate$Tower", "bar", "()I"⟩ ∈ lw_ok := okm (tk_7 (List.mem_of_getElem? (l := tables_1_7) (i := 126) (by decide +kernel))) rfl
theorem w1686 : Cond.methodLink "BellPlate" 379 ⟨"BellPlate$Tower", "all", "()I"⟩ ∈ lw_ok := okm (tk_7 (List.mem_of_getElem? (l := tables_1_7) (i := 127) (by decide +kernel))) rfl
theorem w1687 : Cond.methodLink "BellPlate" 382 ⟨"BellPlate$Lists", "size", "()I"⟩ ∈ lw_ok := okm (tk_7 (List.mem_of_getElem? (l := tables_1_7) (i := 128) (by decide +kernel))) rfl
theorem w1688 : Cond.methodLink "BellPlate" 383 ⟨"BellPlate$Book", "trials", "()I"⟩ ∈ lw_ok := okm (tk_7 (List.mem_of_getElem? (l := tables_1_7) (i := 129) (by decide +kernel))) rfl
theorem w1689 : Cond.methodLink "BellPlate" 384 ⟨"BellPlate$Book", "ringing", "()I"⟩ ∈ lw_ok := okm (tk_7 (List.mem_of_getElem? (l := tables_1_7) (i := 130) (by decide +kernel))) rfl
theorem w1690 : Cond.instanceMethod ⟨"BellPlate$Book", "ringing", "()I"⟩ ∈ lw_ok := okm (tk_7 (List.mem_of_getElem? (l := tables_1_7) (i := 131) (by decide +kernel))) rfl
theorem w1691 : Cond.selects "BellPlate$Book" ⟨"BellPlate$Book", "ringing", "()I"⟩ ⟨"BellPlate$Book", "ringing", "()I"⟩ ∈ lw_ok := okm (tk_7 (List.mem_of_getElem? (l := tables_1_7) (i := 132) (by decide +kernel))) rfl
theorem w1692 : Cond.code ⟨"BellPlate$Book", "ringing", "()I"⟩ prog_2_method_13_code 3 (some FieldType.int) ∈ lw_ok := okm (tk_7 (List.mem_of_getElem? (l := tables_1_7) (i := 133) (by decide +kernel))) rfl
theorem w1693 : Cond.methodLink "BellPlate" 387 ⟨"BellPlate$Tower", "allows", "()I"⟩ ∈ lw_ok := okm (tk_7 (List.mem_of_getElem? (l := tables_1_7) (i := 134) (by decide +kernel))) rfl
theorem w1694 : Cond.methodLink "BellPlate" 390 ⟨"BellPlate$Book", "hints", "()I"⟩ ∈ lw_ok := okm (tk_7 (List.mem_of_getElem? (l := tables_1_7) (i := 135) (by decide +kernel))) rfl
theorem w1695 : Cond.instanceMethod ⟨"BellPlate$Book", "hints", "()I"⟩ ∈ lw_ok := okm (tk_7 (List.mem_of_getElem? (l := tables_1_7) (i := 136) (by decide +kernel))) rfl
theorem w1696 : Cond.selects "BellPlate$Book" ⟨"BellPlate$Book", "hints", "()I"⟩ ⟨"BellPlate$Book", "hints", "()I"⟩ ∈ lw_ok := okm (tk_7 (List.mem_of_getElem? (l := tables_1_7) (i := 137) (by decide +kernel))) rfl
theorem w1697 : Cond.code ⟨"BellPlate$Book", "hints", "()I"⟩ prog_2_method_3_code 1 (some FieldType.int) ∈ lw_ok := okm (tk_7 (List.mem_of_getElem? (l := tables_1_7) (i := 138) (by decide +kernel))) rfl
theorem w1698 : Cond.methodLink "BellPlateLaw" 83 ⟨"BellPlateLaw", "run", "(LBellPlate;III[J)I"⟩ ∈ lw_ok := okm (tk_7 (List.mem_of_getElem? (l := tables_1_7) (i := 139) (by decide +kernel))) rfl
theorem w1699 : Cond.static ⟨"BellPlateLaw", "run", "(LBellPlate;III[J)I"⟩ ∈ lw_ok := okm (tk_7 (List.mem_of_getElem? (l := tables_1_7) (i := 140) (by decide +kernel))) rfl
theorem w1701 : Cond.classLink "BellPlateLaw" 13 "java/util/NoSuchElementException" ∈ lw_ok := okm (tk_7 (List.mem_of_getElem? (l := tables_1_7) (i := 142) (by decide +kernel))) rfl
theorem w1702 : Cond.methodLink "BellPlateLaw" 7 ⟨"BellPlate", "run", "(III)I"⟩ ∈ lw_ok := okm (tk_7 (List.mem_of_getElem? (l := tables_1_7) (i := 143) (by decide +kernel))) rfl
theorem w1703 : Cond.instanceMethod ⟨"BellPlate", "run", "(III)I"⟩ ∈ lw_ok := okm (tk_7 (List.mem_of_getElem? (l := tables_1_7) (i := 144) (by decide +kernel))) rfl
theorem w1704 : Cond.selects "BellPlate" ⟨"BellPlate", "run", "(III)I"⟩ ⟨"BellPlate", "run", "(III)I"⟩ ∈ lw_ok := okm (tk_7 (List.mem_of_getElem? (l := tables_1_7) (i := 145) (by decide +kernel))) rfl
theorem w1705 : Cond.code ⟨"BellPlate", "run", "(III)I"⟩ prog_1_method_17_code 4 (some FieldType.int) ∈ lw_ok := okm (tk_7 (List.mem_of_getElem? (l := tables_1_7) (i := 146) (by decide +kernel))) rfl
theorem w1706 : Cond.classLink "BellPlate" 218 "java/util/NoSuchElementException" ∈ lw_ok := okm (tk_7 (List.mem_of_getElem? (l := tables_1_7) (i := 147) (by decide +kernel))) rfl
theorem w1707 : Cond.instantiable "java/util/NoSuchElementException" 6 ∈ lw_ok := okm (tk_7 (List.mem_of_getElem? (l := tables_1_7) (i := 148) (by decide +kernel))) rfl
theorem w1715 : Cond.selects "java/util/NoSuchElementException" ⟨"java/lang/Throwable", "fillInStackTrace", "(I)Ljava/lang/Throwable;"⟩ ⟨"java/lang/Throwable", "fillInStackTrace", "(I)Ljava/lang/Throwable;"⟩ ∈ lw_ok := okm (tk_7 (List.mem_of_getElem? (l := tables_1_7) (i := 156) (by decide +kernel))) rfl
theorem w1716 : Cond.selects "java/util/NoSuchElementException" ⟨"java/lang/Throwable", "fillInStackTrace", "()Ljava/lang/Throwable;"⟩ ⟨"java/lang/Throwable", "fillInStackTrace", "()Ljava/lang/Throwable;"⟩ ∈ lw_ok := okm (tk_7 (List.mem_of_getElem? (l := tables_1_7) (i := 157) (by decide +kernel))) rfl
theorem w1727 : Cond.fieldLink "java/lang/Throwable" 198 "java/lang/Throwable" "backtrace" "Ljava/lang/Object;" ∈ lw_ok := okm (tk_7 (List.mem_of_getElem? (l := tables_1_7) (i := 168) (by decide +kernel))) rfl
theorem w1729 : Cond.instanceMethod ⟨"java/lang/Throwable", "<init>", "()V"⟩ ∈ lw_ok := okm (tk_7 (List.mem_of_getElem? (l := tables_1_7) (i := 170) (by decide +kernel))) rfl
theorem w1730 : Cond.code ⟨"java/lang/Throwable", "<init>", "()V"⟩ prog_28_method_1_code 1 (none) ∈ lw_ok := okm (tk_7 (List.mem_of_getElem? (l := tables_1_7) (i := 171) (by decide +kernel))) rfl
theorem w1731 : Cond.methodLink "java/lang/Throwable" 1 ⟨"java/lang/Object", "<init>", "()V"⟩ ∈ lw_ok := okm (tk_7 (List.mem_of_getElem? (l := tables_1_7) (i := 172) (by decide +kernel))) rfl
theorem w1732 : Cond.fieldLink "java/lang/Throwable" 13 "java/lang/Throwable" "UNASSIGNED_STACK" "[Ljava/lang/StackTraceElement;" ∈ lw_ok := okm (tk_7 (List.mem_of_getElem? (l := tables_1_7) (i := 173) (by decide +kernel))) rfl
theorem w1734 : Cond.fieldLink "java/lang/Throwable" 20 "java/lang/Throwable" "SUPPRESSED_SENTINEL" "Ljava/util/List;" ∈ lw_ok := okm (tk_7 (List.mem_of_getElem? (l := tables_1_7) (i := 175) (by decide +kernel))) rfl
theorem w1736 : Cond.methodLink "java/lang/Throwable" 27 ⟨"java/lang/Throwable", "fillInStackTrace", "()Ljava/lang/Throwable;"⟩ ∈ lw_ok := okm (tk_7 (List.mem_of_getElem? (l := tables_1_7) (i := 177) (by decide +kernel))) rfl
theorem w1737 : Cond.instanceMethod ⟨"java/lang/Throwable", "fillInStackTrace", "()Ljava/lang/Throwable;"⟩ ∈ lw_ok := okm (tk_7 (List.mem_of_getElem? (l := tables_1_7) (i := 178) (by decide +kernel))) rfl
theorem w1740 : Cond.methodLink "java/lang/Throwable" 202 ⟨"java/lang/Throwable", "fillInStackTrace", "(I)Ljava/lang/Throwable;"⟩ ∈ lw_ok := okm (tk_7 (List.mem_of_getElem? (l := tables_1_7) (i := 181) (by decide +kernel))) rfl
theorem w1742 : Cond.instanceMethod ⟨"java/lang/Throwable", "fillInStackTrace", "(I)Ljava/lang/Throwable;"⟩ ∈ lw_ok := okm (tk_7 (List.mem_of_getElem? (l := tables_1_7) (i := 183) (by decide +kernel))) rfl
theorem w1743 : Cond.instantiable "java/lang/Throwable" 6 ∈ lw_ok := okm (tk_7 (List.mem_of_getElem? (l := tables_1_7) (i := 184) (by decide +kernel))) rfl
theorem w1744 : Cond.native ⟨"java/lang/Throwable", "fillInStackTrace", "(I)Ljava/lang/Throwable;"⟩ ∈ lw_ok := okm (tk_7 (List.mem_of_getElem? (l := tables_1_7) (i := 185) (by decide +kernel))) rfl
theorem w1746 : Cond.methodLink "BellPlate" 222 ⟨"java/util/NoSuchElementException", "<init>", "(Ljava/lang/String;)V"⟩ ∈ lw_ok := okm (tk_7 (List.mem_of_getElem? (l := tables_1_7) (i := 187) (by decide +kernel))) rfl
theorem w1747 : Cond.instanceMethod ⟨"java/util/NoSuchElementException", "<init>", "(Ljava/lang/String;)V"⟩ ∈ lw_ok := okm (tk_7 (List.mem_of_getElem? (l := tables_1_7) (i := 188) (by decide +kernel))) rfl
theorem w1748 : Cond.code ⟨"java/util/NoSuchElementException", "<init>", "(Ljava/lang/String;)V"⟩ prog_32_method_4_code 2 (none) ∈ lw_ok := okm (tk_7 (List.mem_of_getElem? (l := tables_1_7) (i := 189) (by decide +kernel))) rfl
theorem w1749 : Cond.methodLink "java/util/NoSuchElementException" 13 ⟨"java/lang/RuntimeException", "<init>", "(Ljava/lang/String;)V"⟩ ∈ lw_ok := okm (tk_7 (List.mem_of_getElem? (l := tables_1_7) (i := 190) (by decide +kernel))) rfl
theorem w1750 : Cond.instanceMethod ⟨"java/lang/RuntimeException", "<init>", "(Ljava/lang/String;)V"⟩ ∈ lw_ok := okm (tk_7 (List.mem_of_getElem? (l := tables_1_7) (i := 191) (by decide +kernel))) rfl
theorem w1751 : Cond.code ⟨"java/lang/RuntimeException", "<init>", "(Ljava/lang/String;)V"⟩ prog_23_method_2_code 2 (none) ∈ lw_ok := okm (tk_7 (List.mem_of_getElem? (l := tables_1_7) (i := 192) (by decide +kernel))) rfl
theorem w1752 : Cond.methodLink "java/lang/RuntimeException" 7 ⟨"java/lang/Exception", "<init>", "(Ljava/lang/String;)V"⟩ ∈ lw_ok := okm (tk_7 (List.mem_of_getElem? (l := tables_1_7) (i := 193) (by decide +kernel))) rfl
theorem w1753 : Cond.instanceMethod ⟨"java/lang/Exception", "<init>", "(Ljava/lang/String;)V"⟩ ∈ lw_ok := okm (tk_7 (List.mem_of_getElem? (l := tables_1_7) (i := 194) (by decide +kernel))) rfl
theorem w1754 : Cond.code ⟨"java/lang/Exception", "<init>", "(Ljava/lang/String;)V"⟩ prog_19_method_2_code 2 (none) ∈ lw_ok := okm (tk_7 (List.mem_of_getElem? (l := tables_1_7) (i := 195) (by decide +kernel))) rfl
theorem w1755 : Cond.methodLink "java/lang/Exception" 7 ⟨"java/lang/Throwable", "<init>", "(Ljava/lang/String;)V"⟩ ∈ lw_ok := okm (tk_7 (List.mem_of_getElem? (l := tables_1_7) (i := 196) (by decide +kernel))) rfl
theorem w1756 : Cond.instanceMethod ⟨"java/lang/Throwable", "<init>", "(Ljava/lang/String;)V"⟩ ∈ lw_ok := okm (tk_7 (List.mem_of_getElem? (l := tables_1_7) (i := 197) (by decide +kernel))) rfl
theorem w1757 : Cond.code ⟨"java/lang/Throwable", "<init>", "(Ljava/lang/String;)V"⟩ prog_28_method_2_code 2 (none) ∈ lw_ok := okm (tk_7 (List.mem_of_getElem? (l := tables_1_7) (i := 198) (by decide +kernel))) rfl
theorem w1758 : Cond.fieldLink "java/lang/Throwable" 198 "java/lang/Throwable" "backtrace" "Ljava/lang/Object;" ∈ lw_ok := okm (tk_7 (List.mem_of_getElem? (l := tables_1_7) (i := 199) (by decide +kernel))) rfl
theorem w1759 : Cond.fieldLink "java/lang/Throwable" 31 "java/lang/Throwable" "detailMessage" "Ljava/lang/String;" ∈ lw_ok := okm (tk_7 (List.mem_of_getElem? (l := tables_1_7) (i := 200) (by decide +kernel))) rfl
theorem w1760 : Cond.fieldLink "java/lang/Throwable" 7 "java/lang/Throwable" "cause" "Ljava/lang/Throwable;" ∈ lw_ok := okm (tk_7 (List.mem_of_getElem? (l := tables_1_7) (i := 201) (by decide +kernel))) rfl
theorem w1761 : Cond.fieldLink "java/lang/Throwable" 17 "java/lang/Throwable" "stackTrace" "[Ljava/lang/StackTraceElement;" ∈ lw_ok := okm (tk_7 (List.mem_of_getElem? (l := tables_1_7) (i := 202) (by decide +kernel))) rfl
theorem w1762 : Cond.fieldLink "java/lang/Throwable" 24 "java/lang/Throwable" "suppressedExceptions" "Ljava/util/List;" ∈ lw_ok := okm (tk_7 (List.mem_of_getElem? (l := tables_1_7) (i := 203) (by decide +kernel))) rfl
theorem w1771 : Cond.methodLink "BellPlate" 228 ⟨"BellPlate$Chooser", "made", "()I"⟩ ∈ lw_ok := okm (tk_7 (List.mem_of_getElem? (l := tables_1_7) (i := 212) (by decide +kernel))) rfl
theorem w1772 : Cond.instanceMethod ⟨"BellPlate$Chooser", "made", "()I"⟩ ∈ lw_ok := okm (tk_7 (List.mem_of_getElem? (l := tables_1_7) (i := 213) (by decide +kernel))) rfl
theorem w1773 : Cond.selects "BellPlate$Chooser" ⟨"BellPlate$Chooser", "made", "()I"⟩ ⟨"BellPlate$Chooser", "made", "()I"⟩ ∈ lw_ok := okm (tk_7 (List.mem_of_getElem? (l := tables_1_7) (i := 214) (by decide +kernel))) rfl
theorem w1774 : Cond.code ⟨"BellPlate$Chooser", "made", "()I"⟩ prog_3_method_11_code 1 (some FieldType.int) ∈ lw_ok := okm (tk_7 (List.mem_of_getElem? (l := tables_1_7) (i := 215) (by decide +kernel))) rfl
theorem w1775 : Cond.methodLink "BellPlate" 231 ⟨"BellPlate$Chooser", "rang", "()I"⟩ ∈ lw_ok := okm (tk_7 (List.mem_of_getElem? (l := tables_1_7) (i := 216) (by decide +kernel))) rfl
theorem w1776 : Cond.instanceMethod ⟨"BellPlate$Chooser", "rang", "()I"⟩ ∈ lw_ok := okm (tk_7 (List.mem_of_getElem? (l := tables_1_7) (i := 217) (by decide +kernel))) rfl
theorem w1777 : Cond.selects "BellPlate$Chooser" ⟨"BellPlate$Chooser", "rang", "()I"⟩ ⟨"BellPlate$Chooser", "rang", "()I"⟩ ∈ lw_ok := okm (tk_7 (List.mem_of_getElem? (l := tables_1_7) (i := 218) (by decide +kernel))) rfl
theorem w1778 : Cond.code ⟨"BellPlate$Chooser", "rang", "()I"⟩ prog_3_method_12_code 1 (some FieldType.int) ∈ lw_ok := okm (tk_7 (List.mem_of_getElem? (l := tables_1_7) (i := 219) (by decide +kernel))) rfl
theorem w1779 : Cond.methodLink "BellPlate" 234 ⟨"BellPlate$Chooser", "paid", "()I"⟩ ∈ lw_ok := okm (tk_7 (List.mem_of_getElem? (l := tables_1_7) (i := 220) (by decide +kernel))) rfl
theorem w1780 : Cond.instanceMethod ⟨"BellPlate$Chooser", "paid", "()I"⟩ ∈ lw_ok := okm (tk_7 (List.mem_of_getElem? (l := tables_1_7) (i := 221) (by decide +kernel))) rfl
theorem w1781 : Cond.selects "BellPlate$Chooser" ⟨"BellPlate$Chooser", "paid", "()I"⟩ ⟨"BellPlate$Chooser", "paid", "()I"⟩ ∈ lw_ok := okm (tk_7 (List.mem_of_getElem? (l := tables_1_7) (i := 222) (by decide +kernel))) rfl
theorem w1782 : Cond.code ⟨"BellPlate$Chooser", "paid", "()I"⟩ prog_3_method_13_code 1 (some FieldType.int) ∈ lw_ok := okm (tk_7 (List.mem_of_getElem? (l := tables_1_7) (i := 223) (by decide +kernel))) rfl
theorem w1783 : Cond.methodLink "BellPlateLaw" 89 ⟨"BellPlateModel", "thrown", "()I"⟩ ∈ lw_ok := okm (tk_7 (List.mem_of_getElem? (l := tables_1_7) (i := 224) (by decide +kernel))) rfl
theorem w1784 : Cond.instanceMethod ⟨"BellPlateModel", "thrown", "()I"⟩ ∈ lw_ok := okm (tk_7 (List.mem_of_getElem? (l := tables_1_7) (i := 225) (by decide +kernel))) rfl
theorem w1785 : Cond.selects "BellPlateModel" ⟨"BellPlateModel", "thrown", "()I"⟩ ⟨"BellPlateModel", "thrown", "()I"⟩ ∈ lw_ok := okm (tk_7 (List.mem_of_getElem? (l := tables_1_7) (i := 226) (by decide +kernel))) rfl
theorem w1786 : Cond.code ⟨"BellPlateModel", "thrown", "()I"⟩ prog_14_method_1_code 1 (some FieldType.int) ∈ lw_ok := okm (tk_7 (List.mem_of_getElem? (l := tables_1_7) (i := 227) (by decide +kernel))) rfl
theorem w1787 : Cond.methodLink "BellPlateLaw" 25 ⟨"BellPlateModel", "feed", "(JJJ)I"⟩ ∈ lw_ok := okm (tk_7 (List.mem_of_getElem? (l := tables_1_7) (i := 228) (by decide +kernel))) rfl
theorem w1788 : Cond.instanceMethod ⟨"BellPlateModel", "feed", "(JJJ)I"⟩ ∈ lw_ok := okm (tk_7 (List.mem_of_getElem? (l := tables_1_7) (i := 229) (by decide +kernel))) rfl
theorem w1789 : Cond.selects "BellPlateModel" ⟨"BellPlateModel", "feed", "(JJJ)I"⟩ ⟨"BellPlateModel", "feed", "(JJJ)I"⟩ ∈ lw_ok := okm (tk_7 (List.mem_of_getElem? (l := tables_1_7) (i := 230) (by decide +kernel))) rfl
theorem w1790 : Cond.code ⟨"BellPlateModel", "feed", "(JJJ)I"⟩ prog_14_method_2_code 7 (some FieldType.int) ∈ lw_ok := okm (tk_7 (List.mem_of_getElem? (l := tables_1_7) (i := 231) (by decide +kernel))) rfl
theorem w1791 : Cond.methodLink "BellPlateModel" 7 ⟨"BellPlateModel", "lays", "(J)V"⟩ ∈ lw_ok := okm (tk_7 (List.mem_of_getElem? (l := tables_1_7) (i := 232) (by decide +kernel))) rfl
theorem w1793 : Cond.instanceMethod ⟨"BellPlateModel", "lays", "(J)V"⟩ ∈ lw_ok := okm (tk_7 (List.mem_of_getElem? (l := tables_1_7) (i := 234) (by decide +kernel))) rfl
theorem w1794 : Cond.instantiable "BellPlateModel" 76 ∈ lw_ok := okm (tk_7 (List.mem_of_getElem? (l := tables_1_7) (i := 235) (by decide +kernel))) rfl
theorem w1795 : Cond.code ⟨"BellPlateModel", "lays", "(J)V"⟩ prog_14_method_3_code 5 (none) ∈ lw_ok := okm (tk_7 (List.mem_of_getElem? (l := tables_1_7) (i := 236) (by decide +kernel))) rfl
theorem w1796 : Cond.classLink "BellPlateLaw" 16 "BellPlateModel" ∈ lw_ok := okm (tk_7 (List.mem_of_getElem? (l := tables_1_7) (i := 237) (by decide +kernel))) rfl
theorem w1797 : Cond.methodLink "BellPlateLaw" 18 ⟨"BellPlateModel", "<init>", "()V"⟩ ∈ lw_ok := okm (tk_7 (List.mem_of_getElem? (l := tables_1_7) (i := 238) (by decide +kernel))) rfl
theorem w1798 : Cond.instanceMethod ⟨"BellPlateModel", "<init>", "()V"⟩ ∈ lw_ok := okm (tk_7 (List.mem_of_getElem? (l := tables_1_7) (i := 239) (by decide +kernel))) rfl
theorem w1799 : Cond.code ⟨"BellPlateModel", "<init>", "()V"⟩ prog_14_method_4_code 2 (none) ∈ lw_ok := okm (tk_8 (List.mem_of_getElem? (l := tables_1_8) (i := 0) (by decide +kernel))) rfl
theorem w1800 : Cond.methodLink "BellPlateModel" 18 ⟨"java/lang/Object", "<init>", "()V"⟩ ∈ lw_ok := okm (tk_8 (List.mem_of_getElem? (l := tables_1_8) (i := 1) (by decide +kernel))) rfl
theorem w1801 : Cond.constantLong "BellPlateModel" 34 37901290 ∈ lw_ok := okm (tk_8 (List.mem_of_getElem? (l := tables_1_8) (i := 2) (by decide +kernel))) rfl
theorem w1802 : Cond.constantLong "BellPlateModel" 36 679747 ∈ lw_ok := okm (tk_8 (List.mem_of_getElem? (l := tables_1_8) (i := 3) (by decide +kernel))) rfl
theorem w1803 : Cond.constantLong "BellPlateModel" 38 2793 ∈ lw_ok := okm (tk_8 (List.mem_of_getElem? (l := tables_1_8) (i := 4) (by decide +kernel))) rfl
theorem w1804 : Cond.constantLong "BellPlateModel" 40 2499003 ∈ lw_ok := okm (tk_8 (List.mem_of_getElem? (l := tables_1_8) (i := 5) (by decide +kernel))) rfl
theorem w1805 : Cond.constantLong "BellPlateModel" 42 173217 ∈ lw_ok := okm (tk_8 (List.mem_of_getElem? (l := tables_1_8) (i := 6) (by decide +kernel))) rfl
theorem w1806 : Cond.constantLong "BellPlateModel" 44 19741 ∈ lw_ok := okm (tk_8 (List.mem_of_getElem? (l := tables_1_8) (i := 7) (by decide +kernel))) rfl
theorem w1807 : Cond.constantLong "BellPlateModel" 46 1891 ∈ lw_ok := okm (tk_8 (List.mem_of_getElem? (l := tables_1_8) (i := 8) (by decide +kernel))) rfl
theorem w1808 : Cond.constantLong "BellPlateModel" 48 573 ∈ lw_ok := okm (tk_8 (List.mem_of_getElem? (l := tables_1_8) (i := 9) (by decide +kernel))) rfl
theorem w1809 : Cond.constantLong "BellPlateModel" 50 26801 ∈ lw_ok := okm (tk_8 (List.mem_of_getElem? (l := tables_1_8) (i := 10) (by decide +kernel))) rfl
theorem w1810 : Cond.constantLong "BellPlateModel" 52 975695 ∈ lw_ok := okm (tk_8 (List.mem_of_getElem? (l := tables_1_8) (i := 11) (by decide +kernel))) rfl
theorem w1811 : Cond.constant "BellPlateModel" 91 32768 ∈ lw_ok := okm (tk_8 (List.mem_of_getElem? (l := tables_1_8) (i := 12) (by decide +kernel))) rfl
theorem w1812 : Cond.methodLink "BellPlateModel" 167 ⟨"BellPlateModel", "laysAll", "()V"⟩ ∈ lw_ok := okm (tk_8 (List.mem_of_getElem? (l := tables_1_8) (i := 13) (by decide +kernel))) rfl
theorem w1814 : Cond.instanceMethod ⟨"BellPlateModel", "laysAll", "()V"⟩ ∈ lw_ok := okm (tk_8 (List.mem_of_getElem? (l := tables_1_8) (i := 15) (by decide +kernel))) rfl
theorem w1815 : Cond.code ⟨"BellPlateModel", "laysAll", "()V"⟩ prog_14_method_38_code 2 (none) ∈ lw_ok := okm (tk_8 (List.mem_of_getElem? (l := tables_1_8) (i := 16) (by decide +kernel))) rfl
theorem w1816 : Cond.methodLink "BellPlateModel" 319 ⟨"BellPlateModel", "unpacks", "(I)V"⟩ ∈ lw_ok := okm (tk_8 (List.mem_of_getElem? (l := tables_1_8) (i := 17) (by decide +kernel))) rfl
theorem w1818 : Cond.instanceMethod ⟨"BellPlateModel", "unpacks", "(I)V"⟩ ∈ lw_ok := okm (tk_8 (List.mem_of_getElem? (l := tables_1_8) (i := 19) (by decide +kernel))) rfl
theorem w1819 : Cond.code ⟨"BellPlateModel", "unpacks", "(I)V"⟩ prog_14_method_34_code 4 (none) ∈ lw_ok := okm (tk_8 (List.mem_of_getElem? (l := tables_1_8) (i := 20) (by decide +kernel))) rfl
theorem w1820 : Cond.methodLink "BellPlateModel" 303 ⟨"BellPlateModel", "weighs", "()V"⟩ ∈ lw_ok := okm (tk_8 (List.mem_of_getElem? (l := tables_1_8) (i := 21) (by decide +kernel))) rfl
theorem w1822 : Cond.instanceMethod ⟨"BellPlateModel", "weighs", "()V"⟩ ∈ lw_ok := okm (tk_8 (List.mem_of_getElem? (l := tables_1_8) (i := 23) (by decide +kernel))) rfl
theorem w1823 : Cond.code ⟨"BellPlateModel", "weighs", "()V"⟩ prog_14_method_35_code 3 (none) ∈ lw_ok := okm (tk_8 (List.mem_of_getElem? (l := tables_1_8) (i := 24) (by decide +kernel))) rfl
theorem w1824 : Cond.methodLink "BellPlateModel" 306 ⟨"BellPlateModel", "sets", "()I"⟩ ∈ lw_ok := okm (tk_8 (List.mem_of_getElem? (l := tables_1_8) (i := 25) (by decide +kernel))) rfl
theorem w1826 : Cond.instanceMethod ⟨"BellPlateModel", "sets", "()I"⟩ ∈ lw_ok := okm (tk_8 (List.mem_of_getElem? (l := tables_1_8) (i := 27) (by decide +kernel))) rfl
theorem w1827 : Cond.code ⟨"BellPlateModel", "sets", "()I"⟩ prog_14_method_33_code 1 (some FieldType.int) ∈ lw_ok := okm (tk_8 (List.mem_of_getElem? (l := tables_1_8) (i := 28) (by decide +kernel))) rfl
theorem w1828 : Cond.methodLink "BellPlateModel" 322 ⟨"BellPlateModel", "listNow", "()J"⟩ ∈ lw_ok := okm (tk_8 (List.mem_of_getElem? (l := tables_1_8) (i := 29) (by decide +kernel))) rfl
theorem w1830 : Cond.instanceMethod ⟨"BellPlateModel", "listNow", "()J"⟩ ∈ lw_ok := okm (tk_8 (List.mem_of_getElem? (l := tables_1_8) (i := 31) (by decide +kernel))) rfl
theorem w1831 : Cond.code ⟨"BellPlateModel", "listNow", "()J"⟩ prog_14_method_36_code 4 (some FieldType.long) ∈ lw_ok := okm (tk_8 (List.mem_of_getElem? (l := tables_1_8) (i := 32) (by decide +kernel))) rfl
theorem w1832 : Cond.methodLink "BellPlateModel" 326 ⟨"BellPlateModel", "mayNow", "()Z"⟩ ∈ lw_ok := okm (tk_8 (List.mem_of_getElem? (l := tables_1_8) (i := 33) (by decide +kernel))) rfl
theorem w1834 : Cond.instanceMethod ⟨"BellPlateModel", "mayNow", "()Z"⟩ ∈ lw_ok := okm (tk_8 (List.mem_of_getElem? (l := tables_1_8) (i := 35) (by decide +kernel))) rfl
theorem w1835 : Cond.code ⟨"BellPlateModel", "mayNow", "()Z"⟩ prog_14_method_37_code 3 (some FieldType.boolean) ∈ lw_ok := okm (tk_8 (List.mem_of_getElem? (l := tables_1_8) (i := 36) (by decide +kernel))) rfl
theorem w1836 : Cond.methodLink "BellPlateModel" 310 ⟨"BellPlateModel", "worthAt", "(I)I"⟩ ∈ lw_ok := okm (tk_8 (List.mem_of_getElem? (l := tables_1_8) (i := 37) (by decide +kernel))) rfl
theorem w1838 : Cond.instanceMethod ⟨"BellPlateModel", "worthAt", "(I)I"⟩ ∈ lw_ok := okm (tk_8 (List.mem_of_getElem? (l := tables_1_8) (i := 39) (by decide +kernel))) rfl
theorem w1839 : Cond.code ⟨"BellPlateModel", "worthAt", "(I)I"⟩ prog_14_method_31_code 5 (some FieldType.int) ∈ lw_ok := okm (tk_8 (List.mem_of_getElem? (l := tables_1_8) (i := 40) (by decide +kernel))) rfl
theorem w1840 : Cond.methodLink "BellPlateModel" 299 ⟨"BellPlateModel", "both", "(III)I"⟩ ∈ lw_ok := okm (tk_8 (List.mem_of_getElem? (l := tables_1_8) (i := 41) (by decide +kernel))) rfl
theorem w1841 : Cond.static ⟨"BellPlateModel", "both", "(III)I"⟩ ∈ lw_ok := okm (tk_8 (List.mem_of_getElem? (l := tables_1_8) (i := 42) (by decide +kernel))) rfl
theorem w1842 : Cond.code ⟨"BellPlateModel", "both", "(III)I"⟩ prog_14_method_32_code 3 (some FieldType.int) ∈ lw_ok := okm (tk_8 (List.mem_of_getElem? (l := tables_1_8) (i := 43) (by decide +kernel))) rfl
theorem w1843 : Cond.methodLink "BellPlateModel" 329 ⟨"BellPlateModel", "numberFor", "(J)I"⟩ ∈ lw_ok := okm (tk_8 (List.mem_of_getElem? (l := tables_1_8) (i := 44) (by decide +kernel))) rfl
theorem w1845 : Cond.instanceMethod ⟨"BellPlateModel", "numberFor", "(J)I"⟩ ∈ lw_ok := okm (tk_8 (List.mem_of_getElem? (l := tables_1_8) (i := 46) (by decide +kernel))) rfl
theorem w1846 : Cond.code ⟨"BellPlateModel", "numberFor", "(J)I"⟩ prog_14_method_39_code 4 (some FieldType.int) ∈ lw_ok := okm (tk_8 (List.mem_of_getElem? (l := tables_1_8) (i := 47) (by decide +kernel))) rfl
theorem w1847 : Cond.constantLong "BellPlateModel" 335 7046029254386353131 ∈ lw_ok := okm (tk_8 (List.mem_of_getElem? (l := tables_1_8) (i := 48) (by decide +kernel))) rfl
theorem w1848 : Cond.methodLink "BellPlateModel" 332 ⟨"BellPlateModel", "costOf", "(I)I"⟩ ∈ lw_ok := okm (tk_8 (List.mem_of_getElem? (l := tables_1_8) (i := 49) (by decide +kernel))) rfl
theorem w1850 : Cond.instanceMethod ⟨"BellPlateModel", "costOf", "(I)I"⟩ ∈ lw_ok := okm (tk_8 (List.mem_of_getElem? (l := tables_1_8) (i := 51) (by decide +kernel))) rfl
theorem w1851 : Cond.code ⟨"BellPlateModel", "costOf", "(I)I"⟩ prog_14_method_40_code 3 (some FieldType.int) ∈ lw_ok := okm (tk_8 (List.mem_of_getElem? (l := tables_1_8) (i := 52) (by decide +kernel))) rfl
theorem w1852 : Cond.fieldLink "BellPlateModel" 1 "BellPlateModel" "thrown" "I" ∈ lw_ok := okm (tk_8 (List.mem_of_getElem? (l := tables_1_8) (i := 53) (by decide +kernel))) rfl
theorem w1853 : Cond.fieldLink "BellPlateModel" 14 "BellPlateModel" "tape" "[I" ∈ lw_ok := okm (tk_8 (List.mem_of_getElem? (l := tables_1_8) (i := 54) (by decide +kernel))) rfl
theorem w1854 : Cond.fieldLink "BellPlateModel" 11 "BellPlateModel" "taped" "I" ∈ lw_ok := okm (tk_8 (List.mem_of_getElem? (l := tables_1_8) (i := 55) (by decide +kernel))) rfl
theorem w1855 : Cond.fieldLink "BellPlateModel" 174 "BellPlateModel" "size" "I" ∈ lw_ok := okm (tk_8 (List.mem_of_getElem? (l := tables_1_8) (i := 56) (by decide +kernel))) rfl
theorem w1856 : Cond.fieldLink "BellPlateModel" 24 "BellPlateModel" "sort" "[I" ∈ lw_ok := okm (tk_8 (List.mem_of_getElem? (l := tables_1_8) (i := 57) (by decide +kernel))) rfl
theorem w1857 : Cond.fieldLink "BellPlateModel" 27 "BellPlateModel" "place" "[I" ∈ lw_ok := okm (tk_8 (List.mem_of_getElem? (l := tables_1_8) (i := 58) (by decide +kernel))) rfl
theorem w1858 : Cond.fieldLink "BellPlateModel" 30 "BellPlateModel" "value" "[J" ∈ lw_ok := okm (tk_8 (List.mem_of_getElem? (l := tables_1_8) (i := 59) (by decide +kernel))) rfl
theorem w1859 : Cond.fieldLink "BellPlateModel" 193 "BellPlateModel" "at" "I" ∈ lw_ok := okm (tk_8 (List.mem_of_getElem? (l := tables_1_8) (i := 60) (by decide +kernel))) rfl
theorem w1860 : Cond.fieldLink "BellPlateModel" 196 "BellPlateModel" "fault" "I" ∈ lw_ok := okm (tk_8 (List.mem_of_getElem? (l := tables_1_8) (i := 61) (by decide +kernel))) rfl
theorem w1861 : Cond.fieldLink "BellPlateModel" 54 "BellPlateModel" "words" "[J" ∈ lw_ok := okm (tk_8 (List.mem_of_getElem? (l := tables_1_8) (i := 62) (by decide +kernel))) rfl
theorem w1862 : Cond.fieldLink "BellPlateModel" 239 "BellPlateModel" "things" "I" ∈ lw_ok := okm (tk_8 (List.mem_of_getElem? (l := tables_1_8) (i := 63) (by decide +kernel))) rfl
theorem w1863 : Cond.fieldLink "BellPlateModel" 161 "BellPlateModel" "most" "I" ∈ lw_ok := okm (tk_8 (List.mem_of_getElem? (l := tables_1_8) (i := 64) (by decide +kernel))) rfl
theorem w1864 : Cond.fieldLink "BellPlateModel" 164 "BellPlateModel" "bar" "I" ∈ lw_ok := okm (tk_8 (List.mem_of_getElem? (l := tables_1_8) (i := 65) (by decide +kernel))) rfl
theorem w1865 : Cond.fieldLink "BellPlateModel" 242 "BellPlateModel" "allows" "I" ∈ lw_ok := okm (tk_8 (List.mem_of_getElem? (l := tables_1_8) (i := 66) (by decide +kernel))) rfl
theorem w1866 : Cond.fieldLink "BellPlateModel" 57 "BellPlateModel" "lineAt" "[I" ∈ lw_ok := okm (tk_8 (List.mem_of_getElem? (l := tables_1_8) (i := 67) (by decide +kernel))) rfl
theorem w1867 : Cond.fieldLink "BellPlateModel" 212 "BellPlateModel" "readThings" "I" ∈ lw_ok := okm (tk_8 (List.mem_of_getElem? (l := tables_1_8) (i := 68) (by decide +kernel))) rfl
theorem w1868 : Cond.fieldLink "BellPlateModel" 221 "BellPlateModel" "readMost" "I" ∈ lw_ok := okm (tk_8 (List.mem_of_getElem? (l := tables_1_8) (i := 69) (by decide +kernel))) rfl
theorem w1869 : Cond.fieldLink "BellPlateModel" 224 "BellPlateModel" "readBar" "I" ∈ lw_ok := okm (tk_8 (List.mem_of_getElem? (l := tables_1_8) (i := 70) (by decide +kernel))) rfl
theorem w1870 : Cond.fieldLink "BellPlateModel" 227 "BellPlateModel" "readAllows" "I" ∈ lw_ok := okm (tk_8 (List.mem_of_getElem? (l := tables_1_8) (i := 71) (by decide +kernel))) rfl
theorem w1871 : Cond.fieldLink "BellPlateModel" 60 "BellPlateModel" "names" "[J" ∈ lw_ok := okm (tk_8 (List.mem_of_getElem? (l := tables_1_8) (i := 72) (by decide +kernel))) rfl
theorem w1872 : Cond.fieldLink "BellPlateModel" 63 "BellPlateModel" "op" "[I" ∈ lw_ok := okm (tk_8 (List.mem_of_getElem? (l := tables_1_8) (i := 73) (by decide +kernel))) rfl
theorem w1873 : Cond.fieldLink "BellPlateModel" 66 "BellPlateModel" "arg" "[I" ∈ lw_ok := okm (tk_8 (List.mem_of_getElem? (l := tables_1_8) (i := 74) (by decide +kernel))) rfl
theorem w1874 : Cond.fieldLink "BellPlateModel" 218 "BellPlateModel" "codes" "I" ∈ lw_ok := okm (tk_8 (List.mem_of_getElem? (l := tables_1_8) (i := 75) (by decide +kernel))) rfl
theorem w1875 : Cond.fieldLink "BellPlateModel" 273 "BellPlateModel" "inAllow" "Z" ∈ lw_ok := okm (tk_8 (List.mem_of_getElem? (l := tables_1_8) (i := 76) (by decide +kernel))) rfl
theorem w1876 : Cond.fieldLink "BellPlateModel" 69 "BellPlateModel" "facts" "[I" ∈ lw_ok := okm (tk_8 (List.mem_of_getElem? (l := tables_1_8) (i := 77) (by decide +kernel))) rfl
theorem w1877 : Cond.fieldLink "BellPlateModel" 72 "BellPlateModel" "pile" "[I" ∈ lw_ok := okm (tk_8 (List.mem_of_getElem? (l := tables_1_8) (i := 78) (by decide +kernel))) rfl
theorem w1878 : Cond.fieldLink "BellPlateModel" 313 "BellPlateModel" "weights" "I" ∈ lw_ok := okm (tk_8 (List.mem_of_getElem? (l := tables_1_8) (i := 79) (by decide +kernel))) rfl
theorem w1879 : Cond.fieldLink "BellPlateModel" 75 "BellPlateModel" "listOf" "[J" ∈ lw_ok := okm (tk_8 (List.mem_of_getElem? (l := tables_1_8) (i := 80) (by decide +kernel))) rfl
theorem w1880 : Cond.fieldLink "BellPlateModel" 78 "BellPlateModel" "mays" "[Z" ∈ lw_ok := okm (tk_8 (List.mem_of_getElem? (l := tables_1_8) (i := 81) (by decide +kernel))) rfl
theorem w1881 : Cond.fieldLink "BellPlateModel" 316 "BellPlateModel" "lists" "I" ∈ lw_ok := okm (tk_8 (List.mem_of_getElem? (l := tables_1_8) (i := 82) (by decide +kernel))) rfl
theorem w1882 : Cond.fieldLink "BellPlateModel" 82 "BellPlateModel" "lists64" "[J" ∈ lw_ok := okm (tk_8 (List.mem_of_getElem? (l := tables_1_8) (i := 83) (by decide +kernel))) rfl
theorem w1883 : Cond.fieldLink "BellPlateModel" 85 "BellPlateModel" "manyOf" "[I" ∈ lw_ok := okm (tk_8 (List.mem_of_getElem? (l := tables_1_8) (i := 84) (by decide +kernel))) rfl
theorem w1884 : Cond.fieldLink "BellPlateModel" 88 "BellPlateModel" "numberOf" "[I" ∈ lw_ok := okm (tk_8 (List.mem_of_getElem? (l := tables_1_8) (i := 85) (by decide +kernel))) rfl
theorem w1885 : Cond.fieldLink "BellPlateModel" 92 "BellPlateModel" "slots" "[I" ∈ lw_ok := okm (tk_8 (List.mem_of_getElem? (l := tables_1_8) (i := 86) (by decide +kernel))) rfl
theorem w1886 : Cond.fieldLink "BellPlateModel" 95 "BellPlateModel" "weightOf" "[I" ∈ lw_ok := okm (tk_8 (List.mem_of_getElem? (l := tables_1_8) (i := 87) (by decide +kernel))) rfl
theorem w1887 : Cond.fieldLink "BellPlateModel" 98 "BellPlateModel" "setWeight" "[I" ∈ lw_ok := okm (tk_8 (List.mem_of_getElem? (l := tables_1_8) (i := 88) (by decide +kernel))) rfl
theorem w1888 : Cond.fieldLink "BellPlateModel" 101 "BellPlateModel" "costs" "[I" ∈ lw_ok := okm (tk_8 (List.mem_of_getElem? (l := tables_1_8) (i := 89) (by decide +kernel))) rfl
theorem w1889 : Cond.fieldLink "BellPlateModel" 245 "BellPlateModel" "trials" "I" ∈ lw_ok := okm (tk_8 (List.mem_of_getElem? (l := tables_1_8) (i := 90) (by decide +kernel))) rfl
theorem w1890 : Cond.fieldLink "BellPlateModel" 104 "BellPlateModel" "trialSet" "[I" ∈ lw_ok := okm (tk_8 (List.mem_of_getElem? (l := tables_1_8) (i := 91) (by decide +kernel))) rfl
theorem w1891 : Cond.fieldLink "BellPlateModel" 107 "BellPlateModel" "trialRang" "[Z" ∈ lw_ok := okm (tk_8 (List.mem_of_getElem? (l := tables_1_8) (i := 92) (by decide +kernel))) rfl
theorem w1892 : Cond.fieldLink "BellPlateModel" 343 "BellPlateModel" "must" "J" ∈ lw_ok := okm (tk_8 (List.mem_of_getElem? (l := tables_1_8) (i := 93) (by decide +kernel))) rfl
theorem w1893 : Cond.fieldLink "BellPlateModel" 347 "BellPlateModel" "mustNot" "J" ∈ lw_ok := okm (tk_8 (List.mem_of_getElem? (l := tables_1_8) (i := 94) (by decide +kernel))) rfl
theorem w1894 : Cond.fieldLink "BellPlateModel" 248 "BellPlateModel" "hints" "I" ∈ lw_ok := okm (tk_8 (List.mem_of_getElem? (l := tables_1_8) (i := 95) (by decide +kernel))) rfl
theorem w1895 : Cond.fieldLink "BellPlateModel" 110 "BellPlateModel" "hintSize" "[I" ∈ lw_ok := okm (tk_8 (List.mem_of_getElem? (l := tables_1_8) (i := 96) (by decide +kernel))) rfl
theorem w1896 : Cond.fieldLink "BellPlateModel" 113 "BellPlateModel" "hintSets" "[I" ∈ lw_ok := okm (tk_8 (List.mem_of_getElem? (l := tables_1_8) (i := 97) (by decide +kernel))) rfl
theorem w1897 : Cond.fieldLink "BellPlateModel" 116 "BellPlateModel" "leftOf" "[I" ∈ lw_ok := okm (tk_8 (List.mem_of_getElem? (l := tables_1_8) (i := 98) (by decide +kernel))) rfl
theorem w1898 : Cond.fieldLink "BellPlateModel" 372 "BellPlateModel" "leftMany" "I" ∈ lw_ok := okm (tk_8 (List.mem_of_getElem? (l := tables_1_8) (i := 99) (by decide +kernel))) rfl
theorem w1899 : Cond.fieldLink "BellPlateModel" 375 "BellPlateModel" "leftWeights" "I" ∈ lw_ok := okm (tk_8 (List.mem_of_getElem? (l := tables_1_8) (i := 100) (by decide +kernel))) rfl
theorem w1900 : Cond.fieldLink "BellPlateModel" 119 "BellPlateModel" "some" "[I" ∈ lw_ok := okm (tk_8 (List.mem_of_getElem? (l := tables_1_8) (i := 101) (by decide +kernel))) rfl
theorem w1901 : Cond.fieldLink "BellPlateModel" 416 "BellPlateModel" "steps" "I" ∈ lw_ok := okm (tk_8 (List.mem_of_getElem? (l := tables_1_8) (i := 102) (by decide +kernel))) rfl
theorem w1902 : Cond.fieldLink "BellPlateModel" 436 "BellPlateModel" "worstSteps" "I" ∈ lw_ok := okm (tk_8 (List.mem_of_getElem? (l := tables_1_8) (i := 103) (by decide +kernel))) rfl
theorem w1903 : Cond.fieldLink "BellPlateModel" 439 "BellPlateModel" "sumSteps" "J" ∈ lw_ok := okm (tk_8 (List.mem_of_getElem? (l := tables_1_8) (i := 104) (by decide +kernel))) rfl
theorem w1904 : Cond.fieldLink "BellPlateModel" 122 "BellPlateModel" "listsRing" "[I" ∈ lw_ok := okm (tk_8 (List.mem_of_getElem? (l := tables_1_8) (i := 105) (by decide +kernel))) rfl
theorem w1905 : Cond.fieldLink "BellPlateModel" 125 "BellPlateModel" "weightsRing" "[I" ∈ lw_ok := okm (tk_8 (List.mem_of_getElem? (l := tables_1_8) (i := 106) (by decide +kernel))) rfl
theorem w1906 : Cond.fieldLink "BellPlateModel" 128 "BellPlateModel" "runOf" "[I" ∈ lw_ok := okm (tk_8 (List.mem_of_getElem? (l := tables_1_8) (i := 107) (by decide +kernel))) rfl
theorem w1907 : Cond.fieldLink "BellPlateModel" 419 "BellPlateModel" "runRang" "I" ∈ lw_ok := okm (tk_8 (List.mem_of_getElem? (l := tables_1_8) (i := 108) (by decide +kernel))) rfl
theorem w1908 : Cond.fieldLink "BellPlateModel" 422 "BellPlateModel" "runCost" "I" ∈ lw_ok := okm (tk_8 (List.mem_of_getElem? (l := tables_1_8) (i := 109) (by decide +kernel))) rfl
theorem w1909 : Cond.fieldLink "BellPlateModel" 131 "BellPlateModel" "answer" "[I" ∈ lw_ok := okm (tk_8 (List.mem_of_getElem? (l := tables_1_8) (i := 110) (by decide +kernel))) rfl
theorem w1910 : Cond.fieldLink "BellPlateModel" 134 "BellPlateModel" "ringMask" "[I" ∈ lw_ok := okm (tk_8 (List.mem_of_getElem? (l := tables_1_8) (i := 111) (by decide +kernel))) rfl
theorem w1911 : Cond.fieldLink "BellPlateModel" 137 "BellPlateModel" "fewestOf" "[I" ∈ lw_ok := okm (tk_8 (List.mem_of_getElem? (l := tables_1_8) (i := 112) (by decide +kernel))) rfl
theorem w1912 : Cond.fieldLink "BellPlateModel" 478 "BellPlateModel" "smallWeights" "I" ∈ lw_ok := okm (tk_8 (List.mem_of_getElem? (l := tables_1_8) (i := 113) (by decide +kernel))) rfl
theorem w1913 : Cond.fieldLink "BellPlateModel" 484 "BellPlateModel" "smallBar" "I" ∈ lw_ok := okm (tk_8 (List.mem_of_getElem? (l := tables_1_8) (i := 114) (by decide +kernel))) rfl
theorem w1914 : Cond.fieldLink "BellPlateModel" 481 "BellPlateModel" "smallSum" "I" ∈ lw_ok := okm (tk_8 (List.mem_of_getElem? (l := tables_1_8) (i := 115) (by decide +kernel))) rfl
theorem w1915 : Cond.fieldLink "BellPlateModel" 140 "BellPlateModel" "pair" "[I" ∈ lw_ok := okm (tk_8 (List.mem_of_getElem? (l := tables_1_8) (i := 116) (by decide +kernel))) rfl
theorem w1916 : Cond.fieldLink "BellPlateModel" 510 "BellPlateModel" "grownBy" "I" ∈ lw_ok := okm (tk_8 (List.mem_of_getElem? (l := tables_1_8) (i := 117) (by decide +kernel))) rfl
theorem w1917 : Cond.fieldLink "BellPlateModel" 507 "BellPlateModel" "grownFrom" "I" ∈ lw_ok := okm (tk_8 (List.mem_of_getElem? (l := tables_1_8) (i := 118) (by decide +kernel))) rfl
theorem w1918 : Cond.fieldLink "BellPlateModel" 523 "BellPlateModel" "grownThing" "I" ∈ lw_ok := okm (tk_8 (List.mem_of_getElem? (l := tables_1_8) (i := 119) (by decide +kernel))) rfl
theorem w1919 : Cond.fieldLink "BellPlateModel" 143 "BellPlateModel" "cover" "[J" ∈ lw_ok := okm (tk_8 (List.mem_of_getElem? (l := tables_1_8) (i := 120) (by decide +kernel))) rfl
theorem w1920 : Cond.fieldLink "BellPlateModel" 532 "BellPlateModel" "covers" "I" ∈ lw_ok := okm (tk_8 (List.mem_of_getElem? (l := tables_1_8) (i := 121) (by decide +kernel))) rfl
theorem w1921 : Cond.fieldLink "BellPlateModel" 146 "BellPlateModel" "haveIt" "[I" ∈ lw_ok := okm (tk_8 (List.mem_of_getElem? (l := tables_1_8) (i := 122) (by decide +kernel))) rfl
theorem w1922 : Cond.fieldLink "BellPlateModel" 251 "BellPlateModel" "onPlate" "I" ∈ lw_ok := okm (tk_8 (List.mem_of_getElem? (l := tables_1_8) (i := 123) (by decide +kernel))) rfl
theorem w1923 : Cond.fieldLink "BellPlateModel" 149 "BellPlateModel" "plate" "[I" ∈ lw_ok := okm (tk_8 (List.mem_of_getElem? (l := tables_1_8) (i := 124) (by decide +kernel))) rfl
theorem w1924 : Cond.fieldLink "BellPlateModel" 254 "BellPlateModel" "laid" "I" ∈ lw_ok := okm (tk_8 (List.mem_of_getElem? (l := tables_1_8) (i := 125) (by decide +kernel))) rfl
theorem w1925 : Cond.fieldLink "BellPlateModel" 152 "BellPlateModel" "markOrder" "[I" ∈ lw_ok := okm (tk_8 (List.mem_of_getElem? (l := tables_1_8) (i := 126) (by decide +kernel))) rfl
theorem w1926 : Cond.fieldLink "BellPlateModel" 155 "BellPlateModel" "markTrials" "[I" ∈ lw_ok := okm (tk_8 (List.mem_of_getElem? (l := tables_1_8) (i := 127) (by decide +kernel))) rfl
theorem w1927 : Cond.fieldLink "BellPlateModel" 158 "BellPlateModel" "markHints" "[I" ∈ lw_ok := okm (tk_8 (List.mem_of_getElem? (l := tables_1_8) (i := 128) (by decide +kernel))) rfl
theorem w2081 : Cond.methodLink "BellPlateLaw" 30 ⟨"BellPlateModel", "tower", "()I"⟩ ∈ lw_ok := okm (tk_9 (List.mem_of_getElem? (l := tables_1_9) (i := 42) (by decide +kernel))) rfl
theorem w2082 : Cond.instanceMethod ⟨"BellPlateModel", "tower", "()I"⟩ ∈ lw_ok := okm (tk_9 (List.mem_of_getElem? (l := tables_1_9) (i := 43) (by decide +kernel))) rfl
theorem w2083 : Cond.selects "BellPlateModel" ⟨"BellPlateModel", "tower", "()I"⟩ ⟨"BellPlateModel", "tower", "()I"⟩ ∈ lw_ok := okm (tk_9 (List.mem_of_getElem? (l := tables_1_9) (i := 44) (by decide +kernel))) rfl
theorem w2084 : Cond.code ⟨"BellPlateModel", "tower", "()I"⟩ prog_14_method_21_code 3 (some FieldType.int) ∈ lw_ok := okm (tk_9 (List.mem_of_getElem? (l := tables_1_9) (i := 45) (by decide +kernel))) rfl
theorem w2085 : Cond.methodLink "BellPlateModel" 215 ⟨"BellPlateModel", "cutAll", "()V"⟩ ∈ lw_ok := okm (tk_9 (List.mem_of_getElem? (l := tables_1_9) (i := 46) (by decide +kernel))) rfl
theorem w2087 : Cond.instanceMethod ⟨"BellPlateModel", "cutAll", "()V"⟩ ∈ lw_ok := okm (tk_9 (List.mem_of_getElem? (l := tables_1_9) (i := 48) (by decide +kernel))) rfl
theorem w2088 : Cond.code ⟨"BellPlateModel", "cutAll", "()V"⟩ prog_14_method_9_code 7 (none) ∈ lw_ok := okm (tk_9 (List.mem_of_getElem? (l := tables_1_9) (i := 49) (by decide +kernel))) rfl
theorem w2089 : Cond.methodLink "BellPlateModel" 170 ⟨"BellPlateModel", "isLetter", "(I)Z"⟩ ∈ lw_ok := okm (tk_9 (List.mem_of_getElem? (l := tables_1_9) (i := 50) (by decide +kernel))) rfl
theorem w2090 : Cond.static ⟨"BellPlateModel", "isLetter", "(I)Z"⟩ ∈ lw_ok := okm (tk_9 (List.mem_of_getElem? (l := tables_1_9) (i := 51) (by decide +kernel))) rfl
theorem w2091 : Cond.code ⟨"BellPlateModel", "isLetter", "(I)Z"⟩ prog_14_method_5_code 1 (some FieldType.boolean) ∈ lw_ok := okm (tk_9 (List.mem_of_getElem? (l := tables_1_9) (i := 52) (by decide +kernel))) rfl
theorem w2092 : Cond.constantLong "BellPlateModel" 177 37 ∈ lw_ok := okm (tk_9 (List.mem_of_getElem? (l := tables_1_9) (i := 53) (by decide +kernel))) rfl
theorem w2093 : Cond.methodLink "BellPlateModel" 179 ⟨"BellPlateModel", "rank", "(I)I"⟩ ∈ lw_ok := okm (tk_9 (List.mem_of_getElem? (l := tables_1_9) (i := 54) (by decide +kernel))) rfl
theorem w2094 : Cond.static ⟨"BellPlateModel", "rank", "(I)I"⟩ ∈ lw_ok := okm (tk_9 (List.mem_of_getElem? (l := tables_1_9) (i := 55) (by decide +kernel))) rfl
theorem w2095 : Cond.code ⟨"BellPlateModel", "rank", "(I)I"⟩ prog_14_method_7_code 1 (some FieldType.int) ∈ lw_ok := okm (tk_9 (List.mem_of_getElem? (l := tables_1_9) (i := 56) (by decide +kernel))) rfl
theorem w2096 : Cond.methodLink "BellPlateModel" 183 ⟨"BellPlateModel", "isDigit", "(I)Z"⟩ ∈ lw_ok := okm (tk_9 (List.mem_of_getElem? (l := tables_1_9) (i := 57) (by decide +kernel))) rfl
theorem w2097 : Cond.static ⟨"BellPlateModel", "isDigit", "(I)Z"⟩ ∈ lw_ok := okm (tk_9 (List.mem_of_getElem? (l := tables_1_9) (i := 58) (by decide +kernel))) rfl
theorem w2098 : Cond.code ⟨"BellPlateModel", "isDigit", "(I)Z"⟩ prog_14_method_6_code 1 (some FieldType.boolean) ∈ lw_ok := okm (tk_9 (List.mem_of_getElem? (l := tables_1_9) (i := 59) (by decide +kernel))) rfl
theorem w2099 : Cond.constantLong "BellPlateModel" 186 10 ∈ lw_ok := okm (tk_9 (List.mem_of_getElem? (l := tables_1_9) (i := 60) (by decide +kernel))) rfl
theorem w2100 : Cond.constantLong "BellPlateModel" 188 48 ∈ lw_ok := okm (tk_9 (List.mem_of_getElem? (l := tables_1_9) (i := 61) (by decide +kernel))) rfl
theorem w2101 : Cond.methodLink "BellPlateModel" 190 ⟨"BellPlateModel", "isSignOf", "(I)Z"⟩ ∈ lw_ok := okm (tk_9 (List.mem_of_getElem? (l := tables_1_9) (i := 62) (by decide +kernel))) rfl
theorem w2102 : Cond.static ⟨"BellPlateModel", "isSignOf", "(I)Z"⟩ ∈ lw_ok := okm (tk_9 (List.mem_of_getElem? (l := tables_1_9) (i := 63) (by decide +kernel))) rfl
theorem w2103 : Cond.code ⟨"BellPlateModel", "isSignOf", "(I)Z"⟩ prog_14_method_8_code 1 (some FieldType.boolean) ∈ lw_ok := okm (tk_9 (List.mem_of_getElem? (l := tables_1_9) (i := 64) (by decide +kernel))) rfl
theorem w2104 : Cond.methodLink "BellPlateModel" 230 ⟨"BellPlateModel", "readLine", "()V"⟩ ∈ lw_ok := okm (tk_9 (List.mem_of_getElem? (l := tables_1_9) (i := 65) (by decide +kernel))) rfl
theorem w2106 : Cond.instanceMethod ⟨"BellPlateModel", "readLine", "()V"⟩ ∈ lw_ok := okm (tk_9 (List.mem_of_getElem? (l := tables_1_9) (i := 67) (by decide +kernel))) rfl
theorem w2107 : Cond.code ⟨"BellPlateModel", "readLine", "()V"⟩ prog_14_method_23_code 1 (none) ∈ lw_ok := okm (tk_9 (List.mem_of_getElem? (l := tables_1_9) (i := 68) (by decide +kernel))) rfl
theorem w2108 : Cond.methodLink "BellPlateModel" 206 ⟨"BellPlateModel", "isWord", "(I)Z"⟩ ∈ lw_ok := okm (tk_9 (List.mem_of_getElem? (l := tables_1_9) (i := 69) (by decide +kernel))) rfl
theorem w2110 : Cond.instanceMethod ⟨"BellPlateModel", "isWord", "(I)Z"⟩ ∈ lw_ok := okm (tk_9 (List.mem_of_getElem? (l := tables_1_9) (i := 71) (by decide +kernel))) rfl
theorem w2111 : Cond.code ⟨"BellPlateModel", "isWord", "(I)Z"⟩ prog_14_method_12_code 2 (some FieldType.boolean) ∈ lw_ok := okm (tk_9 (List.mem_of_getElem? (l := tables_1_9) (i := 72) (by decide +kernel))) rfl
theorem w2112 : Cond.methodLink "BellPlateModel" 202 ⟨"BellPlateModel", "faulty", "(I)V"⟩ ∈ lw_ok := okm (tk_9 (List.mem_of_getElem? (l := tables_1_9) (i := 73) (by decide +kernel))) rfl
theorem w2114 : Cond.instanceMethod ⟨"BellPlateModel", "faulty", "(I)V"⟩ ∈ lw_ok := okm (tk_9 (List.mem_of_getElem? (l := tables_1_9) (i := 75) (by decide +kernel))) rfl
theorem w2115 : Cond.code ⟨"BellPlateModel", "faulty", "(I)V"⟩ prog_14_method_10_code 2 (none) ∈ lw_ok := okm (tk_9 (List.mem_of_getElem? (l := tables_1_9) (i := 76) (by decide +kernel))) rfl
theorem w2116 : Cond.methodLink "BellPlateModel" 257 ⟨"BellPlateModel", "isName", "()Z"⟩ ∈ lw_ok := okm (tk_9 (List.mem_of_getElem? (l := tables_1_9) (i := 77) (by decide +kernel))) rfl
theorem w2118 : Cond.instanceMethod ⟨"BellPlateModel", "isName", "()Z"⟩ ∈ lw_ok := okm (tk_9 (List.mem_of_getElem? (l := tables_1_9) (i := 79) (by decide +kernel))) rfl
theorem w2119 : Cond.code ⟨"BellPlateModel", "isName", "()Z"⟩ prog_14_method_19_code 3 (some FieldType.boolean) ∈ lw_ok := okm (tk_9 (List.mem_of_getElem? (l := tables_1_9) (i := 80) (by decide +kernel))) rfl
theorem w2120 : Cond.methodLink "BellPlateModel" 261 ⟨"BellPlateModel", "nameOf", "(J)I"⟩ ∈ lw_ok := okm (tk_9 (List.mem_of_getElem? (l := tables_1_9) (i := 81) (by decide +kernel))) rfl
theorem w2122 : Cond.instanceMethod ⟨"BellPlateModel", "nameOf", "(J)I"⟩ ∈ lw_ok := okm (tk_9 (List.mem_of_getElem? (l := tables_1_9) (i := 83) (by decide +kernel))) rfl
theorem w2123 : Cond.code ⟨"BellPlateModel", "nameOf", "(J)I"⟩ prog_14_method_20_code 4 (some FieldType.int) ∈ lw_ok := okm (tk_9 (List.mem_of_getElem? (l := tables_1_9) (i := 84) (by decide +kernel))) rfl
theorem w2124 : Cond.methodLink "BellPlateModel" 265 ⟨"BellPlateModel", "takeNumber", "(II)I"⟩ ∈ lw_ok := okm (tk_9 (List.mem_of_getElem? (l := tables_1_9) (i := 85) (by decide +kernel))) rfl
theorem w2126 : Cond.instanceMethod ⟨"BellPlateModel", "takeNumber", "(II)I"⟩ ∈ lw_ok := okm (tk_9 (List.mem_of_getElem? (l := tables_1_9) (i := 87) (by decide +kernel))) rfl
theorem w2127 : Cond.code ⟨"BellPlateModel", "takeNumber", "(II)I"⟩ prog_14_method_18_code 3 (some FieldType.int) ∈ lw_ok := okm (tk_9 (List.mem_of_getElem? (l := tables_1_9) (i := 88) (by decide +kernel))) rfl
theorem w2128 : Cond.methodLink "BellPlateModel" 269 ⟨"BellPlateModel", "readWhole", "(Z)V"⟩ ∈ lw_ok := okm (tk_9 (List.mem_of_getElem? (l := tables_1_9) (i := 89) (by decide +kernel))) rfl
theorem w2130 : Cond.instanceMethod ⟨"BellPlateModel", "readWhole", "(Z)V"⟩ ∈ lw_ok := okm (tk_9 (List.mem_of_getElem? (l := tables_1_9) (i := 91) (by decide +kernel))) rfl
theorem w2131 : Cond.code ⟨"BellPlateModel", "readWhole", "(Z)V"⟩ prog_14_method_25_code 2 (none) ∈ lw_ok := okm (tk_9 (List.mem_of_getElem? (l := tables_1_9) (i := 92) (by decide +kernel))) rfl
theorem w2132 : Cond.methodLink "BellPlateModel" 277 ⟨"BellPlateModel", "all", "(I)V"⟩ ∈ lw_ok := okm (tk_9 (List.mem_of_getElem? (l := tables_1_9) (i := 93) (by decide +kernel))) rfl
theorem w2134 : Cond.instanceMethod ⟨"BellPlateModel", "all", "(I)V"⟩ ∈ lw_ok := okm (tk_9 (List.mem_of_getElem? (l := tables_1_9) (i := 95) (by decide +kernel))) rfl
theorem w2135 : Cond.code ⟨"BellPlateModel", "all", "(I)V"⟩ prog_14_method_26_code 3 (none) ∈ lw_ok := okm (tk_9 (List.mem_of_getElem? (l := tables_1_9) (i := 96) (by decide +kernel))) rfl
theorem w2136 : Cond.methodLink "BellPlateModel" 284 ⟨"BellPlateModel", "test", "(I)V"⟩ ∈ lw_ok := okm (tk_9 (List.mem_of_getElem? (l := tables_1_9) (i := 97) (by decide +kernel))) rfl
theorem w2138 : Cond.instanceMethod ⟨"BellPlateModel", "test", "(I)V"⟩ ∈ lw_ok := okm (tk_9 (List.mem_of_getElem? (l := tables_1_9) (i := 99) (by decide +kernel))) rfl
theorem w2139 : Cond.code ⟨"BellPlateModel", "test", "(I)V"⟩ prog_14_method_27_code 3 (none) ∈ lw_ok := okm (tk_9 (List.mem_of_getElem? (l := tables_1_9) (i := 100) (by decide +kernel))) rfl
theorem w2140 : Cond.methodLink "BellPlateModel" 287 ⟨"BellPlateModel", "sums", "(I)V"⟩ ∈ lw_ok := okm (tk_9 (List.mem_of_getElem? (l := tables_1_9) (i := 101) (by decide +kernel))) rfl
theorem w2142 : Cond.instanceMethod ⟨"BellPlateModel", "sums", "(I)V"⟩ ∈ lw_ok := okm (tk_9 (List.mem_of_getElem? (l := tables_1_9) (i := 103) (by decide +kernel))) rfl
theorem w2143 : Cond.code ⟨"BellPlateModel", "sums", "(I)V"⟩ prog_14_method_28_code 3 (none) ∈ lw_ok := okm (tk_9 (List.mem_of_getElem? (l := tables_1_9) (i := 104) (by decide +kernel))) rfl
theorem w2144 : Cond.methodLink "BellPlateModel" 293 ⟨"BellPlateModel", "products", "(I)V"⟩ ∈ lw_ok := okm (tk_9 (List.mem_of_getElem? (l := tables_1_9) (i := 105) (by decide +kernel))) rfl
theorem w2146 : Cond.instanceMethod ⟨"BellPlateModel", "products", "(I)V"⟩ ∈ lw_ok := okm (tk_9 (List.mem_of_getElem? (l := tables_1_9) (i := 107) (by decide +kernel))) rfl
theorem w2147 : Cond.code ⟨"BellPlateModel", "products", "(I)V"⟩ prog_14_method_29_code 2 (none) ∈ lw_ok := okm (tk_9 (List.mem_of_getElem? (l := tables_1_9) (i := 108) (by decide +kernel))) rfl
theorem w2148 : Cond.methodLink "BellPlateModel" 296 ⟨"BellPlateModel", "takePart", "(I)V"⟩ ∈ lw_ok := okm (tk_9 (List.mem_of_getElem? (l := tables_1_9) (i := 109) (by decide +kernel))) rfl
theorem w2150 : Cond.instanceMethod ⟨"BellPlateModel", "takePart", "(I)V"⟩ ∈ lw_ok := okm (tk_9 (List.mem_of_getElem? (l := tables_1_9) (i := 111) (by decide +kernel))) rfl
theorem w2151 : Cond.code ⟨"BellPlateModel", "takePart", "(I)V"⟩ prog_14_method_30_code 5 (none) ∈ lw_ok := okm (tk_9 (List.mem_of_getElem? (l := tables_1_9) (i := 112) (by decide +kernel))) rfl
theorem w2152 : Cond.methodLink "BellPlateModel" 199 ⟨"BellPlateModel", "isSign", "(I)Z"⟩ ∈ lw_ok := okm (tk_9 (List.mem_of_getElem? (l := tables_1_9) (i := 113) (by decide +kernel))) rfl
theorem w2154 : Cond.instanceMethod ⟨"BellPlateModel", "isSign", "(I)Z"⟩ ∈ lw_ok := okm (tk_9 (List.mem_of_getElem? (l := tables_1_9) (i := 115) (by decide +kernel))) rfl
theorem w2155 : Cond.code ⟨"BellPlateModel", "isSign", "(I)Z"⟩ prog_14_method_11_code 2 (some FieldType.boolean) ∈ lw_ok := okm (tk_9 (List.mem_of_getElem? (l := tables_1_9) (i := 116) (by decide +kernel))) rfl
theorem w2156 : Cond.methodLink "BellPlateModel" 209 ⟨"BellPlateModel", "hasWord", "(I)Z"⟩ ∈ lw_ok := okm (tk_9 (List.mem_of_getElem? (l := tables_1_9) (i := 117) (by decide +kernel))) rfl
theorem w2158 : Cond.instanceMethod ⟨"BellPlateModel", "hasWord", "(I)Z"⟩ ∈ lw_ok := okm (tk_9 (List.mem_of_getElem? (l := tables_1_9) (i := 119) (by decide +kernel))) rfl
theorem w2159 : Cond.code ⟨"BellPlateModel", "hasWord", "(I)Z"⟩ prog_14_method_15_code 3 (some FieldType.boolean) ∈ lw_ok := okm (tk_9 (List.mem_of_getElem? (l := tables_1_9) (i := 120) (by decide +kernel))) rfl
theorem w2160 : Cond.methodLink "BellPlateModel" 280 ⟨"BellPlateModel", "emit", "(II)V"⟩ ∈ lw_ok := okm (tk_9 (List.mem_of_getElem? (l := tables_1_9) (i := 121) (by decide +kernel))) rfl
theorem w2162 : Cond.instanceMethod ⟨"BellPlateModel", "emit", "(II)V"⟩ ∈ lw_ok := okm (tk_9 (List.mem_of_getElem? (l := tables_1_9) (i := 123) (by decide +kernel))) rfl
theorem w2163 : Cond.code ⟨"BellPlateModel", "emit", "(II)V"⟩ prog_14_method_24_code 3 (none) ∈ lw_ok := okm (tk_9 (List.mem_of_getElem? (l := tables_1_9) (i := 124) (by decide +kernel))) rfl
theorem w2164 : Cond.methodLink "BellPlateModel" 290 ⟨"BellPlateModel", "hasSign", "(I)Z"⟩ ∈ lw_ok := okm (tk_9 (List.mem_of_getElem? (l := tables_1_9) (i := 125) (by decide +kernel))) rfl
theorem w2166 : Cond.instanceMethod ⟨"BellPlateModel", "hasSign", "(I)Z"⟩ ∈ lw_ok := okm (tk_9 (List.mem_of_getElem? (l := tables_1_9) (i := 127) (by decide +kernel))) rfl
theorem w2167 : Cond.code ⟨"BellPlateModel", "hasSign", "(I)Z"⟩ prog_14_method_14_code 3 (some FieldType.boolean) ∈ lw_ok := okm (tk_9 (List.mem_of_getElem? (l := tables_1_9) (i := 128) (by decide +kernel))) rfl
theorem w2168 : Cond.methodLink "BellPlateModel" 233 ⟨"BellPlateModel", "takeSign", "(I)V"⟩ ∈ lw_ok := okm (tk_9 (List.mem_of_getElem? (l := tables_1_9) (i := 129) (by decide +kernel))) rfl
theorem w2170 : Cond.instanceMethod ⟨"BellPlateModel", "takeSign", "(I)V"⟩ ∈ lw_ok := okm (tk_9 (List.mem_of_getElem? (l := tables_1_9) (i := 131) (by decide +kernel))) rfl
theorem w2171 : Cond.code ⟨"BellPlateModel", "takeSign", "(I)V"⟩ prog_14_method_13_code 2 (none) ∈ lw_ok := okm (tk_9 (List.mem_of_getElem? (l := tables_1_9) (i := 132) (by decide +kernel))) rfl
theorem w2172 : Cond.methodLink "BellPlateModel" 236 ⟨"BellPlateModel", "takesTower", "()V"⟩ ∈ lw_ok := okm (tk_9 (List.mem_of_getElem? (l := tables_1_9) (i := 133) (by decide +kernel))) rfl
theorem w2174 : Cond.instanceMethod ⟨"BellPlateModel", "takesTower", "()V"⟩ ∈ lw_ok := okm (tk_9 (List.mem_of_getElem? (l := tables_1_9) (i := 135) (by decide +kernel))) rfl
theorem w2175 : Cond.code ⟨"BellPlateModel", "takesTower", "()V"⟩ prog_14_method_22_code 2 (none) ∈ lw_ok := okm (tk_9 (List.mem_of_getElem? (l := tables_1_9) (i := 136) (by decide +kernel))) rfl
theorem w2176 : Cond.methodLink "BellPlateLaw" 35 ⟨"BellPlateModel", "may", "(I)I"⟩ ∈ lw_ok := okm (tk_9 (List.mem_of_getElem? (l := tables_1_9) (i := 137) (by decide +kernel))) rfl
theorem w2177 : Cond.instanceMethod ⟨"BellPlateModel", "may", "(I)I"⟩ ∈ lw_ok := okm (tk_9 (List.mem_of_getElem? (l := tables_1_9) (i := 138) (by decide +kernel))) rfl
theorem w2178 : Cond.selects "BellPlateModel" ⟨"BellPlateModel", "may", "(I)I"⟩ ⟨"BellPlateModel", "may", "(I)I"⟩ ∈ lw_ok := okm (tk_9 (List.mem_of_getElem? (l := tables_1_9) (i := 139) (by decide +kernel))) rfl
theorem w2179 : Cond.code ⟨"BellPlateModel", "may", "(I)I"⟩ prog_14_method_44_code 2 (some FieldType.int) ∈ lw_ok := okm (tk_9 (List.mem_of_getElem? (l := tables_1_9) (i := 140) (by decide +kernel))) rfl
theorem w2180 : Cond.methodLink "BellPlateModel" 337 ⟨"BellPlateModel", "isWeights", "(I)Z"⟩ ∈ lw_ok := okm (tk_9 (List.mem_of_getElem? (l := tables_1_9) (i := 141) (by decide +kernel))) rfl
theorem w2182 : Cond.instanceMethod ⟨"BellPlateModel", "isWeights", "(I)Z"⟩ ∈ lw_ok := okm (tk_9 (List.mem_of_getElem? (l := tables_1_9) (i := 143) (by decide +kernel))) rfl
theorem w2183 : Cond.code ⟨"BellPlateModel", "isWeights", "(I)Z"⟩ prog_14_method_41_code 2 (some FieldType.boolean) ∈ lw_ok := okm (tk_9 (List.mem_of_getElem? (l := tables_1_9) (i := 144) (by decide +kernel))) rfl
theorem w2184 : Cond.methodLink "BellPlateLaw" 40 ⟨"BellPlateModel", "list", "(I)J"⟩ ∈ lw_ok := okm (tk_9 (List.mem_of_getElem? (l := tables_1_9) (i := 145) (by decide +kernel))) rfl
theorem w2185 : Cond.instanceMethod ⟨"BellPlateModel", "list", "(I)J"⟩ ∈ lw_ok := okm (tk_9 (List.mem_of_getElem? (l := tables_1_9) (i := 146) (by decide +kernel))) rfl
theorem w2186 : Cond.selects "BellPlateModel" ⟨"BellPlateModel", "list", "(I)J"⟩ ⟨"BellPlateModel", "list", "(I)J"⟩ ∈ lw_ok := okm (tk_9 (List.mem_of_getElem? (l := tables_1_9) (i := 147) (by decide +kernel))) rfl
theorem w2187 : Cond.code ⟨"BellPlateModel", "list", "(I)J"⟩ prog_14_method_45_code 2 (some FieldType.long) ∈ lw_ok := okm (tk_9 (List.mem_of_getElem? (l := tables_1_9) (i := 148) (by decide +kernel))) rfl
theorem w2188 : Cond.methodLink "BellPlateLaw" 44 ⟨"BellPlateModel", "cost", "(I)I"⟩ ∈ lw_ok := okm (tk_9 (List.mem_of_getElem? (l := tables_1_9) (i := 149) (by decide +kernel))) rfl
theorem w2189 : Cond.instanceMethod ⟨"BellPlateModel", "cost", "(I)I"⟩ ∈ lw_ok := okm (tk_9 (List.mem_of_getElem? (l := tables_1_9) (i := 150) (by decide +kernel))) rfl
theorem w2190 : Cond.selects "BellPlateModel" ⟨"BellPlateModel", "cost", "(I)I"⟩ ⟨"BellPlateModel", "cost", "(I)I"⟩ ∈ lw_ok := okm (tk_9 (List.mem_of_getElem? (l := tables_1_9) (i := 151) (by decide +kernel))) rfl
theorem w2191 : Cond.code ⟨"BellPlateModel", "cost", "(I)I"⟩ prog_14_method_46_code 2 (some FieldType.int) ∈ lw_ok := okm (tk_9 (List.mem_of_getElem? (l := tables_1_9) (i := 152) (by decide +kernel))) rfl
theorem w2192 : Cond.methodLink "BellPlateModel" 340 ⟨"BellPlateModel", "isSet", "(I)Z"⟩ ∈ lw_ok := okm (tk_9 (List.mem_of_getElem? (l := tables_1_9) (i := 153) (by decide +kernel))) rfl
theorem w2194 : Cond.instanceMethod ⟨"BellPlateModel", "isSet", "(I)Z"⟩ ∈ lw_ok := okm (tk_9 (List.mem_of_getElem? (l := tables_1_9) (i := 155) (by decide +kernel))) rfl
theorem w2195 : Cond.code ⟨"BellPlateModel", "isSet", "(I)Z"⟩ prog_14_method_42_code 2 (some FieldType.boolean) ∈ lw_ok := okm (tk_9 (List.mem_of_getElem? (l := tables_1_9) (i := 156) (by decide +kernel))) rfl
theorem w2196 : Cond.methodLink "BellPlateLaw" 49 ⟨"BellPlateModel", "trial", "(IZ)I"⟩ ∈ lw_ok := okm (tk_9 (List.mem_of_getElem? (l := tables_1_9) (i := 157) (by decide +kernel))) rfl
theorem w2197 : Cond.instanceMethod ⟨"BellPlateModel", "trial", "(IZ)I"⟩ ∈ lw_ok := okm (tk_9 (List.mem_of_getElem? (l := tables_1_9) (i := 158) (by decide +kernel))) rfl
theorem w2198 : Cond.selects "BellPlateModel" ⟨"BellPlateModel", "trial", "(IZ)I"⟩ ⟨"BellPlateModel", "trial", "(IZ)I"⟩ ∈ lw_ok := okm (tk_9 (List.mem_of_getElem? (l := tables_1_9) (i := 159) (by decide +kernel))) rfl
theorem w2199 : Cond.code ⟨"BellPlateModel", "trial", "(IZ)I"⟩ prog_14_method_47_code 3 (some FieldType.int) ∈ lw_ok := okm (tk_9 (List.mem_of_getElem? (l := tables_1_9) (i := 160) (by decide +kernel))) rfl
theorem w2200 : Cond.methodLink "BellPlateLaw" 54 ⟨"BellPlateModel", "hint", "(II)I"⟩ ∈ lw_ok := okm (tk_9 (List.mem_of_getElem? (l := tables_1_9) (i := 161) (by decide +kernel))) rfl
theorem w2201 : Cond.instanceMethod ⟨"BellPlateModel", "hint", "(II)I"⟩ ∈ lw_ok := okm (tk_9 (List.mem_of_getElem? (l := tables_1_9) (i := 162) (by decide +kernel))) rfl
theorem w2202 : Cond.selects "BellPlateModel" ⟨"BellPlateModel", "hint", "(II)I"⟩ ⟨"BellPlateModel", "hint", "(II)I"⟩ ∈ lw_ok := okm (tk_9 (List.mem_of_getElem? (l := tables_1_9) (i := 163) (by decide +kernel))) rfl
theorem w2203 : Cond.code ⟨"BellPlateModel", "hint", "(II)I"⟩ prog_14_method_50_code 3 (some FieldType.int) ∈ lw_ok := okm (tk_9 (List.mem_of_getElem? (l := tables_1_9) (i := 164) (by decide +kernel))) rfl
theorem w2204 : Cond.methodLink "BellPlateModel" 350 ⟨"BellPlateModel", "within", "(III)Z"⟩ ∈ lw_ok := okm (tk_9 (List.mem_of_getElem? (l := tables_1_9) (i := 165) (by decide +kernel))) rfl
theorem w2205 : Cond.static ⟨"BellPlateModel", "within", "(III)Z"⟩ ∈ lw_ok := okm (tk_9 (List.mem_of_getElem? (l := tables_1_9) (i := 166) (by decide +kernel))) rfl
theorem w2206 : Cond.code ⟨"BellPlateModel", "within", "(III)Z"⟩ prog_14_method_17_code 3 (some FieldType.boolean) ∈ lw_ok := okm (tk_9 (List.mem_of_getElem? (l := tables_1_9) (i := 167) (by decide +kernel))) rfl
theorem w2207 : Cond.methodLink "BellPlateLaw" 58 ⟨"BellPlateModel", "left", "(I)I"⟩ ∈ lw_ok := okm (tk_9 (List.mem_of_getElem? (l := tables_1_9) (i := 168) (by decide +kernel))) rfl
theorem w2208 : Cond.instanceMethod ⟨"BellPlateModel", "left", "(I)I"⟩ ∈ lw_ok := okm (tk_9 (List.mem_of_getElem? (l := tables_1_9) (i := 169) (by decide +kernel))) rfl
theorem w2209 : Cond.selects "BellPlateModel" ⟨"BellPlateModel", "left", "(I)I"⟩ ⟨"BellPlateModel", "left", "(I)I"⟩ ∈ lw_ok := okm (tk_9 (List.mem_of_getElem? (l := tables_1_9) (i := 170) (by decide +kernel))) rfl
theorem w2210 : Cond.code ⟨"BellPlateModel", "left", "(I)I"⟩ prog_14_method_57_code 3 (some FieldType.int) ∈ lw_ok := okm (tk_9 (List.mem_of_getElem? (l := tables_1_9) (i := 171) (by decide +kernel))) rfl
theorem w2211 : Cond.methodLink "BellPlateModel" 381 ⟨"BellPlateModel", "findLeft", "()V"⟩ ∈ lw_ok := okm (tk_9 (List.mem_of_getElem? (l := tables_1_9) (i := 172) (by decide +kernel))) rfl
theorem w2213 : Cond.instanceMethod ⟨"BellPlateModel", "findLeft", "()V"⟩ ∈ lw_ok := okm (tk_9 (List.mem_of_getElem? (l := tables_1_9) (i := 174) (by decide +kernel))) rfl
theorem w2214 : Cond.code ⟨"BellPlateModel", "findLeft", "()V"⟩ prog_14_method_54_code 2 (none) ∈ lw_ok := okm (tk_9 (List.mem_of_getElem? (l := tables_1_9) (i := 175) (by decide +kernel))) rfl
theorem w2215 : Cond.methodLink "BellPlateModel" 369 ⟨"BellPlateModel", "findMust", "()V"⟩ ∈ lw_ok := okm (tk_9 (List.mem_of_getElem? (l := tables_1_9) (i := 176) (by decide +kernel))) rfl
theorem w2217 : Cond.instanceMethod ⟨"BellPlateModel", "findMust", "()V"⟩ ∈ lw_ok := okm (tk_9 (List.mem_of_getElem? (l := tables_1_9) (i := 178) (by decide +kernel))) rfl
theorem w2218 : Cond.code ⟨"BellPlateModel", "findMust", "()V"⟩ prog_14_method_48_code 2 (none) ∈ lw_ok := okm (tk_9 (List.mem_of_getElem? (l := tables_1_9) (i := 179) (by decide +kernel))) rfl
theorem w2219 : Cond.methodLink "BellPlateModel" 378 ⟨"BellPlateModel", "fitsAll", "(J)Z"⟩ ∈ lw_ok := okm (tk_9 (List.mem_of_getElem? (l := tables_1_9) (i := 180) (by decide +kernel))) rfl
theorem w2221 : Cond.instanceMethod ⟨"BellPlateModel", "fitsAll", "(J)Z"⟩ ∈ lw_ok := okm (tk_9 (List.mem_of_getElem? (l := tables_1_9) (i := 182) (by decide +kernel))) rfl
theorem w2222 : Cond.code ⟨"BellPlateModel", "fitsAll", "(J)Z"⟩ prog_14_method_53_code 5 (some FieldType.boolean) ∈ lw_ok := okm (tk_9 (List.mem_of_getElem? (l := tables_1_9) (i := 183) (by decide +kernel))) rfl
theorem w2223 : Cond.methodLink "BellPlateModel" 361 ⟨"BellPlateModel", "fits", "(J)Z"⟩ ∈ lw_ok := okm (tk_9 (List.mem_of_getElem? (l := tables_1_9) (i := 184) (by decide +kernel))) rfl
theorem w2225 : Cond.instanceMethod ⟨"BellPlateModel", "fits", "(J)Z"⟩ ∈ lw_ok := okm (tk_9 (List.mem_of_getElem? (l := tables_1_9) (i := 186) (by decide +kernel))) rfl
theorem w2226 : Cond.code ⟨"BellPlateModel", "fits", "(J)Z"⟩ prog_14_method_49_code 3 (some FieldType.boolean) ∈ lw_ok := okm (tk_9 (List.mem_of_getElem? (l := tables_1_9) (i := 187) (by decide +kernel))) rfl
theorem w2227 : Cond.methodLink "BellPlateModel" 365 ⟨"BellPlateModel", "ringOfSize", "(JI)I"⟩ ∈ lw_ok := okm (tk_9 (List.mem_of_getElem? (l := tables_1_9) (i := 188) (by decide +kernel))) rfl
theorem w2229 : Cond.instanceMethod ⟨"BellPlateModel", "ringOfSize", "(JI)I"⟩ ∈ lw_ok := okm (tk_9 (List.mem_of_getElem? (l := tables_1_9) (i := 190) (by decide +kernel))) rfl
theorem w2230 : Cond.code ⟨"BellPlateModel", "ringOfSize", "(JI)I"⟩ prog_14_method_52_code 6 (some FieldType.int) ∈ lw_ok := okm (tk_9 (List.mem_of_getElem? (l := tables_1_9) (i := 191) (by decide +kernel))) rfl
theorem w2231 : Cond.methodLink "BellPlateModel" 354 ⟨"BellPlateModel", "bits", "(I)I"⟩ ∈ lw_ok := okm (tk_9 (List.mem_of_getElem? (l := tables_1_9) (i := 192) (by decide +kernel))) rfl
theorem w2232 : Cond.static ⟨"BellPlateModel", "bits", "(I)I"⟩ ∈ lw_ok := okm (tk_9 (List.mem_of_getElem? (l := tables_1_9) (i := 193) (by decide +kernel))) rfl
theorem w2233 : Cond.code ⟨"BellPlateModel", "bits", "(I)I"⟩ prog_14_method_51_code 3 (some FieldType.int) ∈ lw_ok := okm (tk_9 (List.mem_of_getElem? (l := tables_1_9) (i := 194) (by decide +kernel))) rfl
theorem w2234 : Cond.methodLink "BellPlateModel" 357 ⟨"BellPlateModel", "doesRing", "(JI)Z"⟩ ∈ lw_ok := okm (tk_9 (List.mem_of_getElem? (l := tables_1_9) (i := 195) (by decide +kernel))) rfl
theorem w2235 : Cond.static ⟨"BellPlateModel", "doesRing", "(JI)Z"⟩ ∈ lw_ok := okm (tk_9 (List.mem_of_getElem? (l := tables_1_9) (i := 196) (by decide +kernel))) rfl
theorem w2236 : Cond.code ⟨"BellPlateModel", "doesRing", "(JI)Z"⟩ prog_14_method_55_code 3 (some FieldType.boolean) ∈ lw_ok := okm (tk_9 (List.mem_of_getElem? (l := tables_1_9) (i := 197) (by decide +kernel))) rfl
theorem w2237 : Cond.methodLink "BellPlateModel" 384 ⟨"BellPlateModel", "isLeft", "(I)Z"⟩ ∈ lw_ok := okm (tk_9 (List.mem_of_getElem? (l := tables_1_9) (i := 198) (by decide +kernel))) rfl
theorem w2239 : Cond.instanceMethod ⟨"BellPlateModel", "isLeft", "(I)Z"⟩ ∈ lw_ok := okm (tk_9 (List.mem_of_getElem? (l := tables_1_9) (i := 200) (by decide +kernel))) rfl
theorem w2240 : Cond.code ⟨"BellPlateModel", "isLeft", "(I)Z"⟩ prog_14_method_56_code 2 (some FieldType.boolean) ∈ lw_ok := okm (tk_9 (List.mem_of_getElem? (l := tables_1_9) (i := 201) (by decide +kernel))) rfl
theorem w2241 : Cond.methodLink "BellPlateLaw" 62 ⟨"BellPlateModel", "sure", "(I)I"⟩ ∈ lw_ok := okm (tk_9 (List.mem_of_getElem? (l := tables_1_9) (i := 202) (by decide +kernel))) rfl
theorem w2242 : Cond.instanceMethod ⟨"BellPlateModel", "sure", "(I)I"⟩ ∈ lw_ok := okm (tk_9 (List.mem_of_getElem? (l := tables_1_9) (i := 203) (by decide +kernel))) rfl
theorem w2243 : Cond.selects "BellPlateModel" ⟨"BellPlateModel", "sure", "(I)I"⟩ ⟨"BellPlateModel", "sure", "(I)I"⟩ ∈ lw_ok := okm (tk_9 (List.mem_of_getElem? (l := tables_1_9) (i := 204) (by decide +kernel))) rfl
theorem w2244 : Cond.code ⟨"BellPlateModel", "sure", "(I)I"⟩ prog_14_method_60_code 2 (some FieldType.int) ∈ lw_ok := okm (tk_9 (List.mem_of_getElem? (l := tables_1_9) (i := 205) (by decide +kernel))) rfl
theorem w2245 : Cond.methodLink "BellPlateModel" 387 ⟨"BellPlateModel", "ringing", "(I)I"⟩ ∈ lw_ok := okm (tk_9 (List.mem_of_getElem? (l := tables_1_9) (i := 206) (by decide +kernel))) rfl
theorem w2247 : Cond.instanceMethod ⟨"BellPlateModel", "ringing", "(I)I"⟩ ∈ lw_ok := okm (tk_9 (List.mem_of_getElem? (l := tables_1_9) (i := 208) (by decide +kernel))) rfl
theorem w2248 : Cond.code ⟨"BellPlateModel", "ringing", "(I)I"⟩ prog_14_method_59_code 4 (some FieldType.int) ∈ lw_ok := okm (tk_9 (List.mem_of_getElem? (l := tables_1_9) (i := 209) (by decide +kernel))) rfl
theorem w2249 : Cond.methodLink "BellPlateModel" 390 ⟨"BellPlateModel", "sureOf", "(II)I"⟩ ∈ lw_ok := okm (tk_9 (List.mem_of_getElem? (l := tables_1_9) (i := 210) (by decide +kernel))) rfl
theorem w2250 : Cond.static ⟨"BellPlateModel", "sureOf", "(II)I"⟩ ∈ lw_ok := okm (tk_9 (List.mem_of_getElem? (l := tables_1_9) (i := 211) (by decide +kernel))) rfl
theorem w2251 : Cond.code ⟨"BellPlateModel", "sureOf", "(II)I"⟩ prog_14_method_58_code 2 (some FieldType.int) ∈ lw_ok := okm (tk_9 (List.mem_of_getElem? (l := tables_1_9) (i := 212) (by decide +kernel))) rfl
theorem w2252 : Cond.methodLink "BellPlateLaw" 66 ⟨"BellPlateModel", "matters", "(I)I"⟩ ∈ lw_ok := okm (tk_9 (List.mem_of_getElem? (l := tables_1_9) (i := 213) (by decide +kernel))) rfl
theorem w2253 : Cond.instanceMethod ⟨"BellPlateModel", "matters", "(I)I"⟩ ∈ lw_ok := okm (tk_9 (List.mem_of_getElem? (l := tables_1_9) (i := 214) (by decide +kernel))) rfl
theorem w2254 : Cond.selects "BellPlateModel" ⟨"BellPlateModel", "matters", "(I)I"⟩ ⟨"BellPlateModel", "matters", "(I)I"⟩ ∈ lw_ok := okm (tk_9 (List.mem_of_getElem? (l := tables_1_9) (i := 215) (by decide +kernel))) rfl
theorem w2255 : Cond.code ⟨"BellPlateModel", "matters", "(I)I"⟩ prog_14_method_62_code 4 (some FieldType.int) ∈ lw_ok := okm (tk_9 (List.mem_of_getElem? (l := tables_1_9) (i := 216) (by decide +kernel))) rfl
theorem w2256 : Cond.methodLink "BellPlateModel" 393 ⟨"BellPlateModel", "isThing", "(I)Z"⟩ ∈ lw_ok := okm (tk_9 (List.mem_of_getElem? (l := tables_1_9) (i := 217) (by decide +kernel))) rfl
theorem w2258 : Cond.instanceMethod ⟨"BellPlateModel", "isThing", "(I)Z"⟩ ∈ lw_ok := okm (tk_9 (List.mem_of_getElem? (l := tables_1_9) (i := 219) (by decide +kernel))) rfl
theorem w2259 : Cond.code ⟨"BellPlateModel", "isThing", "(I)Z"⟩ prog_14_method_43_code 2 (some FieldType.boolean) ∈ lw_ok := okm (tk_9 (List.mem_of_getElem? (l := tables_1_9) (i := 220) (by decide +kernel))) rfl
theorem w2260 : Cond.methodLink "BellPlateModel" 396 ⟨"BellPlateModel", "doesMatter", "(JI)Z"⟩ ∈ lw_ok := okm (tk_9 (List.mem_of_getElem? (l := tables_1_9) (i := 221) (by decide +kernel))) rfl
theorem w2262 : Cond.instanceMethod ⟨"BellPlateModel", "doesMatter", "(JI)Z"⟩ ∈ lw_ok := okm (tk_9 (List.mem_of_getElem? (l := tables_1_9) (i := 223) (by decide +kernel))) rfl
theorem w2263 : Cond.code ⟨"BellPlateModel", "doesMatter", "(JI)Z"⟩ prog_14_method_61_code 6 (some FieldType.boolean) ∈ lw_ok := okm (tk_9 (List.mem_of_getElem? (l := tables_1_9) (i := 224) (by decide +kernel))) rfl
theorem w2264 : Cond.methodLink "BellPlateLaw" 70 ⟨"BellPlateModel", "alike", "(II)I"⟩ ∈ lw_ok := okm (tk_9 (List.mem_of_getElem? (l := tables_1_9) (i := 225) (by decide +kernel))) rfl
theorem w2265 : Cond.instanceMethod ⟨"BellPlateModel", "alike", "(II)I"⟩ ∈ lw_ok := okm (tk_9 (List.mem_of_getElem? (l := tables_1_9) (i := 226) (by decide +kernel))) rfl
theorem w2266 : Cond.selects "BellPlateModel" ⟨"BellPlateModel", "alike", "(II)I"⟩ ⟨"BellPlateModel", "alike", "(II)I"⟩ ∈ lw_ok := okm (tk_9 (List.mem_of_getElem? (l := tables_1_9) (i := 227) (by decide +kernel))) rfl
theorem w2267 : Cond.code ⟨"BellPlateModel", "alike", "(II)I"⟩ prog_14_method_64_code 5 (some FieldType.int) ∈ lw_ok := okm (tk_9 (List.mem_of_getElem? (l := tables_1_9) (i := 228) (by decide +kernel))) rfl
theorem w2268 : Cond.methodLink "BellPlateModel" 399 ⟨"BellPlateModel", "areAlike", "(JII)Z"⟩ ∈ lw_ok := okm (tk_9 (List.mem_of_getElem? (l := tables_1_9) (i := 229) (by decide +kernel))) rfl
theorem w2270 : Cond.instanceMethod ⟨"BellPlateModel", "areAlike", "(JII)Z"⟩ ∈ lw_ok := okm (tk_9 (List.mem_of_getElem? (l := tables_1_9) (i := 231) (by decide +kernel))) rfl
theorem w2271 : Cond.code ⟨"BellPlateModel", "areAlike", "(JII)Z"⟩ prog_14_method_63_code 8 (some FieldType.boolean) ∈ lw_ok := okm (tk_9 (List.mem_of_getElem? (l := tables_1_9) (i := 232) (by decide +kernel))) rfl
theorem w2272 : Cond.methodLink "BellPlateLaw" 74 ⟨"BellPlateModel", "next", "(I)I"⟩ ∈ lw_ok := okm (tk_9 (List.mem_of_getElem? (l := tables_1_9) (i := 233) (by decide +kernel))) rfl
theorem w2273 : Cond.instanceMethod ⟨"BellPlateModel", "next", "(I)I"⟩ ∈ lw_ok := okm (tk_9 (List.mem_of_getElem? (l := tables_1_9) (i := 234) (by decide +kernel))) rfl
theorem w2274 : Cond.selects "BellPlateModel" ⟨"BellPlateModel", "next", "(I)I"⟩ ⟨"BellPlateModel", "next", "(I)I"⟩ ∈ lw_ok := okm (tk_9 (List.mem_of_getElem? (l := tables_1_9) (i := 235) (by decide +kernel))) rfl
theorem w2275 : Cond.code ⟨"BellPlateModel", "next", "(I)I"⟩ prog_14_method_70_code 2 (some FieldType.int) ∈ lw_ok := okm (tk_9 (List.mem_of_getElem? (l := tables_1_9) (i := 236) (by decide +kernel))) rfl
theorem w2276 : Cond.methodLink "BellPlateModel" 407 ⟨"BellPlateModel", "isWay", "(I)Z"⟩ ∈ lw_ok := okm (tk_9 (List.mem_of_getElem? (l := tables_1_9) (i := 237) (by decide +kernel))) rfl
theorem w2277 : Cond.static ⟨"BellPlateModel", "isWay", "(I)Z"⟩ ∈ lw_ok := okm (tk_9 (List.mem_of_getElem? (l := tables_1_9) (i := 238) (by decide +kernel))) rfl
theorem w2278 : Cond.code ⟨"BellPlateModel", "isWay", "(I)Z"⟩ prog_14_method_69_code 1 (some FieldType.boolean) ∈ lw_ok := okm (tk_9 (List.mem_of_getElem? (l := tables_1_9) (i := 239) (by decide +kernel))) rfl
theorem w2279 : Cond.methodLink "BellPlateModel" 410 ⟨"BellPlateModel", "takesLeft", "()V"⟩ ∈ lw_ok := okm (tk_10 (List.mem_of_getElem? (l := tables_1_10) (i := 0) (by decide +kernel))) rfl
theorem w2281 : Cond.instanceMethod ⟨"BellPlateModel", "takesLeft", "()V"⟩ ∈ lw_ok := okm (tk_10 (List.mem_of_getElem? (l := tables_1_10) (i := 2) (by decide +kernel))) rfl
theorem w2282 : Cond.code ⟨"BellPlateModel", "takesLeft", "()V"⟩ prog_14_method_65_code 2 (none) ∈ lw_ok := okm (tk_10 (List.mem_of_getElem? (l := tables_1_10) (i := 3) (by decide +kernel))) rfl
theorem w2283 : Cond.methodLink "BellPlateModel" 413 ⟨"BellPlateModel", "nextOf", "(III)I"⟩ ∈ lw_ok := okm (tk_10 (List.mem_of_getElem? (l := tables_1_10) (i := 4) (by decide +kernel))) rfl
theorem w2285 : Cond.instanceMethod ⟨"BellPlateModel", "nextOf", "(III)I"⟩ ∈ lw_ok := okm (tk_10 (List.mem_of_getElem? (l := tables_1_10) (i := 6) (by decide +kernel))) rfl
theorem w2286 : Cond.code ⟨"BellPlateModel", "nextOf", "(III)I"⟩ prog_14_method_67_code 8 (some FieldType.int) ∈ lw_ok := okm (tk_10 (List.mem_of_getElem? (l := tables_1_10) (i := 7) (by decide +kernel))) rfl
theorem w2287 : Cond.methodLink "BellPlateModel" 403 ⟨"BellPlateModel", "isBetter", "(IIII)Z"⟩ ∈ lw_ok := okm (tk_10 (List.mem_of_getElem? (l := tables_1_10) (i := 8) (by decide +kernel))) rfl
theorem w2289 : Cond.instanceMethod ⟨"BellPlateModel", "isBetter", "(IIII)Z"⟩ ∈ lw_ok := okm (tk_10 (List.mem_of_getElem? (l := tables_1_10) (i := 10) (by decide +kernel))) rfl
theorem w2290 : Cond.code ⟨"BellPlateModel", "isBetter", "(IIII)Z"⟩ prog_14_method_66_code 7 (some FieldType.boolean) ∈ lw_ok := okm (tk_10 (List.mem_of_getElem? (l := tables_1_10) (i := 11) (by decide +kernel))) rfl
theorem w2291 : Cond.methodLink "BellPlateLaw" 88 ⟨"BellPlateModel", "run", "(III)I"⟩ ∈ lw_ok := okm (tk_10 (List.mem_of_getElem? (l := tables_1_10) (i := 12) (by decide +kernel))) rfl
theorem w2292 : Cond.instanceMethod ⟨"BellPlateModel", "run", "(III)I"⟩ ∈ lw_ok := okm (tk_10 (List.mem_of_getElem? (l := tables_1_10) (i := 13) (by decide +kernel))) rfl
theorem w2293 : Cond.selects "BellPlateModel" ⟨"BellPlateModel", "run", "(III)I"⟩ ⟨"BellPlateModel", "run", "(III)I"⟩ ∈ lw_ok := okm (tk_10 (List.mem_of_getElem? (l := tables_1_10) (i := 14) (by decide +kernel))) rfl
theorem w2294 : Cond.code ⟨"BellPlateModel", "run", "(III)I"⟩ prog_14_method_73_code 4 (some FieldType.int) ∈ lw_ok := okm (tk_10 (List.mem_of_getElem? (l := tables_1_10) (i := 15) (by decide +kernel))) rfl
theorem w2295 : Cond.methodLink "BellPlateModel" 428 ⟨"BellPlateModel", "canRun", "(II)Z"⟩ ∈ lw_ok := okm (tk_10 (List.mem_of_getElem? (l := tables_1_10) (i := 16) (by decide +kernel))) rfl
theorem w2297 : Cond.instanceMethod ⟨"BellPlateModel", "canRun", "(II)Z"⟩ ∈ lw_ok := okm (tk_10 (List.mem_of_getElem? (l := tables_1_10) (i := 18) (by decide +kernel))) rfl
theorem w2298 : Cond.code ⟨"BellPlateModel", "canRun", "(II)Z"⟩ prog_14_method_72_code 3 (some FieldType.boolean) ∈ lw_ok := okm (tk_10 (List.mem_of_getElem? (l := tables_1_10) (i := 19) (by decide +kernel))) rfl
theorem w2299 : Cond.methodLink "BellPlateModel" 432 ⟨"BellPlateModel", "runs", "(JI)V"⟩ ∈ lw_ok := okm (tk_10 (List.mem_of_getElem? (l := tables_1_10) (i := 20) (by decide +kernel))) rfl
theorem w2301 : Cond.instanceMethod ⟨"BellPlateModel", "runs", "(JI)V"⟩ ∈ lw_ok := okm (tk_10 (List.mem_of_getElem? (l := tables_1_10) (i := 22) (by decide +kernel))) rfl
theorem w2302 : Cond.code ⟨"BellPlateModel", "runs", "(JI)V"⟩ prog_14_method_71_code 9 (none) ∈ lw_ok := okm (tk_10 (List.mem_of_getElem? (l := tables_1_10) (i := 23) (by decide +kernel))) rfl
theorem w2303 : Cond.methodLink "BellPlateModel" 425 ⟨"BellPlateModel", "divides", "(III)I"⟩ ∈ lw_ok := okm (tk_10 (List.mem_of_getElem? (l := tables_1_10) (i := 24) (by decide +kernel))) rfl
theorem w2305 : Cond.instanceMethod ⟨"BellPlateModel", "divides", "(III)I"⟩ ∈ lw_ok := okm (tk_10 (List.mem_of_getElem? (l := tables_1_10) (i := 26) (by decide +kernel))) rfl
theorem w2306 : Cond.code ⟨"BellPlateModel", "divides", "(III)I"⟩ prog_14_method_68_code 7 (some FieldType.int) ∈ lw_ok := okm (tk_10 (List.mem_of_getElem? (l := tables_1_10) (i := 27) (by decide +kernel))) rfl
theorem w2307 : Cond.methodLink "BellPlateLaw" 95 ⟨"BellPlateModel", "runSet", "(III)I"⟩ ∈ lw_ok := okm (tk_10 (List.mem_of_getElem? (l := tables_1_10) (i := 28) (by decide +kernel))) rfl
theorem w2308 : Cond.instanceMethod ⟨"BellPlateModel", "runSet", "(III)I"⟩ ∈ lw_ok := okm (tk_10 (List.mem_of_getElem? (l := tables_1_10) (i := 29) (by decide +kernel))) rfl
theorem w2309 : Cond.selects "BellPlateModel" ⟨"BellPlateModel", "runSet", "(III)I"⟩ ⟨"BellPlateModel", "runSet", "(III)I"⟩ ∈ lw_ok := okm (tk_10 (List.mem_of_getElem? (l := tables_1_10) (i := 30) (by decide +kernel))) rfl
theorem w2310 : Cond.code ⟨"BellPlateModel", "runSet", "(III)I"⟩ prog_14_method_74_code 4 (some FieldType.int) ∈ lw_ok := okm (tk_10 (List.mem_of_getElem? (l := tables_1_10) (i := 31) (by decide +kernel))) rfl
theorem w2311 : Cond.methodLink "BellPlateLaw" 99 ⟨"BellPlateModel", "worst", "(I)I"⟩ ∈ lw_ok := okm (tk_10 (List.mem_of_getElem? (l := tables_1_10) (i := 32) (by decide +kernel))) rfl
theorem w2312 : Cond.instanceMethod ⟨"BellPlateModel", "worst", "(I)I"⟩ ∈ lw_ok := okm (tk_10 (List.mem_of_getElem? (l := tables_1_10) (i := 33) (by decide +kernel))) rfl
theorem w2313 : Cond.selects "BellPlateModel" ⟨"BellPlateModel", "worst", "(I)I"⟩ ⟨"BellPlateModel", "worst", "(I)I"⟩ ∈ lw_ok := okm (tk_10 (List.mem_of_getElem? (l := tables_1_10) (i := 34) (by decide +kernel))) rfl
theorem w2314 : Cond.code ⟨"BellPlateModel", "worst", "(I)I"⟩ prog_14_method_77_code 2 (some FieldType.int) ∈ lw_ok := okm (tk_10 (List.mem_of_getElem? (l := tables_1_10) (i := 35) (by decide +kernel))) rfl
theorem w2315 : Cond.methodLink "BellPlateModel" 446 ⟨"BellPlateModel", "findRuns", "(I)Z"⟩ ∈ lw_ok := okm (tk_10 (List.mem_of_getElem? (l := tables_1_10) (i := 36) (by decide +kernel))) rfl
theorem w2317 : Cond.instanceMethod ⟨"BellPlateModel", "findRuns", "(I)Z"⟩ ∈ lw_ok := okm (tk_10 (List.mem_of_getElem? (l := tables_1_10) (i := 38) (by decide +kernel))) rfl
theorem w2318 : Cond.code ⟨"BellPlateModel", "findRuns", "(I)Z"⟩ prog_14_method_76_code 2 (some FieldType.boolean) ∈ lw_ok := okm (tk_10 (List.mem_of_getElem? (l := tables_1_10) (i := 39) (by decide +kernel))) rfl
theorem w2319 : Cond.methodLink "BellPlateModel" 442 ⟨"BellPlateModel", "runsAll", "(IIII)V"⟩ ∈ lw_ok := okm (tk_10 (List.mem_of_getElem? (l := tables_1_10) (i := 40) (by decide +kernel))) rfl
theorem w2321 : Cond.instanceMethod ⟨"BellPlateModel", "runsAll", "(IIII)V"⟩ ∈ lw_ok := okm (tk_10 (List.mem_of_getElem? (l := tables_1_10) (i := 42) (by decide +kernel))) rfl
theorem w2322 : Cond.code ⟨"BellPlateModel", "runsAll", "(IIII)V"⟩ prog_14_method_75_code 6 (none) ∈ lw_ok := okm (tk_10 (List.mem_of_getElem? (l := tables_1_10) (i := 43) (by decide +kernel))) rfl
theorem w2323 : Cond.methodLink "BellPlateLaw" 103 ⟨"BellPlateModel", "mean", "(II)I"⟩ ∈ lw_ok := okm (tk_10 (List.mem_of_getElem? (l := tables_1_10) (i := 44) (by decide +kernel))) rfl
theorem w2324 : Cond.instanceMethod ⟨"BellPlateModel", "mean", "(II)I"⟩ ∈ lw_ok := okm (tk_10 (List.mem_of_getElem? (l := tables_1_10) (i := 45) (by decide +kernel))) rfl
theorem w2325 : Cond.selects "BellPlateModel" ⟨"BellPlateModel", "mean", "(II)I"⟩ ⟨"BellPlateModel", "mean", "(II)I"⟩ ∈ lw_ok := okm (tk_10 (List.mem_of_getElem? (l := tables_1_10) (i := 46) (by decide +kernel))) rfl
theorem w2326 : Cond.code ⟨"BellPlateModel", "mean", "(II)I"⟩ prog_14_method_81_code 3 (some FieldType.int) ∈ lw_ok := okm (tk_10 (List.mem_of_getElem? (l := tables_1_10) (i := 47) (by decide +kernel))) rfl
theorem w2327 : Cond.methodLink "BellPlateModel" 453 ⟨"BellPlateModel", "isWhat", "(I)Z"⟩ ∈ lw_ok := okm (tk_10 (List.mem_of_getElem? (l := tables_1_10) (i := 48) (by decide +kernel))) rfl
theorem w2328 : Cond.static ⟨"BellPlateModel", "isWhat", "(I)Z"⟩ ∈ lw_ok := okm (tk_10 (List.mem_of_getElem? (l := tables_1_10) (i := 49) (by decide +kernel))) rfl
theorem w2329 : Cond.code ⟨"BellPlateModel", "isWhat", "(I)Z"⟩ prog_14_method_80_code 1 (some FieldType.boolean) ∈ lw_ok := okm (tk_10 (List.mem_of_getElem? (l := tables_1_10) (i := 50) (by decide +kernel))) rfl
theorem w2330 : Cond.methodLink "BellPlateModel" 456 ⟨"BellPlateModel", "lowest", "(JJI)I"⟩ ∈ lw_ok := okm (tk_10 (List.mem_of_getElem? (l := tables_1_10) (i := 51) (by decide +kernel))) rfl
theorem w2331 : Cond.static ⟨"BellPlateModel", "lowest", "(JJI)I"⟩ ∈ lw_ok := okm (tk_10 (List.mem_of_getElem? (l := tables_1_10) (i := 52) (by decide +kernel))) rfl
theorem w2332 : Cond.code ⟨"BellPlateModel", "lowest", "(JJI)I"⟩ prog_14_method_79_code 7 (some FieldType.int) ∈ lw_ok := okm (tk_10 (List.mem_of_getElem? (l := tables_1_10) (i := 53) (by decide +kernel))) rfl
theorem w2333 : Cond.methodLink "BellPlateModel" 449 ⟨"BellPlateModel", "common", "(JJ)J"⟩ ∈ lw_ok := okm (tk_10 (List.mem_of_getElem? (l := tables_1_10) (i := 54) (by decide +kernel))) rfl
theorem w2334 : Cond.static ⟨"BellPlateModel", "common", "(JJ)J"⟩ ∈ lw_ok := okm (tk_10 (List.mem_of_getElem? (l := tables_1_10) (i := 55) (by decide +kernel))) rfl
theorem w2335 : Cond.code ⟨"BellPlateModel", "common", "(JJ)J"⟩ prog_14_method_78_code 10 (some FieldType.long) ∈ lw_ok := okm (tk_10 (List.mem_of_getElem? (l := tables_1_10) (i := 56) (by decide +kernel))) rfl
theorem w2336 : Cond.methodLink "BellPlateLaw" 78 ⟨"BellPlateModel", "fewest", "(I)I"⟩ ∈ lw_ok := okm (tk_10 (List.mem_of_getElem? (l := tables_1_10) (i := 57) (by decide +kernel))) rfl
theorem w2337 : Cond.instanceMethod ⟨"BellPlateModel", "fewest", "(I)I"⟩ ∈ lw_ok := okm (tk_10 (List.mem_of_getElem? (l := tables_1_10) (i := 58) (by decide +kernel))) rfl
theorem w2338 : Cond.selects "BellPlateModel" ⟨"BellPlateModel", "fewest", "(I)I"⟩ ⟨"BellPlateModel", "fewest", "(I)I"⟩ ∈ lw_ok := okm (tk_10 (List.mem_of_getElem? (l := tables_1_10) (i := 59) (by decide +kernel))) rfl
theorem w2339 : Cond.code ⟨"BellPlateModel", "fewest", "(I)I"⟩ prog_14_method_85_code 2 (some FieldType.int) ∈ lw_ok := okm (tk_10 (List.mem_of_getElem? (l := tables_1_10) (i := 60) (by decide +kernel))) rfl
theorem w2340 : Cond.methodLink "BellPlateModel" 466 ⟨"BellPlateModel", "fewestFor", "(III)I"⟩ ∈ lw_ok := okm (tk_10 (List.mem_of_getElem? (l := tables_1_10) (i := 61) (by decide +kernel))) rfl
theorem w2341 : Cond.instanceMethod ⟨"BellPlateModel", "fewestFor", "(III)I"⟩ ∈ lw_ok := okm (tk_10 (List.mem_of_getElem? (l := tables_1_10) (i := 62) (by decide +kernel))) rfl
theorem w2342 : Cond.selects "BellPlateModel" ⟨"BellPlateModel", "fewestFor", "(III)I"⟩ ⟨"BellPlateModel", "fewestFor", "(III)I"⟩ ∈ lw_ok := okm (tk_10 (List.mem_of_getElem? (l := tables_1_10) (i := 63) (by decide +kernel))) rfl
theorem w2343 : Cond.code ⟨"BellPlateModel", "fewestFor", "(III)I"⟩ prog_14_method_87_code 8 (some FieldType.int) ∈ lw_ok := okm (tk_10 (List.mem_of_getElem? (l := tables_1_10) (i := 64) (by decide +kernel))) rfl
theorem w2344 : Cond.methodLink "BellPlateModel" 469 ⟨"BellPlateModel", "isQuestion", "(II)Z"⟩ ∈ lw_ok := okm (tk_10 (List.mem_of_getElem? (l := tables_1_10) (i := 65) (by decide +kernel))) rfl
theorem w2346 : Cond.instanceMethod ⟨"BellPlateModel", "isQuestion", "(II)Z"⟩ ∈ lw_ok := okm (tk_10 (List.mem_of_getElem? (l := tables_1_10) (i := 67) (by decide +kernel))) rfl
theorem w2347 : Cond.code ⟨"BellPlateModel", "isQuestion", "(II)Z"⟩ prog_14_method_86_code 3 (some FieldType.boolean) ∈ lw_ok := okm (tk_10 (List.mem_of_getElem? (l := tables_1_10) (i := 68) (by decide +kernel))) rfl
theorem w2348 : Cond.methodLink "BellPlateModel" 472 ⟨"BellPlateModel", "ringCount", "(J)I"⟩ ∈ lw_ok := okm (tk_10 (List.mem_of_getElem? (l := tables_1_10) (i := 69) (by decide +kernel))) rfl
theorem w2350 : Cond.instanceMethod ⟨"BellPlateModel", "ringCount", "(J)I"⟩ ∈ lw_ok := okm (tk_10 (List.mem_of_getElem? (l := tables_1_10) (i := 71) (by decide +kernel))) rfl
theorem w2351 : Cond.code ⟨"BellPlateModel", "ringCount", "(J)I"⟩ prog_14_method_88_code 5 (some FieldType.int) ∈ lw_ok := okm (tk_10 (List.mem_of_getElem? (l := tables_1_10) (i := 72) (by decide +kernel))) rfl
theorem w2352 : Cond.methodLink "BellPlateModel" 475 ⟨"BellPlateModel", "findFewest", "(I)I"⟩ ∈ lw_ok := okm (tk_10 (List.mem_of_getElem? (l := tables_1_10) (i := 73) (by decide +kernel))) rfl
theorem w2354 : Cond.instanceMethod ⟨"BellPlateModel", "findFewest", "(I)I"⟩ ∈ lw_ok := okm (tk_10 (List.mem_of_getElem? (l := tables_1_10) (i := 75) (by decide +kernel))) rfl
theorem w2355 : Cond.code ⟨"BellPlateModel", "findFewest", "(I)I"⟩ prog_14_method_84_code 5 (some FieldType.int) ∈ lw_ok := okm (tk_10 (List.mem_of_getElem? (l := tables_1_10) (i := 76) (by decide +kernel))) rfl
theorem w2356 : Cond.methodLink "BellPlateModel" 463 ⟨"BellPlateModel", "fewestBy", "(I)I"⟩ ∈ lw_ok := okm (tk_10 (List.mem_of_getElem? (l := tables_1_10) (i := 77) (by decide +kernel))) rfl
theorem w2358 : Cond.instanceMethod ⟨"BellPlateModel", "fewestBy", "(I)I"⟩ ∈ lw_ok := okm (tk_10 (List.mem_of_getElem? (l := tables_1_10) (i := 79) (by decide +kernel))) rfl
theorem w2359 : Cond.code ⟨"BellPlateModel", "fewestBy", "(I)I"⟩ prog_14_method_82_code 7 (some FieldType.int) ∈ lw_ok := okm (tk_10 (List.mem_of_getElem? (l := tables_1_10) (i := 80) (by decide +kernel))) rfl
theorem w2360 : Cond.methodLink "BellPlateModel" 460 ⟨"BellPlateModel", "by", "(II)I"⟩ ∈ lw_ok := okm (tk_10 (List.mem_of_getElem? (l := tables_1_10) (i := 81) (by decide +kernel))) rfl
theorem w2362 : Cond.instanceMethod ⟨"BellPlateModel", "by", "(II)I"⟩ ∈ lw_ok := okm (tk_10 (List.mem_of_getElem? (l := tables_1_10) (i := 83) (by decide +kernel))) rfl
theorem w2363 : Cond.code ⟨"BellPlateModel", "by", "(II)I"⟩ prog_14_method_83_code 7 (some FieldType.int) ∈ lw_ok := okm (tk_10 (List.mem_of_getElem? (l := tables_1_10) (i := 84) (by decide +kernel))) rfl
theorem w2364 : Cond.methodLink "BellPlateLaw" 82 ⟨"BellPlateModel", "fewestFor", "(III)I"⟩ ∈ lw_ok := okm (tk_10 (List.mem_of_getElem? (l := tables_1_10) (i := 85) (by decide +kernel))) rfl
theorem w2365 : Cond.methodLink "BellPlateLaw" 107 ⟨"BellPlateModel", "smallest", "(I)I"⟩ ∈ lw_ok := okm (tk_10 (List.mem_of_getElem? (l := tables_1_10) (i := 86) (by decide +kernel))) rfl
theorem w2366 : Cond.instanceMethod ⟨"BellPlateModel", "smallest", "(I)I"⟩ ∈ lw_ok := okm (tk_10 (List.mem_of_getElem? (l := tables_1_10) (i := 87) (by decide +kernel))) rfl
theorem w2367 : Cond.selects "BellPlateModel" ⟨"BellPlateModel", "smallest", "(I)I"⟩ ⟨"BellPlateModel", "smallest", "(I)I"⟩ ∈ lw_ok := okm (tk_10 (List.mem_of_getElem? (l := tables_1_10) (i := 88) (by decide +kernel))) rfl
theorem w2368 : Cond.code ⟨"BellPlateModel", "smallest", "(I)I"⟩ prog_14_method_90_code 2 (some FieldType.int) ∈ lw_ok := okm (tk_10 (List.mem_of_getElem? (l := tables_1_10) (i := 89) (by decide +kernel))) rfl
theorem w2369 : Cond.methodLink "BellPlateModel" 487 ⟨"BellPlateModel", "findSmallest", "(JJ)Z"⟩ ∈ lw_ok := okm (tk_10 (List.mem_of_getElem? (l := tables_1_10) (i := 90) (by decide +kernel))) rfl
theorem w2371 : Cond.instanceMethod ⟨"BellPlateModel", "findSmallest", "(JJ)Z"⟩ ∈ lw_ok := okm (tk_10 (List.mem_of_getElem? (l := tables_1_10) (i := 92) (by decide +kernel))) rfl
theorem w2372 : Cond.code ⟨"BellPlateModel", "findSmallest", "(JJ)Z"⟩ prog_14_method_89_code 11 (some FieldType.boolean) ∈ lw_ok := okm (tk_10 (List.mem_of_getElem? (l := tables_1_10) (i := 93) (by decide +kernel))) rfl
theorem w2373 : Cond.methodLink "BellPlateLaw" 168 ⟨"BellPlateModel", "same", "(II)I"⟩ ∈ lw_ok := okm (tk_10 (List.mem_of_getElem? (l := tables_1_10) (i := 94) (by decide +kernel))) rfl
theorem w2374 : Cond.instanceMethod ⟨"BellPlateModel", "same", "(II)I"⟩ ∈ lw_ok := okm (tk_10 (List.mem_of_getElem? (l := tables_1_10) (i := 95) (by decide +kernel))) rfl
theorem w2375 : Cond.selects "BellPlateModel" ⟨"BellPlateModel", "same", "(II)I"⟩ ⟨"BellPlateModel", "same", "(II)I"⟩ ∈ lw_ok := okm (tk_10 (List.mem_of_getElem? (l := tables_1_10) (i := 96) (by decide +kernel))) rfl
theorem w2376 : Cond.code ⟨"BellPlateModel", "same", "(II)I"⟩ prog_14_method_91_code 8 (some FieldType.int) ∈ lw_ok := okm (tk_10 (List.mem_of_getElem? (l := tables_1_10) (i := 97) (by decide +kernel))) rfl
theorem w2377 : Cond.methodLink "BellPlateLaw" 111 ⟨"BellPlateModel", "cannot", "(I)I"⟩ ∈ lw_ok := okm (tk_10 (List.mem_of_getElem? (l := tables_1_10) (i := 98) (by decide +kernel))) rfl
theorem w2378 : Cond.instanceMethod ⟨"BellPlateModel", "cannot", "(I)I"⟩ ∈ lw_ok := okm (tk_10 (List.mem_of_getElem? (l := tables_1_10) (i := 99) (by decide +kernel))) rfl
theorem w2379 : Cond.selects "BellPlateModel" ⟨"BellPlateModel", "cannot", "(I)I"⟩ ⟨"BellPlateModel", "cannot", "(I)I"⟩ ∈ lw_ok := okm (tk_10 (List.mem_of_getElem? (l := tables_1_10) (i := 100) (by decide +kernel))) rfl
theorem w2380 : Cond.code ⟨"BellPlateModel", "cannot", "(I)I"⟩ prog_14_method_94_code 4 (some FieldType.int) ∈ lw_ok := okm (tk_10 (List.mem_of_getElem? (l := tables_1_10) (i := 101) (by decide +kernel))) rfl
theorem w2381 : Cond.methodLink "BellPlateModel" 495 ⟨"BellPlateModel", "pairs", "(IIII)Z"⟩ ∈ lw_ok := okm (tk_10 (List.mem_of_getElem? (l := tables_1_10) (i := 102) (by decide +kernel))) rfl
theorem w2383 : Cond.instanceMethod ⟨"BellPlateModel", "pairs", "(IIII)Z"⟩ ∈ lw_ok := okm (tk_10 (List.mem_of_getElem? (l := tables_1_10) (i := 104) (by decide +kernel))) rfl
theorem w2384 : Cond.code ⟨"BellPlateModel", "pairs", "(IIII)Z"⟩ prog_14_method_93_code 9 (some FieldType.boolean) ∈ lw_ok := okm (tk_10 (List.mem_of_getElem? (l := tables_1_10) (i := 105) (by decide +kernel))) rfl
theorem w2385 : Cond.constant "BellPlateModel" 491 8947848 ∈ lw_ok := okm (tk_10 (List.mem_of_getElem? (l := tables_1_10) (i := 106) (by decide +kernel))) rfl
theorem w2386 : Cond.methodLink "BellPlateModel" 492 ⟨"BellPlateModel", "spread", "(I)I"⟩ ∈ lw_ok := okm (tk_10 (List.mem_of_getElem? (l := tables_1_10) (i := 107) (by decide +kernel))) rfl
theorem w2387 : Cond.static ⟨"BellPlateModel", "spread", "(I)I"⟩ ∈ lw_ok := okm (tk_10 (List.mem_of_getElem? (l := tables_1_10) (i := 108) (by decide +kernel))) rfl
theorem w2388 : Cond.code ⟨"BellPlateModel", "spread", "(I)I"⟩ prog_14_method_92_code 3 (some FieldType.int) ∈ lw_ok := okm (tk_10 (List.mem_of_getElem? (l := tables_1_10) (i := 109) (by decide +kernel))) rfl
theorem w2389 : Cond.methodLink "BellPlateLaw" 115 ⟨"BellPlateModel", "wrong", "(I)I"⟩ ∈ lw_ok := okm (tk_10 (List.mem_of_getElem? (l := tables_1_10) (i := 110) (by decide +kernel))) rfl
theorem w2390 : Cond.instanceMethod ⟨"BellPlateModel", "wrong", "(I)I"⟩ ∈ lw_ok := okm (tk_10 (List.mem_of_getElem? (l := tables_1_10) (i := 111) (by decide +kernel))) rfl
theorem w2391 : Cond.selects "BellPlateModel" ⟨"BellPlateModel", "wrong", "(I)I"⟩ ⟨"BellPlateModel", "wrong", "(I)I"⟩ ∈ lw_ok := okm (tk_10 (List.mem_of_getElem? (l := tables_1_10) (i := 112) (by decide +kernel))) rfl
theorem w2392 : Cond.code ⟨"BellPlateModel", "wrong", "(I)I"⟩ prog_14_method_97_code 3 (some FieldType.int) ∈ lw_ok := okm (tk_10 (List.mem_of_getElem? (l := tables_1_10) (i := 113) (by decide +kernel))) rfl
theorem w2393 : Cond.methodLink "BellPlateModel" 501 ⟨"BellPlateModel", "fewestWrong", "()I"⟩ ∈ lw_ok := okm (tk_10 (List.mem_of_getElem? (l := tables_1_10) (i := 114) (by decide +kernel))) rfl
theorem w2395 : Cond.instanceMethod ⟨"BellPlateModel", "fewestWrong", "()I"⟩ ∈ lw_ok := okm (tk_10 (List.mem_of_getElem? (l := tables_1_10) (i := 116) (by decide +kernel))) rfl
theorem w2396 : Cond.code ⟨"BellPlateModel", "fewestWrong", "()I"⟩ prog_14_method_96_code 4 (some FieldType.int) ∈ lw_ok := okm (tk_10 (List.mem_of_getElem? (l := tables_1_10) (i := 117) (by decide +kernel))) rfl
theorem w2397 : Cond.methodLink "BellPlateModel" 498 ⟨"BellPlateModel", "wrongOf", "(J)I"⟩ ∈ lw_ok := okm (tk_10 (List.mem_of_getElem? (l := tables_1_10) (i := 118) (by decide +kernel))) rfl
theorem w2399 : Cond.instanceMethod ⟨"BellPlateModel", "wrongOf", "(J)I"⟩ ∈ lw_ok := okm (tk_10 (List.mem_of_getElem? (l := tables_1_10) (i := 120) (by decide +kernel))) rfl
theorem w2400 : Cond.code ⟨"BellPlateModel", "wrongOf", "(J)I"⟩ prog_14_method_95_code 5 (some FieldType.int) ∈ lw_ok := okm (tk_10 (List.mem_of_getElem? (l := tables_1_10) (i := 121) (by decide +kernel))) rfl
theorem w2401 : Cond.methodLink "BellPlateModel" 504 ⟨"BellPlateModel", "withWrong", "(I)I"⟩ ∈ lw_ok := okm (tk_10 (List.mem_of_getElem? (l := tables_1_10) (i := 122) (by decide +kernel))) rfl
theorem w2403 : Cond.instanceMethod ⟨"BellPlateModel", "withWrong", "(I)I"⟩ ∈ lw_ok := okm (tk_10 (List.mem_of_getElem? (l := tables_1_10) (i := 124) (by decide +kernel))) rfl
theorem w2404 : Cond.code ⟨"BellPlateModel", "withWrong", "(I)I"⟩ prog_14_method_98_code 4 (some FieldType.int) ∈ lw_ok := okm (tk_10 (List.mem_of_getElem? (l := tables_1_10) (i := 125) (by decide +kernel))) rfl
theorem w2405 : Cond.methodLink "BellPlateLaw" 123 ⟨"BellPlateModel", "with", "(I)I"⟩ ∈ lw_ok := okm (tk_10 (List.mem_of_getElem? (l := tables_1_10) (i := 126) (by decide +kernel))) rfl
theorem w2406 : Cond.instanceMethod ⟨"BellPlateModel", "with", "(I)I"⟩ ∈ lw_ok := okm (tk_10 (List.mem_of_getElem? (l := tables_1_10) (i := 127) (by decide +kernel))) rfl
theorem w2407 : Cond.selects "BellPlateModel" ⟨"BellPlateModel", "with", "(I)I"⟩ ⟨"BellPlateModel", "with", "(I)I"⟩ ∈ lw_ok := okm (tk_10 (List.mem_of_getElem? (l := tables_1_10) (i := 128) (by decide +kernel))) rfl
theorem w2408 : Cond.code ⟨"BellPlateModel", "with", "(I)I"⟩ prog_14_method_99_code 2 (some FieldType.int) ∈ lw_ok := okm (tk_10 (List.mem_of_getElem? (l := tables_1_10) (i := 129) (by decide +kernel))) rfl
theorem w2409 : Cond.methodLink "BellPlateLaw" 119 ⟨"BellPlateModel", "suspect", "(I)I"⟩ ∈ lw_ok := okm (tk_10 (List.mem_of_getElem? (l := tables_1_10) (i := 130) (by decide +kernel))) rfl
theorem w2410 : Cond.instanceMethod ⟨"BellPlateModel", "suspect", "(I)I"⟩ ∈ lw_ok := okm (tk_10 (List.mem_of_getElem? (l := tables_1_10) (i := 131) (by decide +kernel))) rfl
theorem w2411 : Cond.selects "BellPlateModel" ⟨"BellPlateModel", "suspect", "(I)I"⟩ ⟨"BellPlateModel", "suspect", "(I)I"⟩ ∈ lw_ok := okm (tk_10 (List.mem_of_getElem? (l := tables_1_10) (i := 132) (by decide +kernel))) rfl
theorem w2412 : Cond.code ⟨"BellPlateModel", "suspect", "(I)I"⟩ prog_14_method_100_code 5 (some FieldType.int) ∈ lw_ok := okm (tk_10 (List.mem_of_getElem? (l := tables_1_10) (i := 133) (by decide +kernel))) rfl
theorem w2413 : Cond.methodLink "BellPlateLaw" 127 ⟨"BellPlateModel", "grown", "(I)I"⟩ ∈ lw_ok := okm (tk_10 (List.mem_of_getElem? (l := tables_1_10) (i := 134) (by decide +kernel))) rfl
theorem w2414 : Cond.instanceMethod ⟨"BellPlateModel", "grown", "(I)I"⟩ ∈ lw_ok := okm (tk_10 (List.mem_of_getElem? (l := tables_1_10) (i := 135) (by decide +kernel))) rfl
theorem w2415 : Cond.selects "BellPlateModel" ⟨"BellPlateModel", "grown", "(I)I"⟩ ⟨"BellPlateModel", "grown", "(I)I"⟩ ∈ lw_ok := okm (tk_10 (List.mem_of_getElem? (l := tables_1_10) (i := 136) (by decide +kernel))) rfl
theorem w2416 : Cond.code ⟨"BellPlateModel", "grown", "(I)I"⟩ prog_14_method_105_code 2 (some FieldType.int) ∈ lw_ok := okm (tk_10 (List.mem_of_getElem? (l := tables_1_10) (i := 137) (by decide +kernel))) rfl
theorem w2417 : Cond.methodLink "BellPlateModel" 526 ⟨"BellPlateModel", "findGrown", "()Z"⟩ ∈ lw_ok := okm (tk_10 (List.mem_of_getElem? (l := tables_1_10) (i := 138) (by decide +kernel))) rfl
theorem w2419 : Cond.instanceMethod ⟨"BellPlateModel", "findGrown", "()Z"⟩ ∈ lw_ok := okm (tk_10 (List.mem_of_getElem? (l := tables_1_10) (i := 140) (by decide +kernel))) rfl
theorem w2420 : Cond.code ⟨"BellPlateModel", "findGrown", "()Z"⟩ prog_14_method_103_code 5 (some FieldType.boolean) ∈ lw_ok := okm (tk_10 (List.mem_of_getElem? (l := tables_1_10) (i := 141) (by decide +kernel))) rfl
theorem w2421 : Cond.methodLink "BellPlateModel" 513 ⟨"BellPlateModel", "growsBy", "(III)V"⟩ ∈ lw_ok := okm (tk_10 (List.mem_of_getElem? (l := tables_1_10) (i := 142) (by decide +kernel))) rfl
theorem w2423 : Cond.instanceMethod ⟨"BellPlateModel", "growsBy", "(III)V"⟩ ∈ lw_ok := okm (tk_10 (List.mem_of_getElem? (l := tables_1_10) (i := 144) (by decide +kernel))) rfl
theorem w2424 : Cond.code ⟨"BellPlateModel", "growsBy", "(III)V"⟩ prog_14_method_104_code 6 (none) ∈ lw_ok := okm (tk_10 (List.mem_of_getElem? (l := tables_1_10) (i := 145) (by decide +kernel))) rfl
theorem w2425 : Cond.methodLink "BellPlateModel" 517 ⟨"BellPlateModel", "firstWrong", "(J)I"⟩ ∈ lw_ok := okm (tk_10 (List.mem_of_getElem? (l := tables_1_10) (i := 146) (by decide +kernel))) rfl
theorem w2427 : Cond.instanceMethod ⟨"BellPlateModel", "firstWrong", "(J)I"⟩ ∈ lw_ok := okm (tk_10 (List.mem_of_getElem? (l := tables_1_10) (i := 148) (by decide +kernel))) rfl
theorem w2428 : Cond.code ⟨"BellPlateModel", "firstWrong", "(J)I"⟩ prog_14_method_101_code 4 (some FieldType.int) ∈ lw_ok := okm (tk_10 (List.mem_of_getElem? (l := tables_1_10) (i := 149) (by decide +kernel))) rfl
theorem w2429 : Cond.methodLink "BellPlateModel" 520 ⟨"BellPlateModel", "lastWrong", "(J)I"⟩ ∈ lw_ok := okm (tk_10 (List.mem_of_getElem? (l := tables_1_10) (i := 150) (by decide +kernel))) rfl
theorem w2431 : Cond.instanceMethod ⟨"BellPlateModel", "lastWrong", "(J)I"⟩ ∈ lw_ok := okm (tk_10 (List.mem_of_getElem? (l := tables_1_10) (i := 152) (by decide +kernel))) rfl
theorem w2432 : Cond.code ⟨"BellPlateModel", "lastWrong", "(J)I"⟩ prog_14_method_102_code 4 (some FieldType.int) ∈ lw_ok := okm (tk_10 (List.mem_of_getElem? (l := tables_1_10) (i := 153) (by decide +kernel))) rfl
theorem w2433 : Cond.methodLink "BellPlateLaw" 135 ⟨"BellPlateModel", "late", "(II)I"⟩ ∈ lw_ok := okm (tk_10 (List.mem_of_getElem? (l := tables_1_10) (i := 154) (by decide +kernel))) rfl
theorem w2434 : Cond.instanceMethod ⟨"BellPlateModel", "late", "(II)I"⟩ ∈ lw_ok := okm (tk_10 (List.mem_of_getElem? (l := tables_1_10) (i := 155) (by decide +kernel))) rfl
theorem w2435 : Cond.selects "BellPlateModel" ⟨"BellPlateModel", "late", "(II)I"⟩ ⟨"BellPlateModel", "late", "(II)I"⟩ ∈ lw_ok := okm (tk_10 (List.mem_of_getElem? (l := tables_1_10) (i := 156) (by decide +kernel))) rfl
theorem w2436 : Cond.code ⟨"BellPlateModel", "late", "(II)I"⟩ prog_14_method_107_code 5 (some FieldType.int) ∈ lw_ok := okm (tk_10 (List.mem_of_getElem? (l := tables_1_10) (i := 157) (by decide +kernel))) rfl
theorem w2437 : Cond.methodLink "BellPlateModel" 529 ⟨"BellPlateModel", "lateBy", "(I)I"⟩ ∈ lw_ok := okm (tk_10 (List.mem_of_getElem? (l := tables_1_10) (i := 158) (by decide +kernel))) rfl
theorem w2439 : Cond.instanceMethod ⟨"BellPlateModel", "lateBy", "(I)I"⟩ ∈ lw_ok := okm (tk_10 (List.mem_of_getElem? (l := tables_1_10) (i := 160) (by decide +kernel))) rfl
theorem w2440 : Cond.code ⟨"BellPlateModel", "lateBy", "(I)I"⟩ prog_14_method_106_code 8 (some FieldType.int) ∈ lw_ok := okm (tk_10 (List.mem_of_getElem? (l := tables_1_10) (i := 161) (by decide +kernel))) rfl
theorem w2441 : Cond.methodLink "BellPlateLaw" 131 ⟨"BellPlateModel", "bells", "()I"⟩ ∈ lw_ok := okm (tk_10 (List.mem_of_getElem? (l := tables_1_10) (i := 162) (by decide +kernel))) rfl
theorem w2442 : Cond.instanceMethod ⟨"BellPlateModel", "bells", "()I"⟩ ∈ lw_ok := okm (tk_10 (List.mem_of_getElem? (l := tables_1_10) (i := 163) (by decide +kernel))) rfl
theorem w2443 : Cond.selects "BellPlateModel" ⟨"BellPlateModel", "bells", "()I"⟩ ⟨"BellPlateModel", "bells", "()I"⟩ ∈ lw_ok := okm (tk_10 (List.mem_of_getElem? (l := tables_1_10) (i := 164) (by decide +kernel))) rfl
theorem w2444 : Cond.code ⟨"BellPlateModel", "bells", "()I"⟩ prog_14_method_108_code 4 (some FieldType.int) ∈ lw_ok := okm (tk_10 (List.mem_of_getElem? (l := tables_1_10) (i := 165) (by decide +kernel))) rfl
theorem w2445 : Cond.methodLink "BellPlateLaw" 139 ⟨"BellPlateModel", "often", "(I)I"⟩ ∈ lw_ok := okm (tk_10 (List.mem_of_getElem? (l := tables_1_10) (i := 166) (by decide +kernel))) rfl
theorem w2446 : Cond.instanceMethod ⟨"BellPlateModel", "often", "(I)I"⟩ ∈ lw_ok := okm (tk_10 (List.mem_of_getElem? (l := tables_1_10) (i := 167) (by decide +kernel))) rfl
theorem w2447 : Cond.selects "BellPlateModel" ⟨"BellPlateModel", "often", "(I)I"⟩ ⟨"BellPlateModel", "often", "(I)I"⟩ ∈ lw_ok := okm (tk_10 (List.mem_of_getElem? (l := tables_1_10) (i := 168) (by decide +kernel))) rfl
theorem w2448 : Cond.code ⟨"BellPlateModel", "often", "(I)I"⟩ prog_14_method_109_code 6 (some FieldType.int) ∈ lw_ok := okm (tk_10 (List.mem_of_getElem? (l := tables_1_10) (i := 169) (by decide +kernel))) rfl
theorem w2449 : Cond.methodLink "BellPlateLaw" 143 ⟨"BellPlateModel", "rings", "(I)I"⟩ ∈ lw_ok := okm (tk_10 (List.mem_of_getElem? (l := tables_1_10) (i := 170) (by decide +kernel))) rfl
theorem w2450 : Cond.instanceMethod ⟨"BellPlateModel", "rings", "(I)I"⟩ ∈ lw_ok := okm (tk_10 (List.mem_of_getElem? (l := tables_1_10) (i := 171) (by decide +kernel))) rfl
theorem w2451 : Cond.selects "BellPlateModel" ⟨"BellPlateModel", "rings", "(I)I"⟩ ⟨"BellPlateModel", "rings", "(I)I"⟩ ∈ lw_ok := okm (tk_10 (List.mem_of_getElem? (l := tables_1_10) (i := 172) (by decide +kernel))) rfl
theorem w2452 : Cond.code ⟨"BellPlateModel", "rings", "(I)I"⟩ prog_14_method_110_code 4 (some FieldType.int) ∈ lw_ok := okm (tk_10 (List.mem_of_getElem? (l := tables_1_10) (i := 173) (by decide +kernel))) rfl
theorem w2453 : Cond.methodLink "BellPlateLaw" 185 ⟨"BellPlateModel", "odds", "(II)I"⟩ ∈ lw_ok := okm (tk_10 (List.mem_of_getElem? (l := tables_1_10) (i := 174) (by decide +kernel))) rfl
theorem w2454 : Cond.instanceMethod ⟨"BellPlateModel", "odds", "(II)I"⟩ ∈ lw_ok := okm (tk_10 (List.mem_of_getElem? (l := tables_1_10) (i := 175) (by decide +kernel))) rfl
theorem w2455 : Cond.selects "BellPlateModel" ⟨"BellPlateModel", "odds", "(II)I"⟩ ⟨"BellPlateModel", "odds", "(II)I"⟩ ∈ lw_ok := okm (tk_10 (List.mem_of_getElem? (l := tables_1_10) (i := 176) (by decide +kernel))) rfl
theorem w2456 : Cond.code ⟨"BellPlateModel", "odds", "(II)I"⟩ prog_14_method_111_code 6 (some FieldType.int) ∈ lw_ok := okm (tk_10 (List.mem_of_getElem? (l := tables_1_10) (i := 177) (by decide +kernel))) rfl
theorem w2457 : Cond.methodLink "BellPlateLaw" 189 ⟨"BellPlateModel", "guess", "(II)I"⟩ ∈ lw_ok := okm (tk_10 (List.mem_of_getElem? (l := tables_1_10) (i := 178) (by decide +kernel))) rfl
theorem w2458 : Cond.instanceMethod ⟨"BellPlateModel", "guess", "(II)I"⟩ ∈ lw_ok := okm (tk_10 (List.mem_of_getElem? (l := tables_1_10) (i := 179) (by decide +kernel))) rfl
theorem w2459 : Cond.selects "BellPlateModel" ⟨"BellPlateModel", "guess", "(II)I"⟩ ⟨"BellPlateModel", "guess", "(II)I"⟩ ∈ lw_ok := okm (tk_10 (List.mem_of_getElem? (l := tables_1_10) (i := 180) (by decide +kernel))) rfl
theorem w2460 : Cond.code ⟨"BellPlateModel", "guess", "(II)I"⟩ prog_14_method_112_code 7 (some FieldType.int) ∈ lw_ok := okm (tk_10 (List.mem_of_getElem? (l := tables_1_10) (i := 181) (by decide +kernel))) rfl
theorem w2461 : Cond.methodLink "BellPlateLaw" 147 ⟨"BellPlateModel", "vote", "(III)I"⟩ ∈ lw_ok := okm (tk_10 (List.mem_of_getElem? (l := tables_1_10) (i := 182) (by decide +kernel))) rfl
theorem w2462 : Cond.instanceMethod ⟨"BellPlateModel", "vote", "(III)I"⟩ ∈ lw_ok := okm (tk_10 (List.mem_of_getElem? (l := tables_1_10) (i := 183) (by decide +kernel))) rfl
theorem w2463 : Cond.selects "BellPlateModel" ⟨"BellPlateModel", "vote", "(III)I"⟩ ⟨"BellPlateModel", "vote", "(III)I"⟩ ∈ lw_ok := okm (tk_10 (List.mem_of_getElem? (l := tables_1_10) (i := 184) (by decide +kernel))) rfl
theorem w2464 : Cond.code ⟨"BellPlateModel", "vote", "(III)I"⟩ prog_14_method_115_code 7 (some FieldType.int) ∈ lw_ok := okm (tk_10 (List.mem_of_getElem? (l := tables_1_10) (i := 185) (by decide +kernel))) rfl
theorem w2465 : Cond.methodLink "BellPlateModel" 535 ⟨"BellPlateModel", "swingsIt", "(JII)Z"⟩ ∈ lw_ok := okm (tk_10 (List.mem_of_getElem? (l := tables_1_10) (i := 186) (by decide +kernel))) rfl
theorem w2467 : Cond.instanceMethod ⟨"BellPlateModel", "swingsIt", "(JII)Z"⟩ ∈ lw_ok := okm (tk_10 (List.mem_of_getElem? (l := tables_1_10) (i := 188) (by decide +kernel))) rfl
theorem w2468 : Cond.code ⟨"BellPlateModel", "swingsIt", "(JII)Z"⟩ prog_14_method_114_code 5 (some FieldType.boolean) ∈ lw_ok := okm (tk_10 (List.mem_of_getElem? (l := tables_1_10) (i := 189) (by decide +kernel))) rfl
theorem w2469 : Cond.methodLink "BellPlateModel" 538 ⟨"BellPlateModel", "orders", "(I)J"⟩ ∈ lw_ok := okm (tk_10 (List.mem_of_getElem? (l := tables_1_10) (i := 190) (by decide +kernel))) rfl
theorem w2470 : Cond.static ⟨"BellPlateModel", "orders", "(I)J"⟩ ∈ lw_ok := okm (tk_10 (List.mem_of_getElem? (l := tables_1_10) (i := 191) (by decide +kernel))) rfl
theorem w2471 : Cond.code ⟨"BellPlateModel", "orders", "(I)J"⟩ prog_14_method_113_code 4 (some FieldType.long) ∈ lw_ok := okm (tk_10 (List.mem_of_getElem? (l := tables_1_10) (i := 192) (by decide +kernel))) rfl
theorem w2472 : Cond.methodLink "BellPlateLaw" 151 ⟨"BellPlateModel", "swings", "(II)I"⟩ ∈ lw_ok := okm (tk_10 (List.mem_of_getElem? (l := tables_1_10) (i := 193) (by decide +kernel))) rfl
theorem w2473 : Cond.instanceMethod ⟨"BellPlateModel", "swings", "(II)I"⟩ ∈ lw_ok := okm (tk_10 (List.mem_of_getElem? (l := tables_1_10) (i := 194) (by decide +kernel))) rfl
theorem w2474 : Cond.selects "BellPlateModel" ⟨"BellPlateModel", "swings", "(II)I"⟩ ⟨"BellPlateModel", "swings", "(II)I"⟩ ∈ lw_ok := okm (tk_10 (List.mem_of_getElem? (l := tables_1_10) (i := 195) (by decide +kernel))) rfl
theorem w2475 : Cond.code ⟨"BellPlateModel", "swings", "(II)I"⟩ prog_14_method_116_code 5 (some FieldType.int) ∈ lw_ok := okm (tk_10 (List.mem_of_getElem? (l := tables_1_10) (i := 196) (by decide +kernel))) rfl
theorem w2476 : Cond.methodLink "BellPlateLaw" 156 ⟨"BellPlateModel", "heavy", "(IZI)I"⟩ ∈ lw_ok := okm (tk_10 (List.mem_of_getElem? (l := tables_1_10) (i := 197) (by decide +kernel))) rfl
theorem w2477 : Cond.instanceMethod ⟨"BellPlateModel", "heavy", "(IZI)I"⟩ ∈ lw_ok := okm (tk_10 (List.mem_of_getElem? (l := tables_1_10) (i := 198) (by decide +kernel))) rfl
theorem w2478 : Cond.selects "BellPlateModel" ⟨"BellPlateModel", "heavy", "(IZI)I"⟩ ⟨"BellPlateModel", "heavy", "(IZI)I"⟩ ∈ lw_ok := okm (tk_10 (List.mem_of_getElem? (l := tables_1_10) (i := 199) (by decide +kernel))) rfl
theorem w2479 : Cond.code ⟨"BellPlateModel", "heavy", "(IZI)I"⟩ prog_14_method_117_code 8 (some FieldType.int) ∈ lw_ok := okm (tk_10 (List.mem_of_getElem? (l := tables_1_10) (i := 200) (by decide +kernel))) rfl
theorem w2480 : Cond.methodLink "BellPlateLaw" 160 ⟨"BellPlateModel", "leastSet", "(II)I"⟩ ∈ lw_ok := okm (tk_10 (List.mem_of_getElem? (l := tables_1_10) (i := 201) (by decide +kernel))) rfl
theorem w2481 : Cond.instanceMethod ⟨"BellPlateModel", "leastSet", "(II)I"⟩ ∈ lw_ok := okm (tk_10 (List.mem_of_getElem? (l := tables_1_10) (i := 202) (by decide +kernel))) rfl
theorem w2482 : Cond.selects "BellPlateModel" ⟨"BellPlateModel", "leastSet", "(II)I"⟩ ⟨"BellPlateModel", "leastSet", "(II)I"⟩ ∈ lw_ok := okm (tk_10 (List.mem_of_getElem? (l := tables_1_10) (i := 203) (by decide +kernel))) rfl
theorem w2483 : Cond.code ⟨"BellPlateModel", "leastSet", "(II)I"⟩ prog_14_method_118_code 7 (some FieldType.int) ∈ lw_ok := okm (tk_10 (List.mem_of_getElem? (l := tables_1_10) (i := 204) (by decide +kernel))) rfl
theorem w2484 : Cond.methodLink "BellPlateLaw" 164 ⟨"BellPlateModel", "vetoes", "(I)I"⟩ ∈ lw_ok := okm (tk_10 (List.mem_of_getElem? (l := tables_1_10) (i := 205) (by decide +kernel))) rfl
theorem w2485 : Cond.instanceMethod ⟨"BellPlateModel", "vetoes", "(I)I"⟩ ∈ lw_ok := okm (tk_10 (List.mem_of_getElem? (l := tables_1_10) (i := 206) (by decide +kernel))) rfl
theorem w2486 : Cond.selects "BellPlateModel" ⟨"BellPlateModel", "vetoes", "(I)I"⟩ ⟨"BellPlateModel", "vetoes", "(I)I"⟩ ∈ lw_ok := okm (tk_10 (List.mem_of_getElem? (l := tables_1_10) (i := 207) (by decide +kernel))) rfl
theorem w2487 : Cond.code ⟨"BellPlateModel", "vetoes", "(I)I"⟩ prog_14_method_119_code 4 (some FieldType.int) ∈ lw_ok := okm (tk_10 (List.mem_of_getElem? (l := tables_1_10) (i := 208) (by decide +kernel))) rfl
theorem w2488 : Cond.methodLink "BellPlateLaw" 172 ⟨"BellPlateModel", "lay", "(I)I"⟩ ∈ lw_ok := okm (tk_10 (List.mem_of_getElem? (l := tables_1_10) (i := 209) (by decide +kernel))) rfl
theorem w2489 : Cond.instanceMethod ⟨"BellPlateModel", "lay", "(I)I"⟩ ∈ lw_ok := okm (tk_10 (List.mem_of_getElem? (l := tables_1_10) (i := 210) (by decide +kernel))) rfl
theorem w2490 : Cond.selects "BellPlateModel" ⟨"BellPlateModel", "lay", "(I)I"⟩ ⟨"BellPlateModel", "lay", "(I)I"⟩ ∈ lw_ok := okm (tk_10 (List.mem_of_getElem? (l := tables_1_10) (i := 211) (by decide +kernel))) rfl
theorem w2491 : Cond.code ⟨"BellPlateModel", "lay", "(I)I"⟩ prog_14_method_120_code 4 (some FieldType.int) ∈ lw_ok := okm (tk_10 (List.mem_of_getElem? (l := tables_1_10) (i := 212) (by decide +kernel))) rfl
theorem w2492 : Cond.methodLink "BellPlateLaw" 177 ⟨"BellPlateModel", "clear", "()Z"⟩ ∈ lw_ok := okm (tk_10 (List.mem_of_getElem? (l := tables_1_10) (i := 213) (by decide +kernel))) rfl
theorem w2493 : Cond.instanceMethod ⟨"BellPlateModel", "clear", "()Z"⟩ ∈ lw_ok := okm (tk_10 (List.mem_of_getElem? (l := tables_1_10) (i := 214) (by decide +kernel))) rfl
theorem w2494 : Cond.selects "BellPlateModel" ⟨"BellPlateModel", "clear", "()Z"⟩ ⟨"BellPlateModel", "clear", "()Z"⟩ ∈ lw_ok := okm (tk_10 (List.mem_of_getElem? (l := tables_1_10) (i := 215) (by decide +kernel))) rfl
theorem w2495 : Cond.code ⟨"BellPlateModel", "clear", "()Z"⟩ prog_14_method_121_code 1 (some FieldType.boolean) ∈ lw_ok := okm (tk_10 (List.mem_of_getElem? (l := tables_1_10) (i := 216) (by decide +kernel))) rfl
theorem w2496 : Cond.methodLink "BellPlateLaw" 181 ⟨"BellPlateModel", "feather", "(I)I"⟩ ∈ lw_ok := okm (tk_10 (List.mem_of_getElem? (l := tables_1_10) (i := 217) (by decide +kernel))) rfl
theorem w2497 : Cond.instanceMethod ⟨"BellPlateModel", "feather", "(I)I"⟩ ∈ lw_ok := okm (tk_10 (List.mem_of_getElem? (l := tables_1_10) (i := 218) (by decide +kernel))) rfl
theorem w2498 : Cond.selects "BellPlateModel" ⟨"BellPlateModel", "feather", "(I)I"⟩ ⟨"BellPlateModel", "feather", "(I)I"⟩ ∈ lw_ok := okm (tk_10 (List.mem_of_getElem? (l := tables_1_10) (i := 219) (by decide +kernel))) rfl
theorem w2499 : Cond.code ⟨"BellPlateModel", "feather", "(I)I"⟩ prog_14_method_122_code 4 (some FieldType.int) ∈ lw_ok := okm (tk_10 (List.mem_of_getElem? (l := tables_1_10) (i := 220) (by decide +kernel))) rfl
theorem w2500 : Cond.methodLink "BellPlateLaw" 194 ⟨"BellPlateModel", "mark", "(IZ)Z"⟩ ∈ lw_ok := okm (tk_10 (List.mem_of_getElem? (l := tables_1_10) (i := 221) (by decide +kernel))) rfl
theorem w2501 : Cond.instanceMethod ⟨"BellPlateModel", "mark", "(IZ)Z"⟩ ∈ lw_ok := okm (tk_10 (List.mem_of_getElem? (l := tables_1_10) (i := 222) (by decide +kernel))) rfl
theorem w2502 : Cond.selects "BellPlateModel" ⟨"BellPlateModel", "mark", "(IZ)Z"⟩ ⟨"BellPlateModel", "mark", "(IZ)Z"⟩ ∈ lw_ok := okm (tk_10 (List.mem_of_getElem? (l := tables_1_10) (i := 223) (by decide +kernel))) rfl
theorem w2503 : Cond.code ⟨"BellPlateModel", "mark", "(IZ)Z"⟩ prog_14_method_123_code 4 (some FieldType.boolean) ∈ lw_ok := okm (tk_10 (List.mem_of_getElem? (l := tables_1_10) (i := 224) (by decide +kernel))) rfl
theorem w2504 : Cond.methodLink "BellPlateLaw" 198 ⟨"BellPlateModel", "count", "(I)I"⟩ ∈ lw_ok := okm (tk_10 (List.mem_of_getElem? (l := tables_1_10) (i := 225) (by decide +kernel))) rfl
theorem w2505 : Cond.instanceMethod ⟨"BellPlateModel", "count", "(I)I"⟩ ∈ lw_ok := okm (tk_10 (List.mem_of_getElem? (l := tables_1_10) (i := 226) (by decide +kernel))) rfl
theorem w2506 : Cond.selects "BellPlateModel" ⟨"BellPlateModel", "count", "(I)I"⟩ ⟨"BellPlateModel", "count", "(I)I"⟩ ∈ lw_ok := okm (tk_10 (List.mem_of_getElem? (l := tables_1_10) (i := 227) (by decide +kernel))) rfl
theorem w2507 : Cond.code ⟨"BellPlateModel", "count", "(I)I"⟩ prog_14_method_124_code 4 (some FieldType.int) ∈ lw_ok := okm (tk_10 (List.mem_of_getElem? (l := tables_1_10) (i := 228) (by decide +kernel))) rfl
theorem w2508 : Cond.constantLong "BellPlateLaw" 19 4294967295 ∈ lw_ok := okm (tk_10 (List.mem_of_getElem? (l := tables_1_10) (i := 229) (by decide +kernel))) rfl
theorem w2525 : Cond.fieldLink "java/lang/String" 15 "java/lang/String" "coder" "B" ∈ lw_ok := okm (tk_11 (List.mem_of_getElem? (l := tables_1_11) (i := 6) (by decide +kernel))) rfl
theorem w2526 : Cond.fieldLink "java/lang/String" 9 "java/lang/String" "value" "[B" ∈ lw_ok := okm (tk_11 (List.mem_of_getElem? (l := tables_1_11) (i := 7) (by decide +kernel))) rfl
