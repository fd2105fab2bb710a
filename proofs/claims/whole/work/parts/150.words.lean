-- printed by wip/whole/gen6.py out of the decode rows and the tables
theorem inT1 {w : Cond} {i : Nat} (h0 : tables_1_1[i]? = some w) : w ∈ tables_1 := by
  have h := List.mem_of_getElem? h0
  exact List.mem_append_left _ h
theorem inG1 {w : Cond} {i : Nat} (h : tables_1_1[i]? = some w) (g : goodWord w = true) : w ∈ TBG := List.mem_filter.mpr ⟨List.mem_append_right _ (inT1 h), g⟩
theorem inN1 {w : Cond} {i : Nat} (h : tables_1_1[i]? = some w) (g : isNest w = true) : w ∈ NWL := List.mem_filter.mpr ⟨List.mem_append_right _ (inT1 h), g⟩
theorem inT2 {w : Cond} {i : Nat} (h0 : tables_1_2[i]? = some w) : w ∈ tables_1 := by
  have h := List.mem_of_getElem? h0
  exact List.mem_append_right _ (List.mem_append_left _ h)
theorem inG2 {w : Cond} {i : Nat} (h : tables_1_2[i]? = some w) (g : goodWord w = true) : w ∈ TBG := List.mem_filter.mpr ⟨List.mem_append_right _ (inT2 h), g⟩
theorem inN2 {w : Cond} {i : Nat} (h : tables_1_2[i]? = some w) (g : isNest w = true) : w ∈ NWL := List.mem_filter.mpr ⟨List.mem_append_right _ (inT2 h), g⟩
theorem inT3 {w : Cond} {i : Nat} (h0 : tables_1_3[i]? = some w) : w ∈ tables_1 := by
  have h := List.mem_of_getElem? h0
  exact List.mem_append_right _ (List.mem_append_right _ (List.mem_append_left _ h))
theorem inG3 {w : Cond} {i : Nat} (h : tables_1_3[i]? = some w) (g : goodWord w = true) : w ∈ TBG := List.mem_filter.mpr ⟨List.mem_append_right _ (inT3 h), g⟩
theorem inN3 {w : Cond} {i : Nat} (h : tables_1_3[i]? = some w) (g : isNest w = true) : w ∈ NWL := List.mem_filter.mpr ⟨List.mem_append_right _ (inT3 h), g⟩
theorem inT4 {w : Cond} {i : Nat} (h0 : tables_1_4[i]? = some w) : w ∈ tables_1 := by
  have h := List.mem_of_getElem? h0
  exact List.mem_append_right _ (List.mem_append_right _ (List.mem_append_right _ (List.mem_append_left _ h)))
theorem inG4 {w : Cond} {i : Nat} (h : tables_1_4[i]? = some w) (g : goodWord w = true) : w ∈ TBG := List.mem_filter.mpr ⟨List.mem_append_right _ (inT4 h), g⟩
theorem inN4 {w : Cond} {i : Nat} (h : tables_1_4[i]? = some w) (g : isNest w = true) : w ∈ NWL := List.mem_filter.mpr ⟨List.mem_append_right _ (inT4 h), g⟩
theorem inT5 {w : Cond} {i : Nat} (h0 : tables_1_5[i]? = some w) : w ∈ tables_1 := by
  have h := List.mem_of_getElem? h0
  exact List.mem_append_right _ (List.mem_append_right _ (List.mem_append_right _ (List.mem_append_right _ (List.mem_append_left _ h))))
theorem inG5 {w : Cond} {i : Nat} (h : tables_1_5[i]? = some w) (g : goodWord w = true) : w ∈ TBG := List.mem_filter.mpr ⟨List.mem_append_right _ (inT5 h), g⟩
theorem inN5 {w : Cond} {i : Nat} (h : tables_1_5[i]? = some w) (g : isNest w = true) : w ∈ NWL := List.mem_filter.mpr ⟨List.mem_append_right _ (inT5 h), g⟩
theorem inT6 {w : Cond} {i : Nat} (h0 : tables_1_6[i]? = some w) : w ∈ tables_1 := by
  have h := List.mem_of_getElem? h0
  exact List.mem_append_right _ (List.mem_append_right _ (List.mem_append_right _ (List.mem_append_right _ (List.mem_append_right _ (List.mem_append_left _ h)))))
theorem inG6 {w : Cond} {i : Nat} (h : tables_1_6[i]? = some w) (g : goodWord w = true) : w ∈ TBG := List.mem_filter.mpr ⟨List.mem_append_right _ (inT6 h), g⟩
theorem inN6 {w : Cond} {i : Nat} (h : tables_1_6[i]? = some w) (g : isNest w = true) : w ∈ NWL := List.mem_filter.mpr ⟨List.mem_append_right _ (inT6 h), g⟩
theorem inT7 {w : Cond} {i : Nat} (h0 : tables_1_7[i]? = some w) : w ∈ tables_1 := by
  have h := List.mem_of_getElem? h0
  exact List.mem_append_right _ (List.mem_append_right _ (List.mem_append_right _ (List.mem_append_right _ (List.mem_append_right _ (List.mem_append_right _ (List.mem_append_left _ h))))))
theorem inG7 {w : Cond} {i : Nat} (h : tables_1_7[i]? = some w) (g : goodWord w = true) : w ∈ TBG := List.mem_filter.mpr ⟨List.mem_append_right _ (inT7 h), g⟩
theorem inN7 {w : Cond} {i : Nat} (h : tables_1_7[i]? = some w) (g : isNest w = true) : w ∈ NWL := List.mem_filter.mpr ⟨List.mem_append_right _ (inT7 h), g⟩
theorem inT8 {w : Cond} {i : Nat} (h0 : tables_1_8[i]? = some w) : w ∈ tables_1 := by
  have h := List.mem_of_getElem? h0
  exact List.mem_append_right _ (List.mem_append_right _ (List.mem_append_right _ (List.mem_append_right _ (List.mem_append_right _ (List.mem_append_right _ (List.mem_append_right _ (h)))))))
theorem inG8 {w : Cond} {i : Nat} (h : tables_1_8[i]? = some w) (g : goodWord w = true) : w ∈ TBG := List.mem_filter.mpr ⟨List.mem_append_right _ (inT8 h), g⟩
theorem inN8 {w : Cond} {i : Nat} (h : tables_1_8[i]? = some w) (g : isNest w = true) : w ∈ NWL := List.mem_filter.mpr ⟨List.mem_append_right _ (inT8 h), g⟩
theorem qs_0 : Cond.selects "WindJump" ⟨"WindJump", "beginAnew", "()V"⟩ ⟨"WindJump", "beginAnew", "()V"⟩ ∈ TBG := inTBGs (i := 0) (by decide +kernel) (by decide +kernel)
theorem qs_1 : Cond.selects "WindJump$Tokens" ⟨"WindJump$Tokens", "skipBlanks", "()V"⟩ ⟨"WindJump$Tokens", "skipBlanks", "()V"⟩ ∈ TBG := inTBGs (i := 1) (by decide +kernel) (by decide +kernel)
theorem qs_2 : Cond.selects "WindJump$Tokens" ⟨"WindJump$Tokens", "scanOne", "(I)V"⟩ ⟨"WindJump$Tokens", "scanOne", "(I)V"⟩ ∈ TBG := inTBGs (i := 2) (by decide +kernel) (by decide +kernel)
theorem qs_3 : Cond.selects "WindJump$Tokens" ⟨"WindJump$Tokens", "scanName", "(I)V"⟩ ⟨"WindJump$Tokens", "scanName", "(I)V"⟩ ∈ TBG := inTBGs (i := 3) (by decide +kernel) (by decide +kernel)
theorem qs_4 : Cond.selects "WindJump$Tokens" ⟨"WindJump$Tokens", "kindOfName", "(II)I"⟩ ⟨"WindJump$Tokens", "kindOfName", "(II)I"⟩ ∈ TBG := inTBGs (i := 4) (by decide +kernel) (by decide +kernel)
theorem qs_5 : Cond.selects "WindJump$Tokens" ⟨"WindJump$Tokens", "scanInt", "(I)V"⟩ ⟨"WindJump$Tokens", "scanInt", "(I)V"⟩ ∈ TBG := inTBGs (i := 5) (by decide +kernel) (by decide +kernel)
theorem qs_6 : Cond.selects "WindJump$Parser" ⟨"WindJump$Parser", "readTell", "(LWindJump$Text;)Z"⟩ ⟨"WindJump$Parser", "readTell", "(LWindJump$Text;)Z"⟩ ∈ TBG := inTBGs (i := 6) (by decide +kernel) (by decide +kernel)
theorem qs_7 : Cond.selects "WindJump$Parser" ⟨"WindJump$Parser", "fails", "(I)Z"⟩ ⟨"WindJump$Parser", "fails", "(I)Z"⟩ ∈ TBG := inTBGs (i := 7) (by decide +kernel) (by decide +kernel)
theorem qs_8 : Cond.selects "WindJump$Parser" ⟨"WindJump$Parser", "takes", "(I)Z"⟩ ⟨"WindJump$Parser", "takes", "(I)Z"⟩ ∈ TBG := inTBGs (i := 8) (by decide +kernel) (by decide +kernel)
theorem qs_9 : Cond.selects "WindJump$Parser" ⟨"WindJump$Parser", "readHill", "(LWindJump$Text;)Z"⟩ ⟨"WindJump$Parser", "readHill", "(LWindJump$Text;)Z"⟩ ∈ TBG := inTBGs (i := 9) (by decide +kernel) (by decide +kernel)
theorem qs_10 : Cond.selects "WindJump$Parser" ⟨"WindJump$Parser", "readInt", "(II)Z"⟩ ⟨"WindJump$Parser", "readInt", "(II)Z"⟩ ∈ TBG := inTBGs (i := 10) (by decide +kernel) (by decide +kernel)
theorem qs_11 : Cond.selects "WindJump$Parser" ⟨"WindJump$Parser", "notes", "(II)V"⟩ ⟨"WindJump$Parser", "notes", "(II)V"⟩ ∈ TBG := inTBGs (i := 11) (by decide +kernel) (by decide +kernel)
theorem qs_12 : Cond.selects "WindJump$Parser" ⟨"WindJump$Parser", "readLaw", "(LWindJump$Law;)Z"⟩ ⟨"WindJump$Parser", "readLaw", "(LWindJump$Law;)Z"⟩ ∈ TBG := inTBGs (i := 12) (by decide +kernel) (by decide +kernel)
theorem qs_13 : Cond.selects "WindJump$Parser" ⟨"WindJump$Parser", "readSum", "(LWindJump$Law;I)Z"⟩ ⟨"WindJump$Parser", "readSum", "(LWindJump$Law;I)Z"⟩ ∈ TBG := inTBGs (i := 13) (by decide +kernel) (by decide +kernel)
theorem qs_14 : Cond.selects "WindJump$Parser" ⟨"WindJump$Parser", "readProduct", "(LWindJump$Law;I)Z"⟩ ⟨"WindJump$Parser", "readProduct", "(LWindJump$Law;I)Z"⟩ ∈ TBG := inTBGs (i := 14) (by decide +kernel) (by decide +kernel)
theorem qs_15 : Cond.selects "WindJump$Parser" ⟨"WindJump$Parser", "readUnit", "(LWindJump$Law;I)Z"⟩ ⟨"WindJump$Parser", "readUnit", "(LWindJump$Law;I)Z"⟩ ∈ TBG := inTBGs (i := 15) (by decide +kernel) (by decide +kernel)
theorem qs_16 : Cond.selects "WindJump$Parser" ⟨"WindJump$Parser", "readParts", "([I)Z"⟩ ⟨"WindJump$Parser", "readParts", "([I)Z"⟩ ∈ TBG := inTBGs (i := 16) (by decide +kernel) (by decide +kernel)
theorem qs_17 : Cond.selects "WindJump$Parser" ⟨"WindJump$Parser", "readMan", "(LWindJump$People;)Z"⟩ ⟨"WindJump$Parser", "readMan", "(LWindJump$People;)Z"⟩ ∈ TBG := inTBGs (i := 17) (by decide +kernel) (by decide +kernel)
theorem qs_18 : Cond.selects "WindJump$Parser" ⟨"WindJump$Parser", "readName", "()Z"⟩ ⟨"WindJump$Parser", "readName", "()Z"⟩ ∈ TBG := inTBGs (i := 18) (by decide +kernel) (by decide +kernel)
theorem qs_19 : Cond.selects "WindJump$Parser" ⟨"WindJump$Parser", "readJudge", "(LWindJump$People;)Z"⟩ ⟨"WindJump$Parser", "readJudge", "(LWindJump$People;)Z"⟩ ∈ TBG := inTBGs (i := 19) (by decide +kernel) (by decide +kernel)
theorem qs_20 : Cond.selects "WindJump$Parser" ⟨"WindJump$Parser", "readNumbers", "(ILWindJump$Text;)Z"⟩ ⟨"WindJump$Parser", "readNumbers", "(ILWindJump$Text;)Z"⟩ ∈ TBG := inTBGs (i := 20) (by decide +kernel) (by decide +kernel)
theorem qs_21 : Cond.selects "WindJump$Flight" ⟨"WindJump$Flight", "lot", "(II)I"⟩ ⟨"WindJump$Flight", "lot", "(II)I"⟩ ∈ TBG := inTBGs (i := 21) (by decide +kernel) (by decide +kernel)
theorem qs_22 : Cond.selects "WindJump$Law" ⟨"WindJump$Law", "worth", "(I)I"⟩ ⟨"WindJump$Law", "worth", "(I)I"⟩ ∈ TBG := inTBGs (i := 22) (by decide +kernel) (by decide +kernel)
theorem qs_23 : Cond.selects "WindJump$Law" ⟨"WindJump$Law", "joined", "(III)I"⟩ ⟨"WindJump$Law", "joined", "(III)I"⟩ ∈ TBG := inTBGs (i := 23) (by decide +kernel) (by decide +kernel)
theorem qs_24 : Cond.selects "WindJump" ⟨"WindJump", "isJudge", "(I)Z"⟩ ⟨"WindJump", "isJudge", "(I)Z"⟩ ∈ TBG := inTBGs (i := 24) (by decide +kernel) (by decide +kernel)
theorem qs_25 : Cond.selects "WindJump" ⟨"WindJump", "isMan", "(I)Z"⟩ ⟨"WindJump", "isMan", "(I)Z"⟩ ∈ TBG := inTBGs (i := 25) (by decide +kernel) (by decide +kernel)
theorem qs_26 : Cond.selects "WindJump" ⟨"WindJump", "startByGoes", "(LWindJump$Play;I)I"⟩ ⟨"WindJump", "startByGoes", "(LWindJump$Play;I)I"⟩ ∈ TBG := inTBGs (i := 26) (by decide +kernel) (by decide +kernel)
theorem qs_27 : Cond.selects "WindJump" ⟨"WindJump", "waitByGoes", "(II)I"⟩ ⟨"WindJump", "waitByGoes", "(II)I"⟩ ∈ TBG := inTBGs (i := 27) (by decide +kernel) (by decide +kernel)
theorem qs_28 : Cond.selects "WindJump" ⟨"WindJump", "launch", "(LWindJump$Play;I)V"⟩ ⟨"WindJump", "launch", "(LWindJump$Play;I)V"⟩ ∈ TBG := inTBGs (i := 28) (by decide +kernel) (by decide +kernel)
theorem qs_29 : Cond.selects "WindJump$Play" ⟨"WindJump$Play", "beginNextRound", "()V"⟩ ⟨"WindJump$Play", "beginNextRound", "()V"⟩ ∈ TBG := inTBGs (i := 29) (by decide +kernel) (by decide +kernel)
theorem qs_30 : Cond.selects "WindJump" ⟨"WindJump", "tryOut", "(IIIZ)I"⟩ ⟨"WindJump", "tryOut", "(IIIZ)I"⟩ ∈ TBG := inTBGs (i := 30) (by decide +kernel) (by decide +kernel)
theorem qs_31 : Cond.selects "WindJump" ⟨"WindJump", "jumpNow", "(IIIIZ)I"⟩ ⟨"WindJump", "jumpNow", "(IIIIZ)I"⟩ ∈ TBG := inTBGs (i := 31) (by decide +kernel) (by decide +kernel)
theorem qs_32 : Cond.selects "WindJump" ⟨"WindJump", "safeGate", "()I"⟩ ⟨"WindJump", "safeGate", "()I"⟩ ∈ TBG := inTBGs (i := 32) (by decide +kernel) (by decide +kernel)
theorem qs_33 : Cond.selects "WindJump" ⟨"WindJump", "isSafeGate", "(I)Z"⟩ ⟨"WindJump", "isSafeGate", "(I)Z"⟩ ∈ TBG := inTBGs (i := 33) (by decide +kernel) (by decide +kernel)
theorem qs_34 : Cond.selects "WindJump" ⟨"WindJump", "pointsWithout", "(III)I"⟩ ⟨"WindJump", "pointsWithout", "(III)I"⟩ ∈ TBG := inTBGs (i := 34) (by decide +kernel) (by decide +kernel)
theorem qs_35 : Cond.selects "WindJump" ⟨"WindJump", "moreThanHimself", "(II)I"⟩ ⟨"WindJump", "moreThanHimself", "(II)I"⟩ ∈ TBG := inTBGs (i := 35) (by decide +kernel) (by decide +kernel)
theorem qs_36 : Cond.selects "WindJump" ⟨"WindJump", "mayBeSoLate", "(III)Z"⟩ ⟨"WindJump", "mayBeSoLate", "(III)Z"⟩ ∈ TBG := inTBGs (i := 36) (by decide +kernel) (by decide +kernel)
theorem qs_37 : Cond.selects "WindJumpModel" ⟨"WindJumpModel", "plain", "(I)V"⟩ ⟨"WindJumpModel", "plain", "(I)V"⟩ ∈ TBG := inTBGs (i := 37) (by decide +kernel) (by decide +kernel)
theorem qs_38 : Cond.selects "WindJumpModel" ⟨"WindJumpModel", "begins", "()V"⟩ ⟨"WindJumpModel", "begins", "()V"⟩ ∈ TBG := inTBGs (i := 38) (by decide +kernel) (by decide +kernel)
theorem qs_39 : Cond.selects "WindJumpModel" ⟨"WindJumpModel", "tell0", "(I)I"⟩ ⟨"WindJumpModel", "tell0", "(I)I"⟩ ∈ TBG := inTBGs (i := 39) (by decide +kernel) (by decide +kernel)
theorem qs_40 : Cond.selects "WindJumpModel" ⟨"WindJumpModel", "plainly", "()V"⟩ ⟨"WindJumpModel", "plainly", "()V"⟩ ∈ TBG := inTBGs (i := 40) (by decide +kernel) (by decide +kernel)
theorem qs_41 : Cond.selects "WindJumpModel" ⟨"WindJumpModel", "keepsRow", "()V"⟩ ⟨"WindJumpModel", "keepsRow", "()V"⟩ ∈ TBG := inTBGs (i := 41) (by decide +kernel) (by decide +kernel)
theorem qs_42 : Cond.selects "WindJumpModel" ⟨"WindJumpModel", "put", "(I)V"⟩ ⟨"WindJumpModel", "put", "(I)V"⟩ ∈ TBG := inTBGs (i := 42) (by decide +kernel) (by decide +kernel)
theorem qs_43 : Cond.selects "WindJumpModel" ⟨"WindJumpModel", "cut", "()V"⟩ ⟨"WindJumpModel", "cut", "()V"⟩ ∈ TBG := inTBGs (i := 43) (by decide +kernel) (by decide +kernel)
theorem qs_44 : Cond.selects "WindJumpModel" ⟨"WindJumpModel", "byteAt", "(I)I"⟩ ⟨"WindJumpModel", "byteAt", "(I)I"⟩ ∈ TBG := inTBGs (i := 44) (by decide +kernel) (by decide +kernel)
theorem qs_45 : Cond.selects "WindJumpModel" ⟨"WindJumpModel", "token", "(IIIJ)V"⟩ ⟨"WindJumpModel", "token", "(IIIJ)V"⟩ ∈ TBG := inTBGs (i := 45) (by decide +kernel) (by decide +kernel)
theorem qs_46 : Cond.selects "WindJumpModel" ⟨"WindJumpModel", "sign", "(III)I"⟩ ⟨"WindJumpModel", "sign", "(III)I"⟩ ∈ TBG := inTBGs (i := 46) (by decide +kernel) (by decide +kernel)
theorem qs_47 : Cond.selects "WindJumpModel" ⟨"WindJumpModel", "is", "(I)Z"⟩ ⟨"WindJumpModel", "is", "(I)Z"⟩ ∈ TBG := inTBGs (i := 47) (by decide +kernel) (by decide +kernel)
theorem qs_48 : Cond.selects "WindJumpModel" ⟨"WindJumpModel", "tellOne", "()V"⟩ ⟨"WindJumpModel", "tellOne", "()V"⟩ ∈ TBG := inTBGs (i := 48) (by decide +kernel) (by decide +kernel)
theorem qs_49 : Cond.selects "WindJumpModel" ⟨"WindJumpModel", "goesOn", "()V"⟩ ⟨"WindJumpModel", "goesOn", "()V"⟩ ∈ TBG := inTBGs (i := 49) (by decide +kernel) (by decide +kernel)
theorem qs_50 : Cond.selects "WindJumpModel" ⟨"WindJumpModel", "fail", "(I)V"⟩ ⟨"WindJumpModel", "fail", "(I)V"⟩ ∈ TBG := inTBGs (i := 50) (by decide +kernel) (by decide +kernel)
theorem qs_51 : Cond.selects "WindJumpModel" ⟨"WindJumpModel", "tellNumber", "(III)V"⟩ ⟨"WindJumpModel", "tellNumber", "(III)V"⟩ ∈ TBG := inTBGs (i := 51) (by decide +kernel) (by decide +kernel)
theorem qs_52 : Cond.selects "WindJumpModel" ⟨"WindJumpModel", "bounded", "(II)I"⟩ ⟨"WindJumpModel", "bounded", "(II)I"⟩ ∈ TBG := inTBGs (i := 52) (by decide +kernel) (by decide +kernel)
theorem qs_53 : Cond.selects "WindJumpModel" ⟨"WindJumpModel", "wrong", "(II)V"⟩ ⟨"WindJumpModel", "wrong", "(II)V"⟩ ∈ TBG := inTBGs (i := 53) (by decide +kernel) (by decide +kernel)
theorem qs_54 : Cond.selects "WindJumpModel" ⟨"WindJumpModel", "must", "(I)V"⟩ ⟨"WindJumpModel", "must", "(I)V"⟩ ∈ TBG := inTBGs (i := 54) (by decide +kernel) (by decide +kernel)
theorem qs_55 : Cond.selects "WindJumpModel" ⟨"WindJumpModel", "tellMan", "()V"⟩ ⟨"WindJumpModel", "tellMan", "()V"⟩ ∈ TBG := inTBGs (i := 55) (by decide +kernel) (by decide +kernel)
theorem qs_56 : Cond.selects "WindJumpModel" ⟨"WindJumpModel", "named", "()I"⟩ ⟨"WindJumpModel", "named", "()I"⟩ ∈ TBG := inTBGs (i := 56) (by decide +kernel) (by decide +kernel)
theorem qs_57 : Cond.selects "WindJumpModel" ⟨"WindJumpModel", "tellJudge", "()V"⟩ ⟨"WindJumpModel", "tellJudge", "()V"⟩ ∈ TBG := inTBGs (i := 57) (by decide +kernel) (by decide +kernel)
theorem qs_58 : Cond.selects "WindJumpModel" ⟨"WindJumpModel", "tellLaw", "(I)V"⟩ ⟨"WindJumpModel", "tellLaw", "(I)V"⟩ ∈ TBG := inTBGs (i := 58) (by decide +kernel) (by decide +kernel)
theorem qs_59 : Cond.selects "WindJumpModel" ⟨"WindJumpModel", "expression", "()V"⟩ ⟨"WindJumpModel", "expression", "()V"⟩ ∈ TBG := inTBGs (i := 59) (by decide +kernel) (by decide +kernel)
theorem qs_60 : Cond.selects "WindJumpModel" ⟨"WindJumpModel", "unit", "()V"⟩ ⟨"WindJumpModel", "unit", "()V"⟩ ∈ TBG := inTBGs (i := 60) (by decide +kernel) (by decide +kernel)
theorem qs_61 : Cond.selects "WindJumpModel" ⟨"WindJumpModel", "emit", "(II)V"⟩ ⟨"WindJumpModel", "emit", "(II)V"⟩ ∈ TBG := inTBGs (i := 61) (by decide +kernel) (by decide +kernel)
theorem qs_62 : Cond.selects "WindJumpModel" ⟨"WindJumpModel", "comesOut", "(Z)V"⟩ ⟨"WindJumpModel", "comesOut", "(Z)V"⟩ ∈ TBG := inTBGs (i := 62) (by decide +kernel) (by decide +kernel)
theorem qs_63 : Cond.selects "WindJumpModel" ⟨"WindJumpModel", "term", "()V"⟩ ⟨"WindJumpModel", "term", "()V"⟩ ∈ TBG := inTBGs (i := 63) (by decide +kernel) (by decide +kernel)
theorem qs_64 : Cond.selects "WindJumpModel" ⟨"WindJumpModel", "copies", "()V"⟩ ⟨"WindJumpModel", "copies", "()V"⟩ ∈ TBG := inTBGs (i := 64) (by decide +kernel) (by decide +kernel)
theorem qs_65 : Cond.selects "WindJumpModel" ⟨"WindJumpModel", "nextOne", "()I"⟩ ⟨"WindJumpModel", "nextOne", "()I"⟩ ∈ TBG := inTBGs (i := 65) (by decide +kernel) (by decide +kernel)
theorem qs_66 : Cond.selects "WindJumpModel" ⟨"WindJumpModel", "rankBy", "(II)I"⟩ ⟨"WindJumpModel", "rankBy", "(II)I"⟩ ∈ TBG := inTBGs (i := 66) (by decide +kernel) (by decide +kernel)
theorem qs_67 : Cond.selects "WindJumpModel" ⟨"WindJumpModel", "cell", "(III)I"⟩ ⟨"WindJumpModel", "cell", "(III)I"⟩ ∈ TBG := inTBGs (i := 67) (by decide +kernel) (by decide +kernel)
theorem qs_68 : Cond.selects "WindJumpModel" ⟨"WindJumpModel", "pointsOf", "(I)I"⟩ ⟨"WindJumpModel", "pointsOf", "(I)I"⟩ ∈ TBG := inTBGs (i := 68) (by decide +kernel) (by decide +kernel)
theorem qs_69 : Cond.selects "WindJumpModel" ⟨"WindJumpModel", "inSecond", "()I"⟩ ⟨"WindJumpModel", "inSecond", "()I"⟩ ∈ TBG := inTBGs (i := 69) (by decide +kernel) (by decide +kernel)
theorem qs_70 : Cond.selects "WindJumpModel" ⟨"WindJumpModel", "meanOf", "(I)I"⟩ ⟨"WindJumpModel", "meanOf", "(I)I"⟩ ∈ TBG := inTBGs (i := 70) (by decide +kernel) (by decide +kernel)
theorem qs_71 : Cond.selects "WindJumpModel" ⟨"WindJumpModel", "windOf", "(II)I"⟩ ⟨"WindJumpModel", "windOf", "(II)I"⟩ ∈ TBG := inTBGs (i := 71) (by decide +kernel) (by decide +kernel)
theorem qs_72 : Cond.selects "WindJumpModel" ⟨"WindJumpModel", "clears", "()V"⟩ ⟨"WindJumpModel", "clears", "()V"⟩ ∈ TBG := inTBGs (i := 72) (by decide +kernel) (by decide +kernel)
theorem qs_73 : Cond.selects "WindJumpModel" ⟨"WindJumpModel", "tells", "(IIII)I"⟩ ⟨"WindJumpModel", "tells", "(IIII)I"⟩ ∈ TBG := inTBGs (i := 73) (by decide +kernel) (by decide +kernel)
theorem qs_74 : Cond.selects "WindJumpModel" ⟨"WindJumpModel", "termOf", "(II)I"⟩ ⟨"WindJumpModel", "termOf", "(II)I"⟩ ∈ TBG := inTBGs (i := 74) (by decide +kernel) (by decide +kernel)
theorem qs_75 : Cond.selects "WindJumpModel" ⟨"WindJumpModel", "lotOf", "(II)I"⟩ ⟨"WindJumpModel", "lotOf", "(II)I"⟩ ∈ TBG := inTBGs (i := 75) (by decide +kernel) (by decide +kernel)
theorem qs_76 : Cond.selects "WindJumpModel" ⟨"WindJumpModel", "trueOf", "(I)I"⟩ ⟨"WindJumpModel", "trueOf", "(I)I"⟩ ∈ TBG := inTBGs (i := 76) (by decide +kernel) (by decide +kernel)
theorem qs_77 : Cond.selects "WindJumpModel" ⟨"WindJumpModel", "hasJump", "(II)Z"⟩ ⟨"WindJumpModel", "hasJump", "(II)Z"⟩ ∈ TBG := inTBGs (i := 77) (by decide +kernel) (by decide +kernel)
theorem qs_78 : Cond.selects "WindJumpModel" ⟨"WindJumpModel", "isMan", "(I)Z"⟩ ⟨"WindJumpModel", "isMan", "(I)Z"⟩ ∈ TBG := inTBGs (i := 78) (by decide +kernel) (by decide +kernel)
theorem qs_79 : Cond.selects "WindJumpModel" ⟨"WindJumpModel", "isJudge", "(I)Z"⟩ ⟨"WindJumpModel", "isJudge", "(I)Z"⟩ ∈ TBG := inTBGs (i := 79) (by decide +kernel) (by decide +kernel)
theorem qs_80 : Cond.selects "WindJumpModel" ⟨"WindJumpModel", "starts", "()V"⟩ ⟨"WindJumpModel", "starts", "()V"⟩ ∈ TBG := inTBGs (i := 80) (by decide +kernel) (by decide +kernel)
theorem qs_81 : Cond.selects "WindJumpModel" ⟨"WindJumpModel", "isLetGo", "(II)Z"⟩ ⟨"WindJumpModel", "isLetGo", "(II)Z"⟩ ∈ TBG := inTBGs (i := 81) (by decide +kernel) (by decide +kernel)
theorem qs_82 : Cond.selects "WindJumpModel" ⟨"WindJumpModel", "letsGo", "(II)V"⟩ ⟨"WindJumpModel", "letsGo", "(II)V"⟩ ∈ TBG := inTBGs (i := 82) (by decide +kernel) (by decide +kernel)
theorem qs_83 : Cond.selects "WindJumpModel" ⟨"WindJumpModel", "setsJump", "(IIIII)V"⟩ ⟨"WindJumpModel", "setsJump", "(IIIII)V"⟩ ∈ TBG := inTBGs (i := 83) (by decide +kernel) (by decide +kernel)
theorem qs_84 : Cond.selects "WindJumpModel" ⟨"WindJumpModel", "jumps", "()V"⟩ ⟨"WindJumpModel", "jumps", "()V"⟩ ∈ TBG := inTBGs (i := 84) (by decide +kernel) (by decide +kernel)
theorem qs_85 : Cond.selects "WindJumpModel" ⟨"WindJumpModel", "marksAll", "()V"⟩ ⟨"WindJumpModel", "marksAll", "()V"⟩ ∈ TBG := inTBGs (i := 85) (by decide +kernel) (by decide +kernel)
theorem qs_86 : Cond.selects "WindJumpModel" ⟨"WindJumpModel", "setsStyle", "()V"⟩ ⟨"WindJumpModel", "setsStyle", "()V"⟩ ∈ TBG := inTBGs (i := 86) (by decide +kernel) (by decide +kernel)
theorem qs_87 : Cond.selects "WindJumpModel" ⟨"WindJumpModel", "setsPoints", "()V"⟩ ⟨"WindJumpModel", "setsPoints", "()V"⟩ ∈ TBG := inTBGs (i := 87) (by decide +kernel) (by decide +kernel)
theorem qs_88 : Cond.selects "WindJumpModel" ⟨"WindJumpModel", "keeps", "()V"⟩ ⟨"WindJumpModel", "keeps", "()V"⟩ ∈ TBG := inTBGs (i := 88) (by decide +kernel) (by decide +kernel)
theorem qs_89 : Cond.selects "WindJumpModel" ⟨"WindJumpModel", "tries", "(III)V"⟩ ⟨"WindJumpModel", "tries", "(III)V"⟩ ∈ TBG := inTBGs (i := 89) (by decide +kernel) (by decide +kernel)
theorem qs_90 : Cond.selects "WindJumpModel" ⟨"WindJumpModel", "isSafe", "(I)Z"⟩ ⟨"WindJumpModel", "isSafe", "(I)Z"⟩ ∈ TBG := inTBGs (i := 90) (by decide +kernel) (by decide +kernel)
theorem qs_91 : Cond.selects "WindJumpModel" ⟨"WindJumpModel", "startsAll", "()V"⟩ ⟨"WindJumpModel", "startsAll", "()V"⟩ ∈ TBG := inTBGs (i := 91) (by decide +kernel) (by decide +kernel)
theorem qs_92 : Cond.selects "WindJumpModel" ⟨"WindJumpModel", "pointsWithout", "(III)I"⟩ ⟨"WindJumpModel", "pointsWithout", "(III)I"⟩ ∈ TBG := inTBGs (i := 92) (by decide +kernel) (by decide +kernel)
theorem qs_93 : Cond.selects "WindJumpModel" ⟨"WindJumpModel", "hasLeft", "(I)Z"⟩ ⟨"WindJumpModel", "hasLeft", "(I)Z"⟩ ∈ TBG := inTBGs (i := 93) (by decide +kernel) (by decide +kernel)
theorem qs_94 : Cond.selects "WindJumpModel" ⟨"WindJumpModel", "gaveInAll", "(I)I"⟩ ⟨"WindJumpModel", "gaveInAll", "(I)I"⟩ ∈ TBG := inTBGs (i := 94) (by decide +kernel) (by decide +kernel)
theorem qs_95 : Cond.selects "WindJumpModel" ⟨"WindJumpModel", "isSo", "(III)Z"⟩ ⟨"WindJumpModel", "isSo", "(III)Z"⟩ ∈ TBG := inTBGs (i := 95) (by decide +kernel) (by decide +kernel)
theorem q_1 : (Jvm.Cond.initialized "WindJump") ∈ TBG := inG1 (i := 1) rfl rfl
theorem q_2 : (Jvm.Cond.initialized "WindJump$Tape") ∈ TBG := inG1 (i := 2) rfl rfl
theorem q_3 : (Jvm.Cond.initialized "WindJump$Tokens") ∈ TBG := inG1 (i := 3) rfl rfl
theorem q_4 : (Jvm.Cond.initialized "WindJump$Parser") ∈ TBG := inG1 (i := 4) rfl rfl
theorem q_5 : (Jvm.Cond.initialized "WindJump$Text") ∈ TBG := inG1 (i := 5) rfl rfl
theorem q_6 : (Jvm.Cond.initialized "WindJump$Law") ∈ TBG := inG1 (i := 6) rfl rfl
theorem q_7 : (Jvm.Cond.initialized "WindJump$People") ∈ TBG := inG1 (i := 7) rfl rfl
theorem q_8 : (Jvm.Cond.initialized "WindJump$Flight") ∈ TBG := inG1 (i := 8) rfl rfl
theorem q_9 : (Jvm.Cond.initialized "WindJump$Play") ∈ TBG := inG1 (i := 9) rfl rfl
theorem q_10 : (Jvm.Cond.initialized "WindJump$Kept") ∈ TBG := inG1 (i := 10) rfl rfl
theorem q_11 : (Jvm.Cond.initialized "WindJump$Slots") ∈ TBG := inG1 (i := 11) rfl rfl
theorem q_12 : (Jvm.Cond.initialized "WindJump$Told") ∈ TBG := inG1 (i := 12) rfl rfl
theorem q_13 : (Jvm.Cond.initialized "java/util/Arrays") ∈ TBG := inG1 (i := 13) rfl rfl
theorem q_14 : (Jvm.Cond.initialized "WindJumpModel") ∈ TBG := inG1 (i := 14) rfl rfl
theorem q_15 : (Jvm.Cond.initialized "java/lang/String") ∈ TBG := inG1 (i := 15) rfl rfl
theorem q_16 : (Jvm.Cond.initialized "java/lang/StringLatin1") ∈ TBG := inG1 (i := 16) rfl rfl
theorem q_17 : (Jvm.Cond.initialized "jdk/internal/util/Preconditions") ∈ TBG := inG1 (i := 17) rfl rfl
theorem q_19 : (Jvm.Cond.initialized "java/lang/Math") ∈ TBG := inG1 (i := 19) rfl rfl
theorem q_21 : (Jvm.Cond.initialized "java/lang/System") ∈ TBG := inG1 (i := 21) rfl rfl
theorem q_36 : (Jvm.Cond.fieldLink "WindJump$Tape" (11 : Nat) "WindJump$Tape" "bytes" "[B") ∈ TBG := inG1 (i := 36) rfl rfl
theorem q_37 : (Jvm.Cond.fieldLink "WindJump$Tape" (15 : Nat) "WindJump$Tape" "length" "I") ∈ TBG := inG1 (i := 37) rfl rfl
theorem q_38 : (Jvm.Cond.fieldLinkNest "WindJump" (109 : Nat) "WindJump$Tape" "length" "I" "WindJump") ∈ NWL := inN1 (i := 38) rfl rfl
theorem q_39 : (Jvm.Cond.fieldLinkNest "WindJump$Tokens" (42 : Nat) "WindJump$Tape" "length" "I" "WindJump") ∈ NWL := inN1 (i := 39) rfl rfl
theorem q_52 : (Jvm.Cond.fieldLink "WindJump$Tokens" (21 : Nat) "WindJump$Tokens" "tape" "LWindJump$Tape;") ∈ TBG := inG1 (i := 52) rfl rfl
theorem q_53 : (Jvm.Cond.fieldLink "WindJump$Tokens" (11 : Nat) "WindJump$Tokens" "kinds" "[I") ∈ TBG := inG1 (i := 53) rfl rfl
theorem q_54 : (Jvm.Cond.fieldLinkNest "WindJump$Parser" (45 : Nat) "WindJump$Tokens" "kinds" "[I" "WindJump") ∈ NWL := inN1 (i := 54) rfl rfl
theorem q_55 : (Jvm.Cond.fieldLink "WindJump$Tokens" (15 : Nat) "WindJump$Tokens" "places" "[I") ∈ TBG := inG1 (i := 55) rfl rfl
theorem q_56 : (Jvm.Cond.fieldLinkNest "WindJump$Parser" (196 : Nat) "WindJump$Tokens" "places" "[I" "WindJump") ∈ NWL := inN1 (i := 56) rfl rfl
theorem q_57 : (Jvm.Cond.fieldLink "WindJump$Tokens" (18 : Nat) "WindJump$Tokens" "values" "[I") ∈ TBG := inG1 (i := 57) rfl rfl
theorem q_58 : (Jvm.Cond.fieldLinkNest "WindJump$Parser" (170 : Nat) "WindJump$Tokens" "values" "[I" "WindJump") ∈ NWL := inN1 (i := 58) rfl rfl
theorem q_59 : (Jvm.Cond.fieldLink "WindJump$Tokens" (25 : Nat) "WindJump$Tokens" "next" "I") ∈ TBG := inG1 (i := 59) rfl rfl
theorem q_78 : (Jvm.Cond.fieldLink "WindJump$Parser" (15 : Nat) "WindJump$Parser" "tokens" "LWindJump$Tokens;") ∈ TBG := inG1 (i := 78) rfl rfl
theorem q_79 : (Jvm.Cond.fieldLink "WindJump$Parser" (9 : Nat) "WindJump$Parser" "names" "[I") ∈ TBG := inG1 (i := 79) rfl rfl
theorem q_80 : (Jvm.Cond.fieldLink "WindJump$Parser" (23 : Nat) "WindJump$Parser" "nameCount" "I") ∈ TBG := inG1 (i := 80) rfl rfl
theorem q_81 : (Jvm.Cond.fieldLink "WindJump$Parser" (19 : Nat) "WindJump$Parser" "at" "I") ∈ TBG := inG1 (i := 81) rfl rfl
theorem q_82 : (Jvm.Cond.fieldLink "WindJump$Parser" (116 : Nat) "WindJump$Parser" "number" "I") ∈ TBG := inG1 (i := 82) rfl rfl
theorem q_83 : (Jvm.Cond.fieldLink "WindJump$Parser" (26 : Nat) "WindJump$Parser" "fault" "I") ∈ TBG := inG1 (i := 83) rfl rfl
theorem q_84 : (Jvm.Cond.fieldLink "WindJump$Parser" (29 : Nat) "WindJump$Parser" "place" "I") ∈ TBG := inG1 (i := 84) rfl rfl
theorem q_85 : (Jvm.Cond.fieldLinkNest "WindJump" (123 : Nat) "WindJump$Parser" "place" "I" "WindJump") ∈ NWL := inN1 (i := 85) rfl rfl
theorem q_86 : (Jvm.Cond.fieldLink "WindJump$Parser" (32 : Nat) "WindJump$Parser" "laterFault" "I") ∈ TBG := inG1 (i := 86) rfl rfl
theorem q_87 : (Jvm.Cond.fieldLink "WindJump$Parser" (35 : Nat) "WindJump$Parser" "laterPlace" "I") ∈ TBG := inG1 (i := 87) rfl rfl
theorem q_119 : (Jvm.Cond.fieldLink "WindJump$Law" (9 : Nat) "WindJump$Law" "ops" "[I") ∈ TBG := inG1 (i := 119) rfl rfl
theorem q_120 : (Jvm.Cond.fieldLink "WindJump$Law" (15 : Nat) "WindJump$Law" "values" "[I") ∈ TBG := inG1 (i := 120) rfl rfl
theorem q_121 : (Jvm.Cond.fieldLink "WindJump$Law" (18 : Nat) "WindJump$Law" "ends" "[I") ∈ TBG := inG1 (i := 121) rfl rfl
theorem q_122 : (Jvm.Cond.fieldLink "WindJump$Law" (21 : Nat) "WindJump$Law" "vars" "[I") ∈ TBG := inG1 (i := 122) rfl rfl
theorem q_123 : (Jvm.Cond.fieldLink "WindJump$Law" (24 : Nat) "WindJump$Law" "open" "[I") ∈ TBG := inG1 (i := 123) rfl rfl
theorem q_124 : (Jvm.Cond.fieldLink "WindJump$Law" (27 : Nat) "WindJump$Law" "size" "I") ∈ TBG := inG1 (i := 124) rfl rfl
theorem q_125 : (Jvm.Cond.fieldLink "WindJump$Law" (31 : Nat) "WindJump$Law" "pieces" "I") ∈ TBG := inG1 (i := 125) rfl rfl
theorem q_126 : (Jvm.Cond.fieldLinkNest "WindJump$Text" (89 : Nat) "WindJump$Law" "pieces" "I" "WindJump") ∈ NWL := inN1 (i := 126) rfl rfl
theorem q_127 : (Jvm.Cond.fieldLink "WindJump$Law" (41 : Nat) "WindJump$Law" "broken" "Z") ∈ TBG := inG1 (i := 127) rfl rfl
theorem q_151 : (Jvm.Cond.fieldLink "WindJump$People" (9 : Nat) "WindJump$People" "weight" "[I") ∈ TBG := inG1 (i := 151) rfl rfl
theorem q_152 : (Jvm.Cond.fieldLinkNest "WindJump$Flight" (72 : Nat) "WindJump$People" "weight" "[I" "WindJump") ∈ NWL := inN1 (i := 152) rfl rfl
theorem q_153 : (Jvm.Cond.fieldLinkNest "WindJump" (220 : Nat) "WindJump$People" "weight" "[I" "WindJump") ∈ NWL := inN1 (i := 153) rfl rfl
theorem q_154 : (Jvm.Cond.fieldLink "WindJump$People" (15 : Nat) "WindJump$People" "ski" "[I") ∈ TBG := inG1 (i := 154) rfl rfl
theorem q_155 : (Jvm.Cond.fieldLinkNest "WindJump$Flight" (75 : Nat) "WindJump$People" "ski" "[I" "WindJump") ∈ NWL := inN1 (i := 155) rfl rfl
theorem q_156 : (Jvm.Cond.fieldLinkNest "WindJump" (225 : Nat) "WindJump$People" "ski" "[I" "WindJump") ∈ NWL := inN1 (i := 156) rfl rfl
theorem q_157 : (Jvm.Cond.fieldLink "WindJump$People" (18 : Nat) "WindJump$People" "slip" "[I") ∈ TBG := inG1 (i := 157) rfl rfl
theorem q_158 : (Jvm.Cond.fieldLinkNest "WindJump$Flight" (63 : Nat) "WindJump$People" "slip" "[I" "WindJump") ∈ NWL := inN1 (i := 158) rfl rfl
theorem q_159 : (Jvm.Cond.fieldLink "WindJump$People" (21 : Nat) "WindJump$People" "land" "[I") ∈ TBG := inG1 (i := 159) rfl rfl
theorem q_160 : (Jvm.Cond.fieldLinkNest "WindJump$Flight" (106 : Nat) "WindJump$People" "land" "[I" "WindJump") ∈ NWL := inN1 (i := 160) rfl rfl
theorem q_161 : (Jvm.Cond.fieldLink "WindJump$People" (24 : Nat) "WindJump$People" "lean" "[I") ∈ TBG := inG1 (i := 161) rfl rfl
theorem q_162 : (Jvm.Cond.fieldLinkNest "WindJump$Flight" (100 : Nat) "WindJump$People" "lean" "[I" "WindJump") ∈ NWL := inN1 (i := 162) rfl rfl
theorem q_163 : (Jvm.Cond.fieldLink "WindJump$People" (27 : Nat) "WindJump$People" "judgeLand" "[I") ∈ TBG := inG1 (i := 163) rfl rfl
theorem q_164 : (Jvm.Cond.fieldLinkNest "WindJump$Flight" (103 : Nat) "WindJump$People" "judgeLand" "[I" "WindJump") ∈ NWL := inN1 (i := 164) rfl rfl
theorem q_165 : (Jvm.Cond.fieldLink "WindJump$People" (30 : Nat) "WindJump$People" "men" "I") ∈ TBG := inG1 (i := 165) rfl rfl
theorem q_166 : (Jvm.Cond.fieldLinkNest "WindJump$Play" (47 : Nat) "WindJump$People" "men" "I" "WindJump") ∈ NWL := inN1 (i := 166) rfl rfl
theorem q_167 : (Jvm.Cond.fieldLinkNest "WindJump" (239 : Nat) "WindJump$People" "men" "I" "WindJump") ∈ NWL := inN1 (i := 167) rfl rfl
theorem q_168 : (Jvm.Cond.fieldLink "WindJump$People" (34 : Nat) "WindJump$People" "judges" "I") ∈ TBG := inG1 (i := 168) rfl rfl
theorem q_169 : (Jvm.Cond.fieldLinkNest "WindJump$Flight" (97 : Nat) "WindJump$People" "judges" "I" "WindJump") ∈ NWL := inN1 (i := 169) rfl rfl
theorem q_170 : (Jvm.Cond.fieldLinkNest "WindJump$Play" (79 : Nat) "WindJump$People" "judges" "I" "WindJump") ∈ NWL := inN1 (i := 170) rfl rfl
theorem q_171 : (Jvm.Cond.fieldLinkNest "WindJump" (299 : Nat) "WindJump$People" "judges" "I" "WindJump") ∈ NWL := inN1 (i := 171) rfl rfl
theorem q_189 : (Jvm.Cond.fieldLink "WindJump$Text" (12 : Nat) "WindJump$Text" "windLaw" "LWindJump$Law;") ∈ TBG := inG1 (i := 189) rfl rfl
theorem q_190 : (Jvm.Cond.fieldLinkNest "WindJump$Flight" (19 : Nat) "WindJump$Text" "windLaw" "LWindJump$Law;" "WindJump") ∈ NWL := inN1 (i := 190) rfl rfl
theorem q_191 : (Jvm.Cond.fieldLinkNest "WindJump$Parser" (74 : Nat) "WindJump$Text" "windLaw" "LWindJump$Law;" "WindJump") ∈ NWL := inN1 (i := 191) rfl rfl
theorem q_192 : (Jvm.Cond.fieldLink "WindJump$Text" (18 : Nat) "WindJump$Text" "farLaw" "LWindJump$Law;") ∈ TBG := inG1 (i := 192) rfl rfl
theorem q_193 : (Jvm.Cond.fieldLinkNest "WindJump$Parser" (82 : Nat) "WindJump$Text" "farLaw" "LWindJump$Law;" "WindJump") ∈ NWL := inN1 (i := 193) rfl rfl
theorem q_194 : (Jvm.Cond.fieldLinkNest "WindJump$Flight" (82 : Nat) "WindJump$Text" "farLaw" "LWindJump$Law;" "WindJump") ∈ NWL := inN1 (i := 194) rfl rfl
theorem q_195 : (Jvm.Cond.fieldLink "WindJump$Text" (21 : Nat) "WindJump$Text" "givesLaw" "LWindJump$Law;") ∈ TBG := inG1 (i := 195) rfl rfl
theorem q_196 : (Jvm.Cond.fieldLinkNest "WindJump$Parser" (85 : Nat) "WindJump$Text" "givesLaw" "LWindJump$Law;" "WindJump") ∈ NWL := inN1 (i := 196) rfl rfl
theorem q_197 : (Jvm.Cond.fieldLinkNest "WindJump$Flight" (127 : Nat) "WindJump$Text" "givesLaw" "LWindJump$Law;" "WindJump") ∈ NWL := inN1 (i := 197) rfl rfl
theorem q_198 : (Jvm.Cond.fieldLink "WindJump$Text" (24 : Nat) "WindJump$Text" "styleLaw" "LWindJump$Law;") ∈ TBG := inG1 (i := 198) rfl rfl
theorem q_199 : (Jvm.Cond.fieldLinkNest "WindJump$Parser" (88 : Nat) "WindJump$Text" "styleLaw" "LWindJump$Law;" "WindJump") ∈ NWL := inN1 (i := 199) rfl rfl
theorem q_200 : (Jvm.Cond.fieldLinkNest "WindJump$Flight" (94 : Nat) "WindJump$Text" "styleLaw" "LWindJump$Law;" "WindJump") ∈ NWL := inN1 (i := 200) rfl rfl
theorem q_201 : (Jvm.Cond.fieldLink "WindJump$Text" (27 : Nat) "WindJump$Text" "goesLaw" "LWindJump$Law;") ∈ TBG := inG1 (i := 201) rfl rfl
theorem q_202 : (Jvm.Cond.fieldLinkNest "WindJump$Parser" (91 : Nat) "WindJump$Text" "goesLaw" "LWindJump$Law;" "WindJump") ∈ NWL := inN1 (i := 202) rfl rfl
theorem q_203 : (Jvm.Cond.fieldLinkNest "WindJump$Flight" (69 : Nat) "WindJump$Text" "goesLaw" "LWindJump$Law;" "WindJump") ∈ NWL := inN1 (i := 203) rfl rfl
theorem q_204 : (Jvm.Cond.fieldLink "WindJump$Text" (30 : Nat) "WindJump$Text" "parts" "[I") ∈ TBG := inG1 (i := 204) rfl rfl
theorem q_205 : (Jvm.Cond.fieldLinkNest "WindJump$Flight" (50 : Nat) "WindJump$Text" "parts" "[I" "WindJump") ∈ NWL := inN1 (i := 205) rfl rfl
theorem q_206 : (Jvm.Cond.fieldLinkNest "WindJump$Parser" (94 : Nat) "WindJump$Text" "parts" "[I" "WindJump") ∈ NWL := inN1 (i := 206) rfl rfl
theorem q_207 : (Jvm.Cond.fieldLink "WindJump$Text" (37 : Nat) "WindJump$Text" "people" "LWindJump$People;") ∈ TBG := inG1 (i := 207) rfl rfl
theorem q_208 : (Jvm.Cond.fieldLinkNest "WindJump$Play" (43 : Nat) "WindJump$Text" "people" "LWindJump$People;" "WindJump") ∈ NWL := inN1 (i := 208) rfl rfl
theorem q_209 : (Jvm.Cond.fieldLinkNest "WindJump$Parser" (59 : Nat) "WindJump$Text" "people" "LWindJump$People;" "WindJump") ∈ NWL := inN1 (i := 209) rfl rfl
theorem q_210 : (Jvm.Cond.fieldLinkNest "WindJump$Flight" (59 : Nat) "WindJump$Text" "people" "LWindJump$People;" "WindJump") ∈ NWL := inN1 (i := 210) rfl rfl
theorem q_211 : (Jvm.Cond.fieldLinkNest "WindJump" (216 : Nat) "WindJump$Text" "people" "LWindJump$People;" "WindJump") ∈ NWL := inN1 (i := 211) rfl rfl
theorem q_212 : (Jvm.Cond.fieldLink "WindJump$Text" (51 : Nat) "WindJump$Text" "k" "I") ∈ TBG := inG1 (i := 212) rfl rfl
theorem q_213 : (Jvm.Cond.fieldLinkNest "WindJump$Parser" (119 : Nat) "WindJump$Text" "k" "I" "WindJump") ∈ NWL := inN1 (i := 213) rfl rfl
theorem q_214 : (Jvm.Cond.fieldLinkNest "WindJump$Flight" (133 : Nat) "WindJump$Text" "k" "I" "WindJump") ∈ NWL := inN1 (i := 214) rfl rfl
theorem q_215 : (Jvm.Cond.fieldLinkNest "WindJump" (328 : Nat) "WindJump$Text" "k" "I" "WindJump") ∈ NWL := inN1 (i := 215) rfl rfl
theorem q_216 : (Jvm.Cond.fieldLink "WindJump$Text" (55 : Nat) "WindJump$Text" "safe" "I") ∈ TBG := inG1 (i := 216) rfl rfl
theorem q_217 : (Jvm.Cond.fieldLinkNest "WindJump$Parser" (122 : Nat) "WindJump$Text" "safe" "I" "WindJump") ∈ NWL := inN1 (i := 217) rfl rfl
theorem q_218 : (Jvm.Cond.fieldLinkNest "WindJump" (331 : Nat) "WindJump$Text" "safe" "I" "WindJump") ∈ NWL := inN1 (i := 218) rfl rfl
theorem q_219 : (Jvm.Cond.fieldLink "WindJump$Text" (58 : Nat) "WindJump$Text" "metre" "I") ∈ TBG := inG1 (i := 219) rfl rfl
theorem q_220 : (Jvm.Cond.fieldLinkNest "WindJump$Parser" (125 : Nat) "WindJump$Text" "metre" "I" "WindJump") ∈ NWL := inN1 (i := 220) rfl rfl
theorem q_221 : (Jvm.Cond.fieldLinkNest "WindJump$Flight" (130 : Nat) "WindJump$Text" "metre" "I" "WindJump") ∈ NWL := inN1 (i := 221) rfl rfl
theorem q_222 : (Jvm.Cond.fieldLinkNest "WindJump" (334 : Nat) "WindJump$Text" "metre" "I" "WindJump") ∈ NWL := inN1 (i := 222) rfl rfl
theorem q_223 : (Jvm.Cond.fieldLink "WindJump$Text" (61 : Nat) "WindJump$Text" "snow" "I") ∈ TBG := inG1 (i := 223) rfl rfl
theorem q_224 : (Jvm.Cond.fieldLinkNest "WindJump$Flight" (85 : Nat) "WindJump$Text" "snow" "I" "WindJump") ∈ NWL := inN1 (i := 224) rfl rfl
theorem q_225 : (Jvm.Cond.fieldLinkNest "WindJump$Parser" (140 : Nat) "WindJump$Text" "snow" "I" "WindJump") ∈ NWL := inN1 (i := 225) rfl rfl
theorem q_226 : (Jvm.Cond.fieldLinkNest "WindJump$Flight" (31 : Nat) "WindJump$Text" "gusts" "I" "WindJump") ∈ NWL := inN1 (i := 226) rfl rfl
theorem q_227 : (Jvm.Cond.fieldLink "WindJump$Text" (64 : Nat) "WindJump$Text" "gusts" "I") ∈ TBG := inG1 (i := 227) rfl rfl
theorem q_228 : (Jvm.Cond.fieldLinkNest "WindJump$Parser" (143 : Nat) "WindJump$Text" "gusts" "I" "WindJump") ∈ NWL := inN1 (i := 228) rfl rfl
theorem q_229 : (Jvm.Cond.fieldLink "WindJump$Text" (67 : Nat) "WindJump$Text" "waits" "I") ∈ TBG := inG1 (i := 229) rfl rfl
theorem q_230 : (Jvm.Cond.fieldLinkNest "WindJump$Parser" (146 : Nat) "WindJump$Text" "waits" "I" "WindJump") ∈ NWL := inN1 (i := 230) rfl rfl
theorem q_231 : (Jvm.Cond.fieldLinkNest "WindJump" (188 : Nat) "WindJump$Text" "waits" "I" "WindJump") ∈ NWL := inN1 (i := 231) rfl rfl
theorem q_232 : (Jvm.Cond.fieldLink "WindJump$Text" (70 : Nat) "WindJump$Text" "pauseBehind" "I") ∈ TBG := inG1 (i := 232) rfl rfl
theorem q_233 : (Jvm.Cond.fieldLinkNest "WindJump$Parser" (149 : Nat) "WindJump$Text" "pauseBehind" "I" "WindJump") ∈ NWL := inN1 (i := 233) rfl rfl
theorem q_234 : (Jvm.Cond.fieldLinkNest "WindJump$Play" (103 : Nat) "WindJump$Text" "pauseBehind" "I" "WindJump") ∈ NWL := inN1 (i := 234) rfl rfl
theorem q_235 : (Jvm.Cond.fieldLinkNest "WindJump$Play" (32 : Nat) "WindJump$Text" "gateTold" "I" "WindJump") ∈ NWL := inN1 (i := 235) rfl rfl
theorem q_236 : (Jvm.Cond.fieldLink "WindJump$Text" (73 : Nat) "WindJump$Text" "gateTold" "I") ∈ TBG := inG1 (i := 236) rfl rfl
theorem q_237 : (Jvm.Cond.fieldLinkNest "WindJump$Flight" (88 : Nat) "WindJump$Text" "gateTold" "I" "WindJump") ∈ NWL := inN1 (i := 237) rfl rfl
theorem q_238 : (Jvm.Cond.fieldLinkNest "WindJump$Parser" (152 : Nat) "WindJump$Text" "gateTold" "I" "WindJump") ∈ NWL := inN1 (i := 238) rfl rfl
theorem q_239 : (Jvm.Cond.fieldLinkNest "WindJump" (375 : Nat) "WindJump$Text" "gateTold" "I" "WindJump") ∈ NWL := inN1 (i := 239) rfl rfl
theorem q_240 : (Jvm.Cond.fieldLink "WindJump$Text" (76 : Nat) "WindJump$Text" "step" "I") ∈ TBG := inG2 (i := 0) rfl rfl
theorem q_241 : (Jvm.Cond.fieldLinkNest "WindJump$Parser" (155 : Nat) "WindJump$Text" "step" "I" "WindJump") ∈ NWL := inN2 (i := 1) rfl rfl
theorem q_242 : (Jvm.Cond.fieldLinkNest "WindJump$Flight" (136 : Nat) "WindJump$Text" "step" "I" "WindJump") ∈ NWL := inN2 (i := 2) rfl rfl
theorem q_243 : (Jvm.Cond.fieldLink "WindJump$Text" (79 : Nat) "WindJump$Text" "goOn" "I") ∈ TBG := inG2 (i := 3) rfl rfl
theorem q_244 : (Jvm.Cond.fieldLinkNest "WindJump$Parser" (158 : Nat) "WindJump$Text" "goOn" "I" "WindJump") ∈ NWL := inN2 (i := 4) rfl rfl
theorem q_245 : (Jvm.Cond.fieldLinkNest "WindJump$Play" (126 : Nat) "WindJump$Text" "goOn" "I" "WindJump") ∈ NWL := inN2 (i := 5) rfl rfl
theorem q_246 : (Jvm.Cond.fieldLinkNest "WindJump" (337 : Nat) "WindJump$Text" "goOn" "I" "WindJump") ∈ NWL := inN2 (i := 6) rfl rfl
theorem q_247 : (Jvm.Cond.fieldLink "WindJump$Text" (82 : Nat) "WindJump$Text" "seed" "I") ∈ TBG := inG2 (i := 7) rfl rfl
theorem q_248 : (Jvm.Cond.fieldLinkNest "WindJump$Parser" (161 : Nat) "WindJump$Text" "seed" "I" "WindJump") ∈ NWL := inN2 (i := 8) rfl rfl
theorem q_249 : (Jvm.Cond.fieldLinkNest "WindJump" (249 : Nat) "WindJump$Text" "seed" "I" "WindJump") ∈ NWL := inN2 (i := 9) rfl rfl
theorem q_293 : (Jvm.Cond.fieldLink "WindJump$Flight" (15 : Nat) "WindJump$Flight" "text" "LWindJump$Text;") ∈ TBG := inG2 (i := 53) rfl rfl
theorem q_294 : (Jvm.Cond.fieldLink "WindJump$Flight" (9 : Nat) "WindJump$Flight" "marks" "[I") ∈ TBG := inG2 (i := 54) rfl rfl
theorem q_295 : (Jvm.Cond.fieldLinkNest "WindJump$Play" (100 : Nat) "WindJump$Flight" "marks" "[I" "WindJump") ∈ NWL := inN2 (i := 55) rfl rfl
theorem q_296 : (Jvm.Cond.fieldLink "WindJump$Flight" (150 : Nat) "WindJump$Flight" "seed" "I") ∈ TBG := inG2 (i := 56) rfl rfl
theorem q_297 : (Jvm.Cond.fieldLinkNest "WindJump" (252 : Nat) "WindJump$Flight" "seed" "I" "WindJump") ∈ NWL := inN2 (i := 57) rfl rfl
theorem q_298 : (Jvm.Cond.fieldLink "WindJump$Flight" (56 : Nat) "WindJump$Flight" "trueWind" "I") ∈ TBG := inG2 (i := 58) rfl rfl
theorem q_299 : (Jvm.Cond.fieldLinkNest "WindJump" (148 : Nat) "WindJump$Flight" "trueWind" "I" "WindJump") ∈ NWL := inN2 (i := 59) rfl rfl
theorem q_300 : (Jvm.Cond.fieldLink "WindJump$Flight" (53 : Nat) "WindJump$Flight" "meanWind" "I") ∈ TBG := inG2 (i := 60) rfl rfl
theorem q_301 : (Jvm.Cond.fieldLinkNest "WindJump" (145 : Nat) "WindJump$Flight" "meanWind" "I" "WindJump") ∈ NWL := inN2 (i := 61) rfl rfl
theorem q_302 : (Jvm.Cond.fieldLinkNest "WindJump$Play" (97 : Nat) "WindJump$Flight" "meanWind" "I" "WindJump") ∈ NWL := inN2 (i := 62) rfl rfl
theorem q_303 : (Jvm.Cond.fieldLink "WindJump$Flight" (91 : Nat) "WindJump$Flight" "length" "I") ∈ TBG := inG2 (i := 63) rfl rfl
theorem q_304 : (Jvm.Cond.fieldLinkNest "WindJump$Play" (86 : Nat) "WindJump$Flight" "length" "I" "WindJump") ∈ NWL := inN2 (i := 64) rfl rfl
theorem q_305 : (Jvm.Cond.fieldLinkNest "WindJump" (195 : Nat) "WindJump$Flight" "length" "I" "WindJump") ∈ NWL := inN2 (i := 65) rfl rfl
theorem q_306 : (Jvm.Cond.fieldLink "WindJump$Flight" (113 : Nat) "WindJump$Flight" "style" "I") ∈ TBG := inG2 (i := 66) rfl rfl
theorem q_307 : (Jvm.Cond.fieldLinkNest "WindJump$Play" (94 : Nat) "WindJump$Flight" "style" "I" "WindJump") ∈ NWL := inN2 (i := 67) rfl rfl
theorem q_308 : (Jvm.Cond.fieldLinkNest "WindJump" (213 : Nat) "WindJump$Flight" "style" "I" "WindJump") ∈ NWL := inN2 (i := 68) rfl rfl
theorem q_309 : (Jvm.Cond.fieldLink "WindJump$Flight" (124 : Nat) "WindJump$Flight" "points" "I") ∈ TBG := inG2 (i := 69) rfl rfl
theorem q_310 : (Jvm.Cond.fieldLinkNest "WindJump$Play" (91 : Nat) "WindJump$Flight" "points" "I" "WindJump") ∈ NWL := inN2 (i := 70) rfl rfl
theorem q_311 : (Jvm.Cond.fieldLinkNest "WindJump" (210 : Nat) "WindJump$Flight" "points" "I" "WindJump") ∈ NWL := inN2 (i := 71) rfl rfl
theorem q_335 : (Jvm.Cond.fieldLink "WindJump$Play" (21 : Nat) "WindJump$Play" "text" "LWindJump$Text;") ∈ TBG := inG2 (i := 95) rfl rfl
theorem q_336 : (Jvm.Cond.fieldLink "WindJump$Play" (11 : Nat) "WindJump$Play" "order" "[I") ∈ TBG := inG2 (i := 96) rfl rfl
theorem q_337 : (Jvm.Cond.fieldLink "WindJump$Play" (15 : Nat) "WindJump$Play" "totals" "[I") ∈ TBG := inG2 (i := 97) rfl rfl
theorem q_338 : (Jvm.Cond.fieldLinkNest "WindJump" (170 : Nat) "WindJump$Play" "totals" "[I" "WindJump") ∈ NWL := inN2 (i := 98) rfl rfl
theorem q_339 : (Jvm.Cond.fieldLink "WindJump$Play" (18 : Nat) "WindJump$Play" "cells" "[I") ∈ TBG := inG2 (i := 99) rfl rfl
theorem q_340 : (Jvm.Cond.fieldLink "WindJump$Play" (25 : Nat) "WindJump$Play" "second" "I") ∈ TBG := inG2 (i := 100) rfl rfl
theorem q_341 : (Jvm.Cond.fieldLinkNest "WindJump" (126 : Nat) "WindJump$Play" "second" "I" "WindJump") ∈ NWL := inN2 (i := 101) rfl rfl
theorem q_342 : (Jvm.Cond.fieldLink "WindJump$Play" (29 : Nat) "WindJump$Play" "round" "I") ∈ TBG := inG2 (i := 102) rfl rfl
theorem q_343 : (Jvm.Cond.fieldLinkNest "WindJump" (129 : Nat) "WindJump$Play" "round" "I" "WindJump") ∈ NWL := inN2 (i := 103) rfl rfl
theorem q_344 : (Jvm.Cond.fieldLink "WindJump$Play" (37 : Nat) "WindJump$Play" "gate" "I") ∈ TBG := inG2 (i := 104) rfl rfl
theorem q_345 : (Jvm.Cond.fieldLinkNest "WindJump" (132 : Nat) "WindJump$Play" "gate" "I" "WindJump") ∈ NWL := inN2 (i := 105) rfl rfl
theorem q_346 : (Jvm.Cond.fieldLink "WindJump$Play" (40 : Nat) "WindJump$Play" "started" "I") ∈ TBG := inG2 (i := 106) rfl rfl
theorem q_347 : (Jvm.Cond.fieldLinkNest "WindJump" (139 : Nat) "WindJump$Play" "started" "I" "WindJump") ∈ NWL := inN2 (i := 107) rfl rfl
theorem q_348 : (Jvm.Cond.fieldLink "WindJump$Play" (52 : Nat) "WindJump$Play" "size" "I") ∈ TBG := inG2 (i := 108) rfl rfl
theorem q_376 : (Jvm.Cond.fieldLink "WindJump$Kept" (13 : Nat) "WindJump$Kept" "rows" "[[I") ∈ TBG := inG2 (i := 136) rfl rfl
theorem q_377 : (Jvm.Cond.fieldLink "WindJump$Kept" (16 : Nat) "WindJump$Kept" "count" "I") ∈ TBG := inG2 (i := 137) rfl rfl
theorem q_378 : (Jvm.Cond.fieldLinkNest "WindJump" (343 : Nat) "WindJump$Kept" "count" "I" "WindJump") ∈ NWL := inN2 (i := 138) rfl rfl
theorem q_379 : (Jvm.Cond.fieldLink "WindJump$Kept" (20 : Nat) "WindJump$Kept" "next" "I") ∈ TBG := inG2 (i := 139) rfl rfl
theorem q_394 : (Jvm.Cond.fieldLink "WindJump$Slots" (13 : Nat) "WindJump$Slots" "rows" "[[I") ∈ TBG := inG2 (i := 154) rfl rfl
theorem q_395 : (Jvm.Cond.fieldLink "WindJump$Slots" (16 : Nat) "WindJump$Slots" "held" "[Z") ∈ TBG := inG2 (i := 155) rfl rfl
theorem q_408 : (Jvm.Cond.fieldLink "WindJump$Told" (11 : Nat) "WindJump$Told" "man" "[I") ∈ TBG := inG2 (i := 168) rfl rfl
theorem q_409 : (Jvm.Cond.fieldLinkNest "WindJump" (370 : Nat) "WindJump$Told" "man" "[I" "WindJump") ∈ NWL := inN2 (i := 169) rfl rfl
theorem q_410 : (Jvm.Cond.fieldLink "WindJump$Told" (15 : Nat) "WindJump$Told" "second" "[I") ∈ TBG := inG2 (i := 170) rfl rfl
theorem q_411 : (Jvm.Cond.fieldLinkNest "WindJump" (373 : Nat) "WindJump$Told" "second" "[I" "WindJump") ∈ NWL := inN2 (i := 171) rfl rfl
theorem q_412 : (Jvm.Cond.fieldLink "WindJump$Told" (18 : Nat) "WindJump$Told" "length" "[I") ∈ TBG := inG2 (i := 172) rfl rfl
theorem q_413 : (Jvm.Cond.fieldLinkNest "WindJump" (378 : Nat) "WindJump$Told" "length" "[I" "WindJump") ∈ NWL := inN2 (i := 173) rfl rfl
theorem q_414 : (Jvm.Cond.fieldLink "WindJump$Told" (21 : Nat) "WindJump$Told" "count" "I") ∈ TBG := inG2 (i := 174) rfl rfl
theorem q_415 : (Jvm.Cond.fieldLinkNest "WindJump" (314 : Nat) "WindJump$Told" "count" "I" "WindJump") ∈ NWL := inN2 (i := 175) rfl rfl
theorem q_426 : (Jvm.Cond.instanceMethod ({ cls := "WindJump$Text", name := "clear", desc := "()V" } : Jvm.MethodName)) ∈ TBG := inG2 (i := 186) rfl rfl
theorem q_427 : (Jvm.Cond.selects "WindJump$Text" ({ cls := "WindJump$Text", name := "clear", desc := "()V" } : Jvm.MethodName) ({ cls := "WindJump$Text", name := "clear", desc := "()V" } : Jvm.MethodName)) ∈ TBG := inG2 (i := 187) rfl rfl
theorem q_428 : (Jvm.Cond.code ({ cls := "WindJump$Text", name := "clear", desc := "()V" } : Jvm.MethodName) prog_10_method_2_code (1 : Nat) (Option.none : Option Jvm.ClassFile.FieldType)) ∈ TBG := inG2 (i := 188) rfl rfl
theorem q_429 : (Jvm.Cond.methodLink "WindJump$Text" (41 : Nat) ({ cls := "WindJump$Law", name := "clear", desc := "()V" } : Jvm.MethodName)) ∈ TBG := inG2 (i := 189) rfl rfl
theorem q_430 : (Jvm.Cond.instanceMethod ({ cls := "WindJump$Law", name := "clear", desc := "()V" } : Jvm.MethodName)) ∈ TBG := inG2 (i := 190) rfl rfl
theorem q_431 : (Jvm.Cond.selects "WindJump$Law" ({ cls := "WindJump$Law", name := "clear", desc := "()V" } : Jvm.MethodName) ({ cls := "WindJump$Law", name := "clear", desc := "()V" } : Jvm.MethodName)) ∈ TBG := inG2 (i := 191) rfl rfl
theorem q_432 : (Jvm.Cond.code ({ cls := "WindJump$Law", name := "clear", desc := "()V" } : Jvm.MethodName) prog_4_method_2_code (1 : Nat) (Option.none : Option Jvm.ClassFile.FieldType)) ∈ TBG := inG2 (i := 192) rfl rfl
theorem q_433 : (Jvm.Cond.methodLink "WindJump$Text" (44 : Nat) ({ cls := "java/util/Arrays", name := "fill", desc := "([II)V" } : Jvm.MethodName)) ∈ TBG := inG2 (i := 193) rfl rfl
theorem q_434 : (Jvm.Cond.static ({ cls := "java/util/Arrays", name := "fill", desc := "([II)V" } : Jvm.MethodName)) ∈ TBG := inG2 (i := 194) rfl rfl
theorem q_435 : (Jvm.Cond.code ({ cls := "java/util/Arrays", name := "fill", desc := "([II)V" } : Jvm.MethodName) prog_21_method_103_code (4 : Nat) (Option.none : Option Jvm.ClassFile.FieldType)) ∈ TBG := inG2 (i := 195) rfl rfl
theorem q_436 : (Jvm.Cond.methodLink "WindJump$Text" (50 : Nat) ({ cls := "WindJump$People", name := "clear", desc := "()V" } : Jvm.MethodName)) ∈ TBG := inG2 (i := 196) rfl rfl
theorem q_437 : (Jvm.Cond.instanceMethod ({ cls := "WindJump$People", name := "clear", desc := "()V" } : Jvm.MethodName)) ∈ TBG := inG2 (i := 197) rfl rfl
theorem q_438 : (Jvm.Cond.selects "WindJump$People" ({ cls := "WindJump$People", name := "clear", desc := "()V" } : Jvm.MethodName) ({ cls := "WindJump$People", name := "clear", desc := "()V" } : Jvm.MethodName)) ∈ TBG := inG2 (i := 198) rfl rfl
theorem q_439 : (Jvm.Cond.code ({ cls := "WindJump$People", name := "clear", desc := "()V" } : Jvm.MethodName) prog_6_method_2_code (1 : Nat) (Option.none : Option Jvm.ClassFile.FieldType)) ∈ TBG := inG2 (i := 199) rfl rfl
theorem q_441 : (Jvm.Cond.instanceMethod ({ cls := "WindJump$Text", name := "fillUntold", desc := "()V" } : Jvm.MethodName)) ∈ TBG := inG2 (i := 201) rfl rfl
theorem q_442 : (Jvm.Cond.selects "WindJump$Text" ({ cls := "WindJump$Text", name := "fillUntold", desc := "()V" } : Jvm.MethodName) ({ cls := "WindJump$Text", name := "fillUntold", desc := "()V" } : Jvm.MethodName)) ∈ TBG := inG2 (i := 202) rfl rfl
theorem q_443 : (Jvm.Cond.code ({ cls := "WindJump$Text", name := "fillUntold", desc := "()V" } : Jvm.MethodName) prog_10_method_3_code (1 : Nat) (Option.none : Option Jvm.ClassFile.FieldType)) ∈ TBG := inG2 (i := 203) rfl rfl
theorem q_444 : (Jvm.Cond.methodLink "WindJump$Text" (85 : Nat) ({ cls := "WindJump$Law", name := "fillUntold", desc := "(I)V" } : Jvm.MethodName)) ∈ TBG := inG2 (i := 204) rfl rfl
theorem q_445 : (Jvm.Cond.instanceMethod ({ cls := "WindJump$Law", name := "fillUntold", desc := "(I)V" } : Jvm.MethodName)) ∈ TBG := inG2 (i := 205) rfl rfl
theorem q_446 : (Jvm.Cond.selects "WindJump$Law" ({ cls := "WindJump$Law", name := "fillUntold", desc := "(I)V" } : Jvm.MethodName) ({ cls := "WindJump$Law", name := "fillUntold", desc := "(I)V" } : Jvm.MethodName)) ∈ TBG := inG2 (i := 206) rfl rfl
theorem q_447 : (Jvm.Cond.code ({ cls := "WindJump$Law", name := "fillUntold", desc := "(I)V" } : Jvm.MethodName) prog_4_method_5_code (2 : Nat) (Option.none : Option Jvm.ClassFile.FieldType)) ∈ TBG := inG2 (i := 207) rfl rfl
theorem q_448 : (Jvm.Cond.methodLink "WindJump$Law" (34 : Nat) ({ cls := "WindJump$Law", name := "add", desc := "(II)V" } : Jvm.MethodName)) ∈ TBG := inG2 (i := 208) rfl rfl
theorem q_449 : (Jvm.Cond.instanceMethod ({ cls := "WindJump$Law", name := "add", desc := "(II)V" } : Jvm.MethodName)) ∈ TBG := inG2 (i := 209) rfl rfl
theorem q_450 : (Jvm.Cond.selects "WindJump$Law" ({ cls := "WindJump$Law", name := "add", desc := "(II)V" } : Jvm.MethodName) ({ cls := "WindJump$Law", name := "add", desc := "(II)V" } : Jvm.MethodName)) ∈ TBG := inG2 (i := 210) rfl rfl
theorem q_451 : (Jvm.Cond.code ({ cls := "WindJump$Law", name := "add", desc := "(II)V" } : Jvm.MethodName) prog_4_method_3_code (3 : Nat) (Option.none : Option Jvm.ClassFile.FieldType)) ∈ TBG := inG2 (i := 211) rfl rfl
theorem q_452 : (Jvm.Cond.methodLink "WindJump$Law" (38 : Nat) ({ cls := "WindJump$Law", name := "endPiece", desc := "()V" } : Jvm.MethodName)) ∈ TBG := inG2 (i := 212) rfl rfl
theorem q_453 : (Jvm.Cond.instanceMethod ({ cls := "WindJump$Law", name := "endPiece", desc := "()V" } : Jvm.MethodName)) ∈ TBG := inG2 (i := 213) rfl rfl
theorem q_454 : (Jvm.Cond.selects "WindJump$Law" ({ cls := "WindJump$Law", name := "endPiece", desc := "()V" } : Jvm.MethodName) ({ cls := "WindJump$Law", name := "endPiece", desc := "()V" } : Jvm.MethodName)) ∈ TBG := inG2 (i := 214) rfl rfl
theorem q_455 : (Jvm.Cond.code ({ cls := "WindJump$Law", name := "endPiece", desc := "()V" } : Jvm.MethodName) prog_4_method_4_code (1 : Nat) (Option.none : Option Jvm.ClassFile.FieldType)) ∈ TBG := inG2 (i := 215) rfl rfl
theorem q_456 : (Jvm.Cond.methodLink "WindJump$Text" (92 : Nat) ({ cls := "WindJump$Law", name := "add", desc := "(II)V" } : Jvm.MethodName)) ∈ TBG := inG2 (i := 216) rfl rfl
theorem q_457 : (Jvm.Cond.methodLink "WindJump$Text" (96 : Nat) ({ cls := "WindJump$Law", name := "endPiece", desc := "()V" } : Jvm.MethodName)) ∈ TBG := inG2 (i := 217) rfl rfl
theorem q_458 : (Jvm.Cond.methodLink "WindJump" (98 : Nat) ({ cls := "WindJump", name := "beginAnew", desc := "()V" } : Jvm.MethodName)) ∈ TBG := inG2 (i := 218) rfl rfl
theorem q_460 : (Jvm.Cond.instanceMethod ({ cls := "WindJump", name := "beginAnew", desc := "()V" } : Jvm.MethodName)) ∈ TBG := inG2 (i := 220) rfl rfl
theorem q_461 : (Jvm.Cond.code ({ cls := "WindJump", name := "beginAnew", desc := "()V" } : Jvm.MethodName) prog_1_method_51_code (1 : Nat) (Option.none : Option Jvm.ClassFile.FieldType)) ∈ TBG := inG2 (i := 221) rfl rfl
theorem q_462 : (Jvm.Cond.methodLink "WindJump" (293 : Nat) ({ cls := "WindJump$Play", name := "begin", desc := "()V" } : Jvm.MethodName)) ∈ TBG := inG2 (i := 222) rfl rfl
theorem q_463 : (Jvm.Cond.instanceMethod ({ cls := "WindJump$Play", name := "begin", desc := "()V" } : Jvm.MethodName)) ∈ TBG := inG2 (i := 223) rfl rfl
theorem q_464 : (Jvm.Cond.selects "WindJump$Play" ({ cls := "WindJump$Play", name := "begin", desc := "()V" } : Jvm.MethodName) ({ cls := "WindJump$Play", name := "begin", desc := "()V" } : Jvm.MethodName)) ∈ TBG := inG2 (i := 224) rfl rfl
theorem q_465 : (Jvm.Cond.code ({ cls := "WindJump$Play", name := "begin", desc := "()V" } : Jvm.MethodName) prog_7_method_2_code (2 : Nat) (Option.none : Option Jvm.ClassFile.FieldType)) ∈ TBG := inG2 (i := 225) rfl rfl
theorem q_466 : (Jvm.Cond.methodLink "WindJump$Play" (55 : Nat) ({ cls := "java/util/Arrays", name := "fill", desc := "([II)V" } : Jvm.MethodName)) ∈ TBG := inG2 (i := 226) rfl rfl
theorem q_467 : (Jvm.Cond.methodLink "WindJump" (327 : Nat) ({ cls := "WindJump$Kept", name := "clear", desc := "()V" } : Jvm.MethodName)) ∈ TBG := inG2 (i := 227) rfl rfl
theorem q_468 : (Jvm.Cond.instanceMethod ({ cls := "WindJump$Kept", name := "clear", desc := "()V" } : Jvm.MethodName)) ∈ TBG := inG2 (i := 228) rfl rfl
theorem q_469 : (Jvm.Cond.selects "WindJump$Kept" ({ cls := "WindJump$Kept", name := "clear", desc := "()V" } : Jvm.MethodName) ({ cls := "WindJump$Kept", name := "clear", desc := "()V" } : Jvm.MethodName)) ∈ TBG := inG2 (i := 229) rfl rfl
theorem q_470 : (Jvm.Cond.code ({ cls := "WindJump$Kept", name := "clear", desc := "()V" } : Jvm.MethodName) prog_3_method_2_code (1 : Nat) (Option.none : Option Jvm.ClassFile.FieldType)) ∈ TBG := inG2 (i := 230) rfl rfl
theorem q_471 : (Jvm.Cond.methodLink "WindJump" (350 : Nat) ({ cls := "WindJump$Slots", name := "clear", desc := "()V" } : Jvm.MethodName)) ∈ TBG := inG2 (i := 231) rfl rfl
theorem q_472 : (Jvm.Cond.instanceMethod ({ cls := "WindJump$Slots", name := "clear", desc := "()V" } : Jvm.MethodName)) ∈ TBG := inG2 (i := 232) rfl rfl
theorem q_473 : (Jvm.Cond.selects "WindJump$Slots" ({ cls := "WindJump$Slots", name := "clear", desc := "()V" } : Jvm.MethodName) ({ cls := "WindJump$Slots", name := "clear", desc := "()V" } : Jvm.MethodName)) ∈ TBG := inG2 (i := 233) rfl rfl
theorem q_474 : (Jvm.Cond.code ({ cls := "WindJump$Slots", name := "clear", desc := "()V" } : Jvm.MethodName) prog_8_method_2_code (2 : Nat) (Option.none : Option Jvm.ClassFile.FieldType)) ∈ TBG := inG2 (i := 234) rfl rfl
theorem q_475 : (Jvm.Cond.fieldLink "WindJump" (10 : Nat) "WindJump" "tape" "LWindJump$Tape;") ∈ TBG := inG2 (i := 235) rfl rfl
theorem q_476 : (Jvm.Cond.fieldLink "WindJump" (21 : Nat) "WindJump" "tokens" "LWindJump$Tokens;") ∈ TBG := inG2 (i := 236) rfl rfl
theorem q_477 : (Jvm.Cond.fieldLink "WindJump" (30 : Nat) "WindJump" "parser" "LWindJump$Parser;") ∈ TBG := inG2 (i := 237) rfl rfl
theorem q_478 : (Jvm.Cond.fieldLink "WindJump" (37 : Nat) "WindJump" "draft" "LWindJump$Text;") ∈ TBG := inG2 (i := 238) rfl rfl
theorem q_479 : (Jvm.Cond.fieldLink "WindJump" (41 : Nat) "WindJump" "text" "LWindJump$Text;") ∈ TBG := inG2 (i := 239) rfl rfl
theorem q_480 : (Jvm.Cond.fieldLink "WindJump" (49 : Nat) "WindJump" "flight" "LWindJump$Flight;") ∈ TBG := inG3 (i := 0) rfl rfl
theorem q_481 : (Jvm.Cond.fieldLink "WindJump" (56 : Nat) "WindJump" "play" "LWindJump$Play;") ∈ TBG := inG3 (i := 1) rfl rfl
theorem q_482 : (Jvm.Cond.fieldLink "WindJump" (60 : Nat) "WindJump" "trial" "LWindJump$Play;") ∈ TBG := inG3 (i := 2) rfl rfl
theorem q_483 : (Jvm.Cond.fieldLink "WindJump" (66 : Nat) "WindJump" "undoable" "LWindJump$Kept;") ∈ TBG := inG3 (i := 3) rfl rfl
theorem q_484 : (Jvm.Cond.fieldLink "WindJump" (73 : Nat) "WindJump" "slots" "LWindJump$Slots;") ∈ TBG := inG3 (i := 4) rfl rfl
theorem q_485 : (Jvm.Cond.fieldLink "WindJump" (80 : Nat) "WindJump" "told" "LWindJump$Told;") ∈ TBG := inG3 (i := 5) rfl rfl
theorem q_486 : (Jvm.Cond.fieldLink "WindJump" (84 : Nat) "WindJump" "otherTotals" "[I") ∈ TBG := inG3 (i := 6) rfl rfl
theorem q_487 : (Jvm.Cond.fieldLink "WindJump" (88 : Nat) "WindJump" "faultPlace" "I") ∈ TBG := inG3 (i := 7) rfl rfl
theorem q_516 : (Jvm.Cond.instanceMethod ({ cls := "WindJump", name := "feed", desc := "(IIIII)I" } : Jvm.MethodName)) ∈ TBG := inG3 (i := 36) rfl rfl
theorem q_517 : (Jvm.Cond.selects "WindJump" ({ cls := "WindJump", name := "feed", desc := "(IIIII)I" } : Jvm.MethodName) ({ cls := "WindJump", name := "feed", desc := "(IIIII)I" } : Jvm.MethodName)) ∈ TBG := inG3 (i := 37) rfl rfl
theorem q_518 : (Jvm.Cond.code ({ cls := "WindJump", name := "feed", desc := "(IIIII)I" } : Jvm.MethodName) prog_1_method_2_code (6 : Nat) (Option.some Jvm.ClassFile.FieldType.int)) ∈ TBG := inG3 (i := 38) rfl rfl
theorem q_519 : (Jvm.Cond.methodLink "WindJump" (101 : Nat) ({ cls := "WindJump$Tape", name := "hasRoom", desc := "(I)Z" } : Jvm.MethodName)) ∈ TBG := inG3 (i := 39) rfl rfl
theorem q_520 : (Jvm.Cond.instanceMethod ({ cls := "WindJump$Tape", name := "hasRoom", desc := "(I)Z" } : Jvm.MethodName)) ∈ TBG := inG3 (i := 40) rfl rfl
theorem q_521 : (Jvm.Cond.selects "WindJump$Tape" ({ cls := "WindJump$Tape", name := "hasRoom", desc := "(I)Z" } : Jvm.MethodName) ({ cls := "WindJump$Tape", name := "hasRoom", desc := "(I)Z" } : Jvm.MethodName)) ∈ TBG := inG3 (i := 41) rfl rfl
theorem q_522 : (Jvm.Cond.code ({ cls := "WindJump$Tape", name := "hasRoom", desc := "(I)Z" } : Jvm.MethodName) prog_9_method_2_code (2 : Nat) (Option.some Jvm.ClassFile.FieldType.boolean)) ∈ TBG := inG3 (i := 42) rfl rfl
theorem q_523 : (Jvm.Cond.methodLink "WindJump" (105 : Nat) ({ cls := "WindJump$Tape", name := "put", desc := "(I)V" } : Jvm.MethodName)) ∈ TBG := inG3 (i := 43) rfl rfl
theorem q_524 : (Jvm.Cond.instanceMethod ({ cls := "WindJump$Tape", name := "put", desc := "(I)V" } : Jvm.MethodName)) ∈ TBG := inG3 (i := 44) rfl rfl
theorem q_525 : (Jvm.Cond.selects "WindJump$Tape" ({ cls := "WindJump$Tape", name := "put", desc := "(I)V" } : Jvm.MethodName) ({ cls := "WindJump$Tape", name := "put", desc := "(I)V" } : Jvm.MethodName)) ∈ TBG := inG3 (i := 45) rfl rfl
theorem q_526 : (Jvm.Cond.code ({ cls := "WindJump$Tape", name := "put", desc := "(I)V" } : Jvm.MethodName) prog_9_method_3_code (3 : Nat) (Option.none : Option Jvm.ClassFile.FieldType)) ∈ TBG := inG3 (i := 46) rfl rfl
theorem q_527 : (Jvm.Cond.methodLink "WindJump$Tape" (19 : Nat) ({ cls := "WindJump$Tape", name := "hasRoom", desc := "(I)Z" } : Jvm.MethodName)) ∈ TBG := inG3 (i := 47) rfl rfl
theorem q_529 : (Jvm.Cond.instanceMethod ({ cls := "WindJump", name := "back", desc := "(I)I" } : Jvm.MethodName)) ∈ TBG := inG3 (i := 49) rfl rfl
theorem q_530 : (Jvm.Cond.selects "WindJump" ({ cls := "WindJump", name := "back", desc := "(I)I" } : Jvm.MethodName) ({ cls := "WindJump", name := "back", desc := "(I)I" } : Jvm.MethodName)) ∈ TBG := inG3 (i := 50) rfl rfl
theorem q_531 : (Jvm.Cond.code ({ cls := "WindJump", name := "back", desc := "(I)I" } : Jvm.MethodName) prog_1_method_3_code (2 : Nat) (Option.some Jvm.ClassFile.FieldType.int)) ∈ TBG := inG3 (i := 51) rfl rfl
theorem q_532 : (Jvm.Cond.methodLink "WindJump" (112 : Nat) ({ cls := "WindJump", name := "within", desc := "(III)Z" } : Jvm.MethodName)) ∈ TBG := inG3 (i := 52) rfl rfl
theorem q_533 : (Jvm.Cond.static ({ cls := "WindJump", name := "within", desc := "(III)Z" } : Jvm.MethodName)) ∈ TBG := inG3 (i := 53) rfl rfl
theorem q_534 : (Jvm.Cond.code ({ cls := "WindJump", name := "within", desc := "(III)Z" } : Jvm.MethodName) prog_1_method_43_code (3 : Nat) (Option.some Jvm.ClassFile.FieldType.boolean)) ∈ TBG := inG3 (i := 54) rfl rfl
theorem q_536 : (Jvm.Cond.instanceMethod ({ cls := "WindJump", name := "read", desc := "()I" } : Jvm.MethodName)) ∈ TBG := inG3 (i := 56) rfl rfl
theorem q_537 : (Jvm.Cond.selects "WindJump" ({ cls := "WindJump", name := "read", desc := "()I" } : Jvm.MethodName) ({ cls := "WindJump", name := "read", desc := "()I" } : Jvm.MethodName)) ∈ TBG := inG3 (i := 57) rfl rfl
theorem q_538 : (Jvm.Cond.code ({ cls := "WindJump", name := "read", desc := "()I" } : Jvm.MethodName) prog_1_method_4_code (2 : Nat) (Option.some Jvm.ClassFile.FieldType.int)) ∈ TBG := inG3 (i := 58) rfl rfl
theorem q_539 : (Jvm.Cond.methodLink "WindJump" (116 : Nat) ({ cls := "WindJump$Tokens", name := "scan", desc := "()V" } : Jvm.MethodName)) ∈ TBG := inG3 (i := 59) rfl rfl
theorem q_540 : (Jvm.Cond.instanceMethod ({ cls := "WindJump$Tokens", name := "scan", desc := "()V" } : Jvm.MethodName)) ∈ TBG := inG3 (i := 60) rfl rfl
theorem q_541 : (Jvm.Cond.selects "WindJump$Tokens" ({ cls := "WindJump$Tokens", name := "scan", desc := "()V" } : Jvm.MethodName) ({ cls := "WindJump$Tokens", name := "scan", desc := "()V" } : Jvm.MethodName)) ∈ TBG := inG3 (i := 61) rfl rfl
theorem q_542 : (Jvm.Cond.code ({ cls := "WindJump$Tokens", name := "scan", desc := "()V" } : Jvm.MethodName) prog_11_method_2_code (3 : Nat) (Option.none : Option Jvm.ClassFile.FieldType)) ∈ TBG := inG3 (i := 62) rfl rfl
theorem q_543 : (Jvm.Cond.methodLink "WindJump$Tokens" (29 : Nat) ({ cls := "WindJump$Tokens", name := "skipBlanks", desc := "()V" } : Jvm.MethodName)) ∈ TBG := inG3 (i := 63) rfl rfl
theorem q_545 : (Jvm.Cond.instanceMethod ({ cls := "WindJump$Tokens", name := "skipBlanks", desc := "()V" } : Jvm.MethodName)) ∈ TBG := inG3 (i := 65) rfl rfl
theorem q_546 : (Jvm.Cond.code ({ cls := "WindJump$Tokens", name := "skipBlanks", desc := "()V" } : Jvm.MethodName) prog_11_method_4_code (1 : Nat) (Option.none : Option Jvm.ClassFile.FieldType)) ∈ TBG := inG3 (i := 66) rfl rfl
theorem q_547 : (Jvm.Cond.methodLink "WindJump$Tokens" (36 : Nat) ({ cls := "WindJump$Tape", name := "byteAt", desc := "(I)I" } : Jvm.MethodName)) ∈ TBG := inG3 (i := 67) rfl rfl
theorem q_548 : (Jvm.Cond.instanceMethod ({ cls := "WindJump$Tape", name := "byteAt", desc := "(I)I" } : Jvm.MethodName)) ∈ TBG := inG3 (i := 68) rfl rfl
theorem q_549 : (Jvm.Cond.selects "WindJump$Tape" ({ cls := "WindJump$Tape", name := "byteAt", desc := "(I)I" } : Jvm.MethodName) ({ cls := "WindJump$Tape", name := "byteAt", desc := "(I)I" } : Jvm.MethodName)) ∈ TBG := inG3 (i := 69) rfl rfl
theorem q_550 : (Jvm.Cond.code ({ cls := "WindJump$Tape", name := "byteAt", desc := "(I)I" } : Jvm.MethodName) prog_9_method_4_code (2 : Nat) (Option.some Jvm.ClassFile.FieldType.int)) ∈ TBG := inG3 (i := 70) rfl rfl
theorem q_551 : (Jvm.Cond.methodLink "WindJump$Tokens" (45 : Nat) ({ cls := "WindJump$Tokens", name := "isBlank", desc := "(I)Z" } : Jvm.MethodName)) ∈ TBG := inG3 (i := 71) rfl rfl
theorem q_552 : (Jvm.Cond.static ({ cls := "WindJump$Tokens", name := "isBlank", desc := "(I)Z" } : Jvm.MethodName)) ∈ TBG := inG3 (i := 72) rfl rfl
theorem q_553 : (Jvm.Cond.code ({ cls := "WindJump$Tokens", name := "isBlank", desc := "(I)Z" } : Jvm.MethodName) prog_11_method_9_code (1 : Nat) (Option.some Jvm.ClassFile.FieldType.boolean)) ∈ TBG := inG3 (i := 73) rfl rfl
theorem q_554 : (Jvm.Cond.methodLink "WindJump$Tokens" (32 : Nat) ({ cls := "WindJump$Tokens", name := "scanOne", desc := "(I)V" } : Jvm.MethodName)) ∈ TBG := inG3 (i := 74) rfl rfl
theorem q_556 : (Jvm.Cond.instanceMethod ({ cls := "WindJump$Tokens", name := "scanOne", desc := "(I)V" } : Jvm.MethodName)) ∈ TBG := inG3 (i := 76) rfl rfl
theorem q_557 : (Jvm.Cond.code ({ cls := "WindJump$Tokens", name := "scanOne", desc := "(I)V" } : Jvm.MethodName) prog_11_method_5_code (3 : Nat) (Option.none : Option Jvm.ClassFile.FieldType)) ∈ TBG := inG3 (i := 77) rfl rfl
theorem q_558 : (Jvm.Cond.methodLink "WindJump$Tokens" (49 : Nat) ({ cls := "WindJump$Tokens", name := "isLetter", desc := "(I)Z" } : Jvm.MethodName)) ∈ TBG := inG3 (i := 78) rfl rfl
theorem q_559 : (Jvm.Cond.static ({ cls := "WindJump$Tokens", name := "isLetter", desc := "(I)Z" } : Jvm.MethodName)) ∈ TBG := inG3 (i := 79) rfl rfl
theorem q_560 : (Jvm.Cond.code ({ cls := "WindJump$Tokens", name := "isLetter", desc := "(I)Z" } : Jvm.MethodName) prog_11_method_10_code (1 : Nat) (Option.some Jvm.ClassFile.FieldType.boolean)) ∈ TBG := inG3 (i := 80) rfl rfl
theorem q_561 : (Jvm.Cond.methodLink "WindJump$Tokens" (52 : Nat) ({ cls := "WindJump$Tokens", name := "scanName", desc := "(I)V" } : Jvm.MethodName)) ∈ TBG := inG3 (i := 81) rfl rfl
theorem q_563 : (Jvm.Cond.instanceMethod ({ cls := "WindJump$Tokens", name := "scanName", desc := "(I)V" } : Jvm.MethodName)) ∈ TBG := inG3 (i := 83) rfl rfl
theorem q_564 : (Jvm.Cond.code ({ cls := "WindJump$Tokens", name := "scanName", desc := "(I)V" } : Jvm.MethodName) prog_11_method_6_code (3 : Nat) (Option.none : Option Jvm.ClassFile.FieldType)) ∈ TBG := inG3 (i := 84) rfl rfl
theorem q_565 : (Jvm.Cond.methodLink "WindJump$Tokens" (68 : Nat) ({ cls := "WindJump$Tokens", name := "kindOfName", desc := "(II)I" } : Jvm.MethodName)) ∈ TBG := inG3 (i := 85) rfl rfl
theorem q_567 : (Jvm.Cond.instanceMethod ({ cls := "WindJump$Tokens", name := "kindOfName", desc := "(II)I" } : Jvm.MethodName)) ∈ TBG := inG3 (i := 87) rfl rfl
theorem q_568 : (Jvm.Cond.code ({ cls := "WindJump$Tokens", name := "kindOfName", desc := "(II)I" } : Jvm.MethodName) prog_11_method_8_code (8 : Nat) (Option.some Jvm.ClassFile.FieldType.int)) ∈ TBG := inG3 (i := 88) rfl rfl
theorem q_570 : (Jvm.Cond.methodLink "WindJump$Tokens" (74 : Nat) ({ cls := "java/lang/String", name := "length", desc := "()I" } : Jvm.MethodName)) ∈ TBG := inG3 (i := 90) rfl rfl
theorem q_571 : (Jvm.Cond.instanceMethod ({ cls := "java/lang/String", name := "length", desc := "()I" } : Jvm.MethodName)) ∈ TBG := inG3 (i := 91) rfl rfl
theorem q_572 : (Jvm.Cond.selects "java/lang/String" ({ cls := "java/lang/String", name := "length", desc := "()I" } : Jvm.MethodName) ({ cls := "java/lang/String", name := "length", desc := "()I" } : Jvm.MethodName)) ∈ TBG := inG3 (i := 92) rfl rfl
theorem q_573 : (Jvm.Cond.code ({ cls := "java/lang/String", name := "length", desc := "()I" } : Jvm.MethodName) prog_17_method_54_code (1 : Nat) (Option.some Jvm.ClassFile.FieldType.int)) ∈ TBG := inG3 (i := 93) rfl rfl
theorem q_574 : (Jvm.Cond.methodLink "java/lang/String" (335 : Nat) ({ cls := "java/lang/String", name := "coder", desc := "()B" } : Jvm.MethodName)) ∈ TBG := inG3 (i := 94) rfl rfl
theorem q_575 : (Jvm.Cond.instanceMethod ({ cls := "java/lang/String", name := "coder", desc := "()B" } : Jvm.MethodName)) ∈ TBG := inG3 (i := 95) rfl rfl
theorem q_576 : (Jvm.Cond.selects "java/lang/String" ({ cls := "java/lang/String", name := "coder", desc := "()B" } : Jvm.MethodName) ({ cls := "java/lang/String", name := "coder", desc := "()B" } : Jvm.MethodName)) ∈ TBG := inG3 (i := 96) rfl rfl
theorem q_577 : (Jvm.Cond.code ({ cls := "java/lang/String", name := "coder", desc := "()B" } : Jvm.MethodName) prog_17_method_152_code (1 : Nat) (Option.some Jvm.ClassFile.FieldType.byte)) ∈ TBG := inG3 (i := 97) rfl rfl
theorem q_578 : (Jvm.Cond.fieldLink "java/lang/String" (38 : Nat) "java/lang/String" "COMPACT_STRINGS" "Z") ∈ TBG := inG3 (i := 98) rfl rfl
theorem q_580 : (Jvm.Cond.methodLink "WindJump$Tokens" (77 : Nat) ({ cls := "java/lang/String", name := "charAt", desc := "(I)C" } : Jvm.MethodName)) ∈ TBG := inG3 (i := 100) rfl rfl
theorem q_581 : (Jvm.Cond.instanceMethod ({ cls := "java/lang/String", name := "charAt", desc := "(I)C" } : Jvm.MethodName)) ∈ TBG := inG3 (i := 101) rfl rfl
theorem q_582 : (Jvm.Cond.selects "java/lang/String" ({ cls := "java/lang/String", name := "charAt", desc := "(I)C" } : Jvm.MethodName) ({ cls := "java/lang/String", name := "charAt", desc := "(I)C" } : Jvm.MethodName)) ∈ TBG := inG3 (i := 102) rfl rfl
theorem q_583 : (Jvm.Cond.code ({ cls := "java/lang/String", name := "charAt", desc := "(I)C" } : Jvm.MethodName) prog_17_method_56_code (2 : Nat) (Option.some Jvm.ClassFile.FieldType.char)) ∈ TBG := inG3 (i := 103) rfl rfl
theorem q_584 : (Jvm.Cond.methodLink "java/lang/String" (492 : Nat) ({ cls := "java/lang/String", name := "isLatin1", desc := "()Z" } : Jvm.MethodName)) ∈ TBG := inG3 (i := 104) rfl rfl
theorem q_585 : (Jvm.Cond.instanceMethod ({ cls := "java/lang/String", name := "isLatin1", desc := "()Z" } : Jvm.MethodName)) ∈ TBG := inG3 (i := 105) rfl rfl
theorem q_586 : (Jvm.Cond.selects "java/lang/String" ({ cls := "java/lang/String", name := "isLatin1", desc := "()Z" } : Jvm.MethodName) ({ cls := "java/lang/String", name := "isLatin1", desc := "()Z" } : Jvm.MethodName)) ∈ TBG := inG3 (i := 106) rfl rfl
theorem q_587 : (Jvm.Cond.code ({ cls := "java/lang/String", name := "isLatin1", desc := "()Z" } : Jvm.MethodName) prog_17_method_154_code (1 : Nat) (Option.some Jvm.ClassFile.FieldType.boolean)) ∈ TBG := inG3 (i := 107) rfl rfl
theorem q_588 : (Jvm.Cond.methodLink "java/lang/String" (495 : Nat) ({ cls := "java/lang/StringLatin1", name := "charAt", desc := "([BI)C" } : Jvm.MethodName)) ∈ TBG := inG3 (i := 108) rfl rfl
theorem q_589 : (Jvm.Cond.static ({ cls := "java/lang/StringLatin1", name := "charAt", desc := "([BI)C" } : Jvm.MethodName)) ∈ TBG := inG3 (i := 109) rfl rfl
theorem q_590 : (Jvm.Cond.code ({ cls := "java/lang/StringLatin1", name := "charAt", desc := "([BI)C" } : Jvm.MethodName) prog_18_method_2_code (2 : Nat) (Option.some Jvm.ClassFile.FieldType.char)) ∈ TBG := inG3 (i := 110) rfl rfl
theorem q_591 : (Jvm.Cond.methodLink "java/lang/StringLatin1" (9 : Nat) ({ cls := "java/lang/String", name := "checkIndex", desc := "(II)V" } : Jvm.MethodName)) ∈ TBG := inG3 (i := 111) rfl rfl
theorem q_592 : (Jvm.Cond.static ({ cls := "java/lang/String", name := "checkIndex", desc := "(II)V" } : Jvm.MethodName)) ∈ TBG := inG3 (i := 112) rfl rfl
theorem q_593 : (Jvm.Cond.code ({ cls := "java/lang/String", name := "checkIndex", desc := "(II)V" } : Jvm.MethodName) prog_17_method_155_code (2 : Nat) (Option.none : Option Jvm.ClassFile.FieldType)) ∈ TBG := inG3 (i := 113) rfl rfl
theorem q_594 : (Jvm.Cond.fieldLink "java/lang/String" (1053 : Nat) "jdk/internal/util/Preconditions" "SIOOBE_FORMATTER" "Ljava/util/function/BiFunction;") ∈ TBG := inG3 (i := 114) rfl rfl
theorem q_596 : (Jvm.Cond.methodLink "java/lang/String" (1059 : Nat) ({ cls := "jdk/internal/util/Preconditions", name := "checkIndex", desc := "(IILjava/util/function/BiFunction;)I" } : Jvm.MethodName)) ∈ TBG := inG3 (i := 116) rfl rfl
theorem q_597 : (Jvm.Cond.static ({ cls := "jdk/internal/util/Preconditions", name := "checkIndex", desc := "(IILjava/util/function/BiFunction;)I" } : Jvm.MethodName)) ∈ TBG := inG3 (i := 117) rfl rfl
theorem q_598 : (Jvm.Cond.code ({ cls := "jdk/internal/util/Preconditions", name := "checkIndex", desc := "(IILjava/util/function/BiFunction;)I" } : Jvm.MethodName) prog_22_method_11_code (3 : Nat) (Option.some Jvm.ClassFile.FieldType.int)) ∈ TBG := inG3 (i := 118) rfl rfl
theorem q_618 : (Jvm.Cond.methodLink "WindJump$Tokens" (55 : Nat) ({ cls := "WindJump$Tokens", name := "isDigit", desc := "(I)Z" } : Jvm.MethodName)) ∈ TBG := inG3 (i := 138) rfl rfl
theorem q_619 : (Jvm.Cond.static ({ cls := "WindJump$Tokens", name := "isDigit", desc := "(I)Z" } : Jvm.MethodName)) ∈ TBG := inG3 (i := 139) rfl rfl
theorem q_620 : (Jvm.Cond.code ({ cls := "WindJump$Tokens", name := "isDigit", desc := "(I)Z" } : Jvm.MethodName) prog_11_method_11_code (1 : Nat) (Option.some Jvm.ClassFile.FieldType.boolean)) ∈ TBG := inG3 (i := 140) rfl rfl
theorem q_621 : (Jvm.Cond.methodLink "WindJump$Tokens" (58 : Nat) ({ cls := "WindJump$Tokens", name := "scanInt", desc := "(I)V" } : Jvm.MethodName)) ∈ TBG := inG3 (i := 141) rfl rfl
theorem q_623 : (Jvm.Cond.instanceMethod ({ cls := "WindJump$Tokens", name := "scanInt", desc := "(I)V" } : Jvm.MethodName)) ∈ TBG := inG3 (i := 143) rfl rfl
theorem q_624 : (Jvm.Cond.code ({ cls := "WindJump$Tokens", name := "scanInt", desc := "(I)V" } : Jvm.MethodName) prog_11_method_7_code (3 : Nat) (Option.none : Option Jvm.ClassFile.FieldType)) ∈ TBG := inG3 (i := 144) rfl rfl
theorem q_626 : (Jvm.Cond.methodLink "WindJump$Tokens" (63 : Nat) ({ cls := "java/lang/String", name := "indexOf", desc := "(I)I" } : Jvm.MethodName)) ∈ TBG := inG3 (i := 146) rfl rfl
theorem q_627 : (Jvm.Cond.instanceMethod ({ cls := "java/lang/String", name := "indexOf", desc := "(I)I" } : Jvm.MethodName)) ∈ TBG := inG3 (i := 147) rfl rfl
theorem q_628 : (Jvm.Cond.selects "java/lang/String" ({ cls := "java/lang/String", name := "indexOf", desc := "(I)I" } : Jvm.MethodName) ({ cls := "java/lang/String", name := "indexOf", desc := "(I)I" } : Jvm.MethodName)) ∈ TBG := inG3 (i := 148) rfl rfl
theorem q_629 : (Jvm.Cond.code ({ cls := "java/lang/String", name := "indexOf", desc := "(I)I" } : Jvm.MethodName) prog_17_method_79_code (2 : Nat) (Option.some Jvm.ClassFile.FieldType.int)) ∈ TBG := inG3 (i := 149) rfl rfl
theorem q_630 : (Jvm.Cond.methodLink "java/lang/String" (633 : Nat) ({ cls := "java/lang/String", name := "indexOf", desc := "(II)I" } : Jvm.MethodName)) ∈ TBG := inG3 (i := 150) rfl rfl
theorem q_631 : (Jvm.Cond.instanceMethod ({ cls := "java/lang/String", name := "indexOf", desc := "(II)I" } : Jvm.MethodName)) ∈ TBG := inG3 (i := 151) rfl rfl
theorem q_632 : (Jvm.Cond.selects "java/lang/String" ({ cls := "java/lang/String", name := "indexOf", desc := "(II)I" } : Jvm.MethodName) ({ cls := "java/lang/String", name := "indexOf", desc := "(II)I" } : Jvm.MethodName)) ∈ TBG := inG3 (i := 152) rfl rfl
theorem q_633 : (Jvm.Cond.code ({ cls := "java/lang/String", name := "indexOf", desc := "(II)I" } : Jvm.MethodName) prog_17_method_80_code (3 : Nat) (Option.some Jvm.ClassFile.FieldType.int)) ∈ TBG := inG3 (i := 153) rfl rfl
theorem q_634 : (Jvm.Cond.methodLink "java/lang/String" (505 : Nat) ({ cls := "java/lang/String", name := "length", desc := "()I" } : Jvm.MethodName)) ∈ TBG := inG3 (i := 154) rfl rfl
theorem q_635 : (Jvm.Cond.methodLink "java/lang/String" (637 : Nat) ({ cls := "java/lang/StringLatin1", name := "indexOf", desc := "([BIII)I" } : Jvm.MethodName)) ∈ TBG := inG3 (i := 155) rfl rfl
theorem q_636 : (Jvm.Cond.static ({ cls := "java/lang/StringLatin1", name := "indexOf", desc := "([BIII)I" } : Jvm.MethodName)) ∈ TBG := inG3 (i := 156) rfl rfl
theorem q_637 : (Jvm.Cond.code ({ cls := "java/lang/StringLatin1", name := "indexOf", desc := "([BIII)I" } : Jvm.MethodName) prog_18_method_22_code (4 : Nat) (Option.some Jvm.ClassFile.FieldType.int)) ∈ TBG := inG3 (i := 157) rfl rfl
theorem q_638 : (Jvm.Cond.methodLink "java/lang/StringLatin1" (88 : Nat) ({ cls := "java/lang/StringLatin1", name := "canEncode", desc := "(I)Z" } : Jvm.MethodName)) ∈ TBG := inG3 (i := 158) rfl rfl
theorem q_639 : (Jvm.Cond.static ({ cls := "java/lang/StringLatin1", name := "canEncode", desc := "(I)Z" } : Jvm.MethodName)) ∈ TBG := inG3 (i := 159) rfl rfl
theorem q_640 : (Jvm.Cond.code ({ cls := "java/lang/StringLatin1", name := "canEncode", desc := "(I)Z" } : Jvm.MethodName) prog_18_method_4_code (1 : Nat) (Option.some Jvm.ClassFile.FieldType.boolean)) ∈ TBG := inG3 (i := 160) rfl rfl
theorem q_641 : (Jvm.Cond.methodLink "java/lang/StringLatin1" (92 : Nat) ({ cls := "java/lang/Math", name := "max", desc := "(II)I" } : Jvm.MethodName)) ∈ TBG := inG3 (i := 161) rfl rfl
theorem q_642 : (Jvm.Cond.static ({ cls := "java/lang/Math", name := "max", desc := "(II)I" } : Jvm.MethodName)) ∈ TBG := inG3 (i := 162) rfl rfl
theorem q_643 : (Jvm.Cond.code ({ cls := "java/lang/Math", name := "max", desc := "(II)I" } : Jvm.MethodName) prog_16_method_65_code (2 : Nat) (Option.some Jvm.ClassFile.FieldType.int)) ∈ TBG := inG3 (i := 163) rfl rfl
theorem q_644 : (Jvm.Cond.methodLink "java/lang/StringLatin1" (38 : Nat) ({ cls := "java/lang/Math", name := "min", desc := "(II)I" } : Jvm.MethodName)) ∈ TBG := inG3 (i := 164) rfl rfl
theorem q_645 : (Jvm.Cond.static ({ cls := "java/lang/Math", name := "min", desc := "(II)I" } : Jvm.MethodName)) ∈ TBG := inG3 (i := 165) rfl rfl
theorem q_646 : (Jvm.Cond.code ({ cls := "java/lang/Math", name := "min", desc := "(II)I" } : Jvm.MethodName) prog_16_method_69_code (2 : Nat) (Option.some Jvm.ClassFile.FieldType.int)) ∈ TBG := inG3 (i := 166) rfl rfl
theorem q_647 : (Jvm.Cond.methodLink "java/lang/StringLatin1" (95 : Nat) ({ cls := "java/lang/StringLatin1", name := "indexOfChar", desc := "([BIII)I" } : Jvm.MethodName)) ∈ TBG := inG3 (i := 167) rfl rfl
theorem q_648 : (Jvm.Cond.static ({ cls := "java/lang/StringLatin1", name := "indexOfChar", desc := "([BIII)I" } : Jvm.MethodName)) ∈ TBG := inG3 (i := 168) rfl rfl
theorem q_649 : (Jvm.Cond.code ({ cls := "java/lang/StringLatin1", name := "indexOfChar", desc := "([BIII)I" } : Jvm.MethodName) prog_18_method_23_code (6 : Nat) (Option.some Jvm.ClassFile.FieldType.int)) ∈ TBG := inG3 (i := 169) rfl rfl
theorem q_685 : (Jvm.Cond.methodLink "WindJump" (119 : Nat) ({ cls := "WindJump$Parser", name := "parse", desc := "(LWindJump$Text;)I" } : Jvm.MethodName)) ∈ TBG := inG3 (i := 205) rfl rfl
theorem q_686 : (Jvm.Cond.instanceMethod ({ cls := "WindJump$Parser", name := "parse", desc := "(LWindJump$Text;)I" } : Jvm.MethodName)) ∈ TBG := inG3 (i := 206) rfl rfl
theorem q_687 : (Jvm.Cond.selects "WindJump$Parser" ({ cls := "WindJump$Parser", name := "parse", desc := "(LWindJump$Text;)I" } : Jvm.MethodName) ({ cls := "WindJump$Parser", name := "parse", desc := "(LWindJump$Text;)I" } : Jvm.MethodName)) ∈ TBG := inG3 (i := 207) rfl rfl
theorem q_688 : (Jvm.Cond.code ({ cls := "WindJump$Parser", name := "parse", desc := "(LWindJump$Text;)I" } : Jvm.MethodName) prog_5_method_2_code (4 : Nat) (Option.some Jvm.ClassFile.FieldType.int)) ∈ TBG := inG3 (i := 208) rfl rfl
theorem q_689 : (Jvm.Cond.methodLink "WindJump$Parser" (38 : Nat) ({ cls := "WindJump$Text", name := "clear", desc := "()V" } : Jvm.MethodName)) ∈ TBG := inG3 (i := 209) rfl rfl
theorem q_690 : (Jvm.Cond.methodLink "WindJump$Parser" (48 : Nat) ({ cls := "WindJump$Parser", name := "readTell", desc := "(LWindJump$Text;)Z" } : Jvm.MethodName)) ∈ TBG := inG3 (i := 210) rfl rfl
theorem q_692 : (Jvm.Cond.instanceMethod ({ cls := "WindJump$Parser", name := "readTell", desc := "(LWindJump$Text;)Z" } : Jvm.MethodName)) ∈ TBG := inG3 (i := 212) rfl rfl
theorem q_693 : (Jvm.Cond.code ({ cls := "WindJump$Parser", name := "readTell", desc := "(LWindJump$Text;)Z" } : Jvm.MethodName) prog_5_method_3_code (4 : Nat) (Option.some Jvm.ClassFile.FieldType.boolean)) ∈ TBG := inG3 (i := 213) rfl rfl
theorem q_694 : (Jvm.Cond.methodLink "WindJump$Parser" (55 : Nat) ({ cls := "WindJump$Parser", name := "fails", desc := "(I)Z" } : Jvm.MethodName)) ∈ TBG := inG3 (i := 214) rfl rfl
theorem q_696 : (Jvm.Cond.instanceMethod ({ cls := "WindJump$Parser", name := "fails", desc := "(I)Z" } : Jvm.MethodName)) ∈ TBG := inG3 (i := 216) rfl rfl
theorem q_697 : (Jvm.Cond.code ({ cls := "WindJump$Parser", name := "fails", desc := "(I)Z" } : Jvm.MethodName) prog_5_method_16_code (2 : Nat) (Option.some Jvm.ClassFile.FieldType.boolean)) ∈ TBG := inG3 (i := 217) rfl rfl
theorem q_698 : (Jvm.Cond.methodLink "WindJump$Parser" (63 : Nat) ({ cls := "WindJump$People", name := "isFull", desc := "(I)Z" } : Jvm.MethodName)) ∈ TBG := inG3 (i := 218) rfl rfl
theorem q_699 : (Jvm.Cond.instanceMethod ({ cls := "WindJump$People", name := "isFull", desc := "(I)Z" } : Jvm.MethodName)) ∈ TBG := inG3 (i := 219) rfl rfl
theorem q_700 : (Jvm.Cond.selects "WindJump$People" ({ cls := "WindJump$People", name := "isFull", desc := "(I)Z" } : Jvm.MethodName) ({ cls := "WindJump$People", name := "isFull", desc := "(I)Z" } : Jvm.MethodName)) ∈ TBG := inG3 (i := 220) rfl rfl
theorem q_701 : (Jvm.Cond.code ({ cls := "WindJump$People", name := "isFull", desc := "(I)Z" } : Jvm.MethodName) prog_6_method_3_code (2 : Nat) (Option.some Jvm.ClassFile.FieldType.boolean)) ∈ TBG := inG3 (i := 221) rfl rfl
theorem q_702 : (Jvm.Cond.methodLink "WindJump$Parser" (68 : Nat) ({ cls := "WindJump$Parser", name := "takes", desc := "(I)Z" } : Jvm.MethodName)) ∈ TBG := inG3 (i := 222) rfl rfl
theorem q_704 : (Jvm.Cond.instanceMethod ({ cls := "WindJump$Parser", name := "takes", desc := "(I)Z" } : Jvm.MethodName)) ∈ TBG := inG3 (i := 224) rfl rfl
theorem q_705 : (Jvm.Cond.code ({ cls := "WindJump$Parser", name := "takes", desc := "(I)Z" } : Jvm.MethodName) prog_5_method_15_code (3 : Nat) (Option.some Jvm.ClassFile.FieldType.boolean)) ∈ TBG := inG3 (i := 225) rfl rfl
theorem q_706 : (Jvm.Cond.methodLink "WindJump$Parser" (71 : Nat) ({ cls := "WindJump$Parser", name := "readHill", desc := "(LWindJump$Text;)Z" } : Jvm.MethodName)) ∈ TBG := inG3 (i := 226) rfl rfl
theorem q_708 : (Jvm.Cond.instanceMethod ({ cls := "WindJump$Parser", name := "readHill", desc := "(LWindJump$Text;)Z" } : Jvm.MethodName)) ∈ TBG := inG3 (i := 228) rfl rfl
theorem q_709 : (Jvm.Cond.code ({ cls := "WindJump$Parser", name := "readHill", desc := "(LWindJump$Text;)Z" } : Jvm.MethodName) prog_5_method_4_code (3 : Nat) (Option.some Jvm.ClassFile.FieldType.boolean)) ∈ TBG := inG3 (i := 229) rfl rfl
theorem q_710 : (Jvm.Cond.methodLink "WindJump$Parser" (112 : Nat) ({ cls := "WindJump$Parser", name := "readInt", desc := "(II)Z" } : Jvm.MethodName)) ∈ TBG := inG3 (i := 230) rfl rfl
theorem q_712 : (Jvm.Cond.instanceMethod ({ cls := "WindJump$Parser", name := "readInt", desc := "(II)Z" } : Jvm.MethodName)) ∈ TBG := inG3 (i := 232) rfl rfl
theorem q_713 : (Jvm.Cond.code ({ cls := "WindJump$Parser", name := "readInt", desc := "(II)Z" } : Jvm.MethodName) prog_5_method_10_code (4 : Nat) (Option.some Jvm.ClassFile.FieldType.boolean)) ∈ TBG := inG3 (i := 233) rfl rfl
theorem q_714 : (Jvm.Cond.methodLinkNest "WindJump$Parser" (173 : Nat) ({ cls := "WindJump", name := "within", desc := "(III)Z" } : Jvm.MethodName) "WindJump") ∈ NWL := inN3 (i := 234) rfl rfl
theorem q_715 : (Jvm.Cond.methodLink "WindJump$Parser" (167 : Nat) ({ cls := "WindJump$Parser", name := "notes", desc := "(II)V" } : Jvm.MethodName)) ∈ TBG := inG3 (i := 235) rfl rfl
theorem q_717 : (Jvm.Cond.instanceMethod ({ cls := "WindJump$Parser", name := "notes", desc := "(II)V" } : Jvm.MethodName)) ∈ TBG := inG3 (i := 237) rfl rfl
theorem q_718 : (Jvm.Cond.code ({ cls := "WindJump$Parser", name := "notes", desc := "(II)V" } : Jvm.MethodName) prog_5_method_17_code (3 : Nat) (Option.none : Option Jvm.ClassFile.FieldType)) ∈ TBG := inG3 (i := 238) rfl rfl
theorem q_719 : (Jvm.Cond.methodLink "WindJump$Parser" (78 : Nat) ({ cls := "WindJump$Parser", name := "readLaw", desc := "(LWindJump$Law;)Z" } : Jvm.MethodName)) ∈ TBG := inG3 (i := 239) rfl rfl
theorem q_721 : (Jvm.Cond.instanceMethod ({ cls := "WindJump$Parser", name := "readLaw", desc := "(LWindJump$Law;)Z" } : Jvm.MethodName)) ∈ TBG := inG4 (i := 1) rfl rfl
theorem q_722 : (Jvm.Cond.code ({ cls := "WindJump$Parser", name := "readLaw", desc := "(LWindJump$Law;)Z" } : Jvm.MethodName) prog_5_method_11_code (4 : Nat) (Option.some Jvm.ClassFile.FieldType.boolean)) ∈ TBG := inG4 (i := 2) rfl rfl
theorem q_723 : (Jvm.Cond.methodLink "WindJump$Parser" (177 : Nat) ({ cls := "WindJump$Law", name := "clear", desc := "()V" } : Jvm.MethodName)) ∈ TBG := inG4 (i := 3) rfl rfl
theorem q_724 : (Jvm.Cond.methodLink "WindJump$Parser" (180 : Nat) ({ cls := "WindJump$Parser", name := "readSum", desc := "(LWindJump$Law;I)Z" } : Jvm.MethodName)) ∈ TBG := inG4 (i := 4) rfl rfl
theorem q_726 : (Jvm.Cond.instanceMethod ({ cls := "WindJump$Parser", name := "readSum", desc := "(LWindJump$Law;I)Z" } : Jvm.MethodName)) ∈ TBG := inG4 (i := 6) rfl rfl
theorem q_727 : (Jvm.Cond.code ({ cls := "WindJump$Parser", name := "readSum", desc := "(LWindJump$Law;I)Z" } : Jvm.MethodName) prog_5_method_12_code (6 : Nat) (Option.some Jvm.ClassFile.FieldType.boolean)) ∈ TBG := inG4 (i := 7) rfl rfl
theorem q_728 : (Jvm.Cond.methodLink "WindJump$Parser" (184 : Nat) ({ cls := "WindJump$Parser", name := "readProduct", desc := "(LWindJump$Law;I)Z" } : Jvm.MethodName)) ∈ TBG := inG4 (i := 8) rfl rfl
theorem q_730 : (Jvm.Cond.instanceMethod ({ cls := "WindJump$Parser", name := "readProduct", desc := "(LWindJump$Law;I)Z" } : Jvm.MethodName)) ∈ TBG := inG4 (i := 10) rfl rfl
theorem q_731 : (Jvm.Cond.code ({ cls := "WindJump$Parser", name := "readProduct", desc := "(LWindJump$Law;I)Z" } : Jvm.MethodName) prog_5_method_13_code (6 : Nat) (Option.some Jvm.ClassFile.FieldType.boolean)) ∈ TBG := inG4 (i := 11) rfl rfl
theorem q_732 : (Jvm.Cond.methodLink "WindJump$Parser" (193 : Nat) ({ cls := "WindJump$Parser", name := "readUnit", desc := "(LWindJump$Law;I)Z" } : Jvm.MethodName)) ∈ TBG := inG4 (i := 12) rfl rfl
theorem q_734 : (Jvm.Cond.instanceMethod ({ cls := "WindJump$Parser", name := "readUnit", desc := "(LWindJump$Law;I)Z" } : Jvm.MethodName)) ∈ TBG := inG4 (i := 14) rfl rfl
theorem q_735 : (Jvm.Cond.code ({ cls := "WindJump$Parser", name := "readUnit", desc := "(LWindJump$Law;I)Z" } : Jvm.MethodName) prog_5_method_14_code (4 : Nat) (Option.some Jvm.ClassFile.FieldType.boolean)) ∈ TBG := inG4 (i := 15) rfl rfl
theorem q_736 : (Jvm.Cond.methodLink "WindJump$Parser" (187 : Nat) ({ cls := "WindJump$Law", name := "add", desc := "(II)V" } : Jvm.MethodName)) ∈ TBG := inG4 (i := 16) rfl rfl
theorem q_737 : (Jvm.Cond.methodLink "WindJump$Parser" (190 : Nat) ({ cls := "WindJump$Law", name := "endPiece", desc := "()V" } : Jvm.MethodName)) ∈ TBG := inG4 (i := 17) rfl rfl
theorem q_738 : (Jvm.Cond.methodLink "WindJump$Parser" (97 : Nat) ({ cls := "WindJump$Parser", name := "readParts", desc := "([I)Z" } : Jvm.MethodName)) ∈ TBG := inG4 (i := 18) rfl rfl
theorem q_740 : (Jvm.Cond.instanceMethod ({ cls := "WindJump$Parser", name := "readParts", desc := "([I)Z" } : Jvm.MethodName)) ∈ TBG := inG4 (i := 20) rfl rfl
theorem q_741 : (Jvm.Cond.code ({ cls := "WindJump$Parser", name := "readParts", desc := "([I)Z" } : Jvm.MethodName) prog_5_method_5_code (4 : Nat) (Option.some Jvm.ClassFile.FieldType.boolean)) ∈ TBG := inG4 (i := 21) rfl rfl
theorem q_742 : (Jvm.Cond.methodLink "WindJump$Parser" (101 : Nat) ({ cls := "WindJump$Parser", name := "readMan", desc := "(LWindJump$People;)Z" } : Jvm.MethodName)) ∈ TBG := inG4 (i := 22) rfl rfl
theorem q_744 : (Jvm.Cond.instanceMethod ({ cls := "WindJump$Parser", name := "readMan", desc := "(LWindJump$People;)Z" } : Jvm.MethodName)) ∈ TBG := inG4 (i := 24) rfl rfl
theorem q_745 : (Jvm.Cond.code ({ cls := "WindJump$Parser", name := "readMan", desc := "(LWindJump$People;)Z" } : Jvm.MethodName) prog_5_method_6_code (6 : Nat) (Option.some Jvm.ClassFile.FieldType.boolean)) ∈ TBG := inG4 (i := 25) rfl rfl
theorem q_746 : (Jvm.Cond.methodLink "WindJump$Parser" (128 : Nat) ({ cls := "WindJump$Parser", name := "readName", desc := "()Z" } : Jvm.MethodName)) ∈ TBG := inG4 (i := 26) rfl rfl
theorem q_748 : (Jvm.Cond.instanceMethod ({ cls := "WindJump$Parser", name := "readName", desc := "()Z" } : Jvm.MethodName)) ∈ TBG := inG4 (i := 28) rfl rfl
theorem q_749 : (Jvm.Cond.code ({ cls := "WindJump$Parser", name := "readName", desc := "()Z" } : Jvm.MethodName) prog_5_method_9_code (3 : Nat) (Option.some Jvm.ClassFile.FieldType.boolean)) ∈ TBG := inG4 (i := 29) rfl rfl
theorem q_750 : (Jvm.Cond.methodLink "WindJump$Parser" (164 : Nat) ({ cls := "WindJump$Tokens", name := "isSameName", desc := "(II)Z" } : Jvm.MethodName)) ∈ TBG := inG4 (i := 30) rfl rfl
theorem q_751 : (Jvm.Cond.instanceMethod ({ cls := "WindJump$Tokens", name := "isSameName", desc := "(II)Z" } : Jvm.MethodName)) ∈ TBG := inG4 (i := 31) rfl rfl
theorem q_752 : (Jvm.Cond.selects "WindJump$Tokens" ({ cls := "WindJump$Tokens", name := "isSameName", desc := "(II)Z" } : Jvm.MethodName) ({ cls := "WindJump$Tokens", name := "isSameName", desc := "(II)Z" } : Jvm.MethodName)) ∈ TBG := inG4 (i := 32) rfl rfl
theorem q_753 : (Jvm.Cond.code ({ cls := "WindJump$Tokens", name := "isSameName", desc := "(II)Z" } : Jvm.MethodName) prog_11_method_3_code (4 : Nat) (Option.some Jvm.ClassFile.FieldType.boolean)) ∈ TBG := inG4 (i := 33) rfl rfl
theorem q_754 : (Jvm.Cond.methodLink "WindJump$Parser" (132 : Nat) ({ cls := "WindJump$People", name := "addMan", desc := "(IIII)V" } : Jvm.MethodName)) ∈ TBG := inG4 (i := 34) rfl rfl
theorem q_755 : (Jvm.Cond.instanceMethod ({ cls := "WindJump$People", name := "addMan", desc := "(IIII)V" } : Jvm.MethodName)) ∈ TBG := inG4 (i := 35) rfl rfl
theorem q_756 : (Jvm.Cond.selects "WindJump$People" ({ cls := "WindJump$People", name := "addMan", desc := "(IIII)V" } : Jvm.MethodName) ({ cls := "WindJump$People", name := "addMan", desc := "(IIII)V" } : Jvm.MethodName)) ∈ TBG := inG4 (i := 36) rfl rfl
theorem q_757 : (Jvm.Cond.code ({ cls := "WindJump$People", name := "addMan", desc := "(IIII)V" } : Jvm.MethodName) prog_6_method_4_code (5 : Nat) (Option.none : Option Jvm.ClassFile.FieldType)) ∈ TBG := inG4 (i := 37) rfl rfl
theorem q_758 : (Jvm.Cond.methodLink "WindJump$Parser" (105 : Nat) ({ cls := "WindJump$Parser", name := "readJudge", desc := "(LWindJump$People;)Z" } : Jvm.MethodName)) ∈ TBG := inG4 (i := 38) rfl rfl
theorem q_760 : (Jvm.Cond.instanceMethod ({ cls := "WindJump$Parser", name := "readJudge", desc := "(LWindJump$People;)Z" } : Jvm.MethodName)) ∈ TBG := inG4 (i := 40) rfl rfl
theorem q_761 : (Jvm.Cond.code ({ cls := "WindJump$Parser", name := "readJudge", desc := "(LWindJump$People;)Z" } : Jvm.MethodName) prog_5_method_7_code (5 : Nat) (Option.some Jvm.ClassFile.FieldType.boolean)) ∈ TBG := inG4 (i := 41) rfl rfl
theorem q_762 : (Jvm.Cond.methodLink "WindJump$Parser" (136 : Nat) ({ cls := "WindJump$People", name := "addJudge", desc := "(II)V" } : Jvm.MethodName)) ∈ TBG := inG4 (i := 42) rfl rfl
theorem q_763 : (Jvm.Cond.instanceMethod ({ cls := "WindJump$People", name := "addJudge", desc := "(II)V" } : Jvm.MethodName)) ∈ TBG := inG4 (i := 43) rfl rfl
theorem q_764 : (Jvm.Cond.selects "WindJump$People" ({ cls := "WindJump$People", name := "addJudge", desc := "(II)V" } : Jvm.MethodName) ({ cls := "WindJump$People", name := "addJudge", desc := "(II)V" } : Jvm.MethodName)) ∈ TBG := inG4 (i := 44) rfl rfl
theorem q_765 : (Jvm.Cond.code ({ cls := "WindJump$People", name := "addJudge", desc := "(II)V" } : Jvm.MethodName) prog_6_method_5_code (3 : Nat) (Option.none : Option Jvm.ClassFile.FieldType)) ∈ TBG := inG4 (i := 45) rfl rfl
theorem q_766 : (Jvm.Cond.methodLink "WindJump$Parser" (108 : Nat) ({ cls := "WindJump$Parser", name := "readNumbers", desc := "(ILWindJump$Text;)Z" } : Jvm.MethodName)) ∈ TBG := inG4 (i := 46) rfl rfl
theorem q_768 : (Jvm.Cond.instanceMethod ({ cls := "WindJump$Parser", name := "readNumbers", desc := "(ILWindJump$Text;)Z" } : Jvm.MethodName)) ∈ TBG := inG4 (i := 48) rfl rfl
theorem q_769 : (Jvm.Cond.code ({ cls := "WindJump$Parser", name := "readNumbers", desc := "(ILWindJump$Text;)Z" } : Jvm.MethodName) prog_5_method_8_code (4 : Nat) (Option.some Jvm.ClassFile.FieldType.boolean)) ∈ TBG := inG4 (i := 49) rfl rfl
theorem q_770 : (Jvm.Cond.methodLink "WindJump$Parser" (52 : Nat) ({ cls := "WindJump$Text", name := "fillUntold", desc := "()V" } : Jvm.MethodName)) ∈ TBG := inG4 (i := 50) rfl rfl
theorem q_772 : (Jvm.Cond.instanceMethod ({ cls := "WindJump", name := "place", desc := "()I" } : Jvm.MethodName)) ∈ TBG := inG4 (i := 52) rfl rfl
theorem q_773 : (Jvm.Cond.selects "WindJump" ({ cls := "WindJump", name := "place", desc := "()I" } : Jvm.MethodName) ({ cls := "WindJump", name := "place", desc := "()I" } : Jvm.MethodName)) ∈ TBG := inG4 (i := 53) rfl rfl
theorem q_774 : (Jvm.Cond.code ({ cls := "WindJump", name := "place", desc := "()I" } : Jvm.MethodName) prog_1_method_5_code (1 : Nat) (Option.some Jvm.ClassFile.FieldType.int)) ∈ TBG := inG4 (i := 54) rfl rfl
theorem q_776 : (Jvm.Cond.instanceMethod ({ cls := "WindJump", name := "now", desc := "(I)I" } : Jvm.MethodName)) ∈ TBG := inG4 (i := 56) rfl rfl
theorem q_777 : (Jvm.Cond.selects "WindJump" ({ cls := "WindJump", name := "now", desc := "(I)I" } : Jvm.MethodName) ({ cls := "WindJump", name := "now", desc := "(I)I" } : Jvm.MethodName)) ∈ TBG := inG4 (i := 57) rfl rfl
theorem q_778 : (Jvm.Cond.code ({ cls := "WindJump", name := "now", desc := "(I)I" } : Jvm.MethodName) prog_1_method_6_code (2 : Nat) (Option.some Jvm.ClassFile.FieldType.int)) ∈ TBG := inG4 (i := 58) rfl rfl
theorem q_779 : (Jvm.Cond.methodLink "WindJump" (135 : Nat) ({ cls := "WindJump$Play", name := "nextMan", desc := "()I" } : Jvm.MethodName)) ∈ TBG := inG4 (i := 59) rfl rfl
theorem q_780 : (Jvm.Cond.instanceMethod ({ cls := "WindJump$Play", name := "nextMan", desc := "()I" } : Jvm.MethodName)) ∈ TBG := inG4 (i := 60) rfl rfl
theorem q_781 : (Jvm.Cond.selects "WindJump$Play" ({ cls := "WindJump$Play", name := "nextMan", desc := "()I" } : Jvm.MethodName) ({ cls := "WindJump$Play", name := "nextMan", desc := "()I" } : Jvm.MethodName)) ∈ TBG := inG4 (i := 61) rfl rfl
theorem q_782 : (Jvm.Cond.code ({ cls := "WindJump$Play", name := "nextMan", desc := "()I" } : Jvm.MethodName) prog_7_method_7_code (1 : Nat) (Option.some Jvm.ClassFile.FieldType.int)) ∈ TBG := inG4 (i := 62) rfl rfl
theorem q_783 : (Jvm.Cond.methodLink "WindJump" (142 : Nat) ({ cls := "WindJump$Flight", name := "blow", desc := "(I)V" } : Jvm.MethodName)) ∈ TBG := inG4 (i := 63) rfl rfl
theorem q_784 : (Jvm.Cond.instanceMethod ({ cls := "WindJump$Flight", name := "blow", desc := "(I)V" } : Jvm.MethodName)) ∈ TBG := inG4 (i := 64) rfl rfl
theorem q_785 : (Jvm.Cond.selects "WindJump$Flight" ({ cls := "WindJump$Flight", name := "blow", desc := "(I)V" } : Jvm.MethodName) ({ cls := "WindJump$Flight", name := "blow", desc := "(I)V" } : Jvm.MethodName)) ∈ TBG := inG4 (i := 65) rfl rfl
theorem q_786 : (Jvm.Cond.code ({ cls := "WindJump$Flight", name := "blow", desc := "(I)V" } : Jvm.MethodName) prog_2_method_3_code (7 : Nat) (Option.none : Option Jvm.ClassFile.FieldType)) ∈ TBG := inG4 (i := 66) rfl rfl
theorem q_787 : (Jvm.Cond.methodLink "WindJump$Flight" (47 : Nat) ({ cls := "WindJump$Flight", name := "windAt", desc := "(II)I" } : Jvm.MethodName)) ∈ TBG := inG4 (i := 67) rfl rfl
theorem q_788 : (Jvm.Cond.instanceMethod ({ cls := "WindJump$Flight", name := "windAt", desc := "(II)I" } : Jvm.MethodName)) ∈ TBG := inG4 (i := 68) rfl rfl
theorem q_789 : (Jvm.Cond.selects "WindJump$Flight" ({ cls := "WindJump$Flight", name := "windAt", desc := "(II)I" } : Jvm.MethodName) ({ cls := "WindJump$Flight", name := "windAt", desc := "(II)I" } : Jvm.MethodName)) ∈ TBG := inG4 (i := 69) rfl rfl
theorem q_790 : (Jvm.Cond.code ({ cls := "WindJump$Flight", name := "windAt", desc := "(II)I" } : Jvm.MethodName) prog_2_method_2_code (4 : Nat) (Option.some Jvm.ClassFile.FieldType.int)) ∈ TBG := inG4 (i := 70) rfl rfl
theorem q_791 : (Jvm.Cond.methodLink "WindJump$Flight" (27 : Nat) ({ cls := "WindJump$Law", name := "set", desc := "(II)V" } : Jvm.MethodName)) ∈ TBG := inG4 (i := 71) rfl rfl
theorem q_792 : (Jvm.Cond.instanceMethod ({ cls := "WindJump$Law", name := "set", desc := "(II)V" } : Jvm.MethodName)) ∈ TBG := inG4 (i := 72) rfl rfl
theorem q_793 : (Jvm.Cond.selects "WindJump$Law" ({ cls := "WindJump$Law", name := "set", desc := "(II)V" } : Jvm.MethodName) ({ cls := "WindJump$Law", name := "set", desc := "(II)V" } : Jvm.MethodName)) ∈ TBG := inG4 (i := 73) rfl rfl
theorem q_794 : (Jvm.Cond.code ({ cls := "WindJump$Law", name := "set", desc := "(II)V" } : Jvm.MethodName) prog_4_method_6_code (3 : Nat) (Option.none : Option Jvm.ClassFile.FieldType)) ∈ TBG := inG4 (i := 74) rfl rfl
theorem q_795 : (Jvm.Cond.methodLink "WindJump$Flight" (35 : Nat) ({ cls := "WindJump$Flight", name := "lot", desc := "(II)I" } : Jvm.MethodName)) ∈ TBG := inG4 (i := 75) rfl rfl
theorem q_797 : (Jvm.Cond.instanceMethod ({ cls := "WindJump$Flight", name := "lot", desc := "(II)I" } : Jvm.MethodName)) ∈ TBG := inG4 (i := 77) rfl rfl
theorem q_798 : (Jvm.Cond.code ({ cls := "WindJump$Flight", name := "lot", desc := "(II)I" } : Jvm.MethodName) prog_2_method_13_code (4 : Nat) (Option.some Jvm.ClassFile.FieldType.int)) ∈ TBG := inG4 (i := 78) rfl rfl
theorem q_799 : (Jvm.Cond.methodLink "WindJump$Flight" (153 : Nat) ({ cls := "WindJump$Flight", name := "mixed", desc := "(II)I" } : Jvm.MethodName)) ∈ TBG := inG4 (i := 79) rfl rfl
theorem q_800 : (Jvm.Cond.static ({ cls := "WindJump$Flight", name := "mixed", desc := "(II)I" } : Jvm.MethodName)) ∈ TBG := inG4 (i := 80) rfl rfl
theorem q_801 : (Jvm.Cond.code ({ cls := "WindJump$Flight", name := "mixed", desc := "(II)I" } : Jvm.MethodName) prog_2_method_14_code (3 : Nat) (Option.some Jvm.ClassFile.FieldType.int)) ∈ TBG := inG4 (i := 81) rfl rfl
theorem q_802 : (Jvm.Cond.constant "WindJump$Flight" (156 : Nat) (1103515245 : Int32)) ∈ TBG := inG4 (i := 82) rfl rfl
theorem q_803 : (Jvm.Cond.methodLink "WindJump$Flight" (39 : Nat) ({ cls := "WindJump$Law", name := "tells", desc := "()I" } : Jvm.MethodName)) ∈ TBG := inG4 (i := 83) rfl rfl
theorem q_804 : (Jvm.Cond.instanceMethod ({ cls := "WindJump$Law", name := "tells", desc := "()I" } : Jvm.MethodName)) ∈ TBG := inG4 (i := 84) rfl rfl
theorem q_805 : (Jvm.Cond.selects "WindJump$Law" ({ cls := "WindJump$Law", name := "tells", desc := "()I" } : Jvm.MethodName) ({ cls := "WindJump$Law", name := "tells", desc := "()I" } : Jvm.MethodName)) ∈ TBG := inG4 (i := 85) rfl rfl
theorem q_806 : (Jvm.Cond.code ({ cls := "WindJump$Law", name := "tells", desc := "()I" } : Jvm.MethodName) prog_4_method_7_code (4 : Nat) (Option.some Jvm.ClassFile.FieldType.int)) ∈ TBG := inG4 (i := 86) rfl rfl
theorem q_807 : (Jvm.Cond.methodLink "WindJump$Law" (45 : Nat) ({ cls := "WindJump$Law", name := "worth", desc := "(I)I" } : Jvm.MethodName)) ∈ TBG := inG4 (i := 87) rfl rfl
theorem q_809 : (Jvm.Cond.instanceMethod ({ cls := "WindJump$Law", name := "worth", desc := "(I)I" } : Jvm.MethodName)) ∈ TBG := inG4 (i := 89) rfl rfl
theorem q_810 : (Jvm.Cond.code ({ cls := "WindJump$Law", name := "worth", desc := "(I)I" } : Jvm.MethodName) prog_4_method_8_code (4 : Nat) (Option.some Jvm.ClassFile.FieldType.int)) ∈ TBG := inG4 (i := 90) rfl rfl
theorem q_811 : (Jvm.Cond.methodLink "WindJump$Law" (49 : Nat) ({ cls := "WindJump$Law", name := "joined", desc := "(III)I" } : Jvm.MethodName)) ∈ TBG := inG4 (i := 91) rfl rfl
theorem q_813 : (Jvm.Cond.instanceMethod ({ cls := "WindJump$Law", name := "joined", desc := "(III)I" } : Jvm.MethodName)) ∈ TBG := inG4 (i := 93) rfl rfl
theorem q_814 : (Jvm.Cond.code ({ cls := "WindJump$Law", name := "joined", desc := "(III)I" } : Jvm.MethodName) prog_4_method_9_code (4 : Nat) (Option.some Jvm.ClassFile.FieldType.int)) ∈ TBG := inG4 (i := 94) rfl rfl
theorem q_815 : (Jvm.Cond.methodLinkNest "WindJump$Flight" (43 : Nat) ({ cls := "WindJump", name := "held", desc := "(III)I" } : Jvm.MethodName) "WindJump") ∈ NWL := inN4 (i := 95) rfl rfl
theorem q_816 : (Jvm.Cond.static ({ cls := "WindJump", name := "held", desc := "(III)I" } : Jvm.MethodName)) ∈ TBG := inG4 (i := 96) rfl rfl
theorem q_817 : (Jvm.Cond.code ({ cls := "WindJump", name := "held", desc := "(III)I" } : Jvm.MethodName) prog_1_method_44_code (3 : Nat) (Option.some Jvm.ClassFile.FieldType.int)) ∈ TBG := inG4 (i := 97) rfl rfl
theorem q_818 : (Jvm.Cond.methodLink "WindJump" (287 : Nat) ({ cls := "java/lang/Math", name := "min", desc := "(II)I" } : Jvm.MethodName)) ∈ TBG := inG4 (i := 98) rfl rfl
theorem q_819 : (Jvm.Cond.methodLink "WindJump" (282 : Nat) ({ cls := "java/lang/Math", name := "max", desc := "(II)I" } : Jvm.MethodName)) ∈ TBG := inG4 (i := 99) rfl rfl
theorem q_821 : (Jvm.Cond.instanceMethod ({ cls := "WindJump", name := "wind", desc := "(II)I" } : Jvm.MethodName)) ∈ TBG := inG4 (i := 101) rfl rfl
theorem q_822 : (Jvm.Cond.selects "WindJump" ({ cls := "WindJump", name := "wind", desc := "(II)I" } : Jvm.MethodName) ({ cls := "WindJump", name := "wind", desc := "(II)I" } : Jvm.MethodName)) ∈ TBG := inG4 (i := 102) rfl rfl
theorem q_823 : (Jvm.Cond.code ({ cls := "WindJump", name := "wind", desc := "(II)I" } : Jvm.MethodName) prog_1_method_7_code (3 : Nat) (Option.some Jvm.ClassFile.FieldType.int)) ∈ TBG := inG4 (i := 103) rfl rfl
theorem q_824 : (Jvm.Cond.constant "WindJump" (151 : Nat) (99999 : Int32)) ∈ TBG := inG4 (i := 104) rfl rfl
theorem q_825 : (Jvm.Cond.methodLink "WindJump" (152 : Nat) ({ cls := "WindJump$Flight", name := "windAt", desc := "(II)I" } : Jvm.MethodName)) ∈ TBG := inG4 (i := 105) rfl rfl
theorem q_827 : (Jvm.Cond.instanceMethod ({ cls := "WindJump", name := "jump", desc := "(III)I" } : Jvm.MethodName)) ∈ TBG := inG4 (i := 107) rfl rfl
theorem q_828 : (Jvm.Cond.selects "WindJump" ({ cls := "WindJump", name := "jump", desc := "(III)I" } : Jvm.MethodName) ({ cls := "WindJump", name := "jump", desc := "(III)I" } : Jvm.MethodName)) ∈ TBG := inG4 (i := 108) rfl rfl
theorem q_829 : (Jvm.Cond.code ({ cls := "WindJump", name := "jump", desc := "(III)I" } : Jvm.MethodName) prog_1_method_8_code (4 : Nat) (Option.some Jvm.ClassFile.FieldType.int)) ∈ TBG := inG4 (i := 109) rfl rfl
theorem q_830 : (Jvm.Cond.methodLink "WindJump" (156 : Nat) ({ cls := "WindJump$Play", name := "hasJump", desc := "(II)Z" } : Jvm.MethodName)) ∈ TBG := inG4 (i := 110) rfl rfl
theorem q_831 : (Jvm.Cond.instanceMethod ({ cls := "WindJump$Play", name := "hasJump", desc := "(II)Z" } : Jvm.MethodName)) ∈ TBG := inG4 (i := 111) rfl rfl
theorem q_832 : (Jvm.Cond.selects "WindJump$Play" ({ cls := "WindJump$Play", name := "hasJump", desc := "(II)Z" } : Jvm.MethodName) ({ cls := "WindJump$Play", name := "hasJump", desc := "(II)Z" } : Jvm.MethodName)) ∈ TBG := inG4 (i := 112) rfl rfl
theorem q_833 : (Jvm.Cond.code ({ cls := "WindJump$Play", name := "hasJump", desc := "(II)Z" } : Jvm.MethodName) prog_7_method_9_code (3 : Nat) (Option.some Jvm.ClassFile.FieldType.boolean)) ∈ TBG := inG4 (i := 113) rfl rfl
theorem q_834 : (Jvm.Cond.methodLinkNest "WindJump$Play" (67 : Nat) ({ cls := "WindJump", name := "within", desc := "(III)Z" } : Jvm.MethodName) "WindJump") ∈ NWL := inN4 (i := 114) rfl rfl
theorem q_835 : (Jvm.Cond.methodLink "WindJump$Play" (71 : Nat) ({ cls := "WindJump$Play", name := "cell", desc := "(III)I" } : Jvm.MethodName)) ∈ TBG := inG4 (i := 115) rfl rfl
theorem q_836 : (Jvm.Cond.instanceMethod ({ cls := "WindJump$Play", name := "cell", desc := "(III)I" } : Jvm.MethodName)) ∈ TBG := inG4 (i := 116) rfl rfl
theorem q_837 : (Jvm.Cond.selects "WindJump$Play" ({ cls := "WindJump$Play", name := "cell", desc := "(III)I" } : Jvm.MethodName) ({ cls := "WindJump$Play", name := "cell", desc := "(III)I" } : Jvm.MethodName)) ∈ TBG := inG4 (i := 117) rfl rfl
theorem q_838 : (Jvm.Cond.code ({ cls := "WindJump$Play", name := "cell", desc := "(III)I" } : Jvm.MethodName) prog_7_method_10_code (5 : Nat) (Option.some Jvm.ClassFile.FieldType.int)) ∈ TBG := inG4 (i := 118) rfl rfl
theorem q_839 : (Jvm.Cond.methodLink "WindJump$Play" (75 : Nat) ({ cls := "WindJump$Play", name := "cellsOf", desc := "(II)I" } : Jvm.MethodName)) ∈ TBG := inG4 (i := 119) rfl rfl
theorem q_840 : (Jvm.Cond.static ({ cls := "WindJump$Play", name := "cellsOf", desc := "(II)I" } : Jvm.MethodName)) ∈ TBG := inG4 (i := 120) rfl rfl
theorem q_841 : (Jvm.Cond.code ({ cls := "WindJump$Play", name := "cellsOf", desc := "(II)I" } : Jvm.MethodName) prog_7_method_20_code (2 : Nat) (Option.some Jvm.ClassFile.FieldType.int)) ∈ TBG := inG4 (i := 121) rfl rfl
theorem q_842 : (Jvm.Cond.methodLink "WindJump" (160 : Nat) ({ cls := "WindJump$Play", name := "cell", desc := "(III)I" } : Jvm.MethodName)) ∈ TBG := inG4 (i := 122) rfl rfl
theorem q_844 : (Jvm.Cond.instanceMethod ({ cls := "WindJump", name := "mark", desc := "(III)I" } : Jvm.MethodName)) ∈ TBG := inG4 (i := 124) rfl rfl
theorem q_845 : (Jvm.Cond.selects "WindJump" ({ cls := "WindJump", name := "mark", desc := "(III)I" } : Jvm.MethodName) ({ cls := "WindJump", name := "mark", desc := "(III)I" } : Jvm.MethodName)) ∈ TBG := inG4 (i := 125) rfl rfl
theorem q_846 : (Jvm.Cond.code ({ cls := "WindJump", name := "mark", desc := "(III)I" } : Jvm.MethodName) prog_1_method_9_code (4 : Nat) (Option.some Jvm.ClassFile.FieldType.int)) ∈ TBG := inG4 (i := 126) rfl rfl
theorem q_847 : (Jvm.Cond.methodLink "WindJump" (164 : Nat) ({ cls := "WindJump", name := "isJudge", desc := "(I)Z" } : Jvm.MethodName)) ∈ TBG := inG4 (i := 127) rfl rfl
theorem q_849 : (Jvm.Cond.instanceMethod ({ cls := "WindJump", name := "isJudge", desc := "(I)Z" } : Jvm.MethodName)) ∈ TBG := inG4 (i := 129) rfl rfl
theorem q_850 : (Jvm.Cond.code ({ cls := "WindJump", name := "isJudge", desc := "(I)Z" } : Jvm.MethodName) prog_1_method_48_code (2 : Nat) (Option.some Jvm.ClassFile.FieldType.boolean)) ∈ TBG := inG4 (i := 130) rfl rfl
theorem q_852 : (Jvm.Cond.instanceMethod ({ cls := "WindJump", name := "points", desc := "(I)I" } : Jvm.MethodName)) ∈ TBG := inG4 (i := 132) rfl rfl
theorem q_853 : (Jvm.Cond.selects "WindJump" ({ cls := "WindJump", name := "points", desc := "(I)I" } : Jvm.MethodName) ({ cls := "WindJump", name := "points", desc := "(I)I" } : Jvm.MethodName)) ∈ TBG := inG4 (i := 133) rfl rfl
theorem q_854 : (Jvm.Cond.code ({ cls := "WindJump", name := "points", desc := "(I)I" } : Jvm.MethodName) prog_1_method_10_code (2 : Nat) (Option.some Jvm.ClassFile.FieldType.int)) ∈ TBG := inG4 (i := 134) rfl rfl
theorem q_855 : (Jvm.Cond.methodLink "WindJump" (167 : Nat) ({ cls := "WindJump", name := "isMan", desc := "(I)Z" } : Jvm.MethodName)) ∈ TBG := inG4 (i := 135) rfl rfl
theorem q_857 : (Jvm.Cond.instanceMethod ({ cls := "WindJump", name := "isMan", desc := "(I)Z" } : Jvm.MethodName)) ∈ TBG := inG4 (i := 137) rfl rfl
theorem q_858 : (Jvm.Cond.code ({ cls := "WindJump", name := "isMan", desc := "(I)Z" } : Jvm.MethodName) prog_1_method_47_code (2 : Nat) (Option.some Jvm.ClassFile.FieldType.boolean)) ∈ TBG := inG4 (i := 138) rfl rfl
theorem q_860 : (Jvm.Cond.instanceMethod ({ cls := "WindJump", name := "rank", desc := "(I)I" } : Jvm.MethodName)) ∈ TBG := inG4 (i := 140) rfl rfl
theorem q_861 : (Jvm.Cond.selects "WindJump" ({ cls := "WindJump", name := "rank", desc := "(I)I" } : Jvm.MethodName) ({ cls := "WindJump", name := "rank", desc := "(I)I" } : Jvm.MethodName)) ∈ TBG := inG4 (i := 141) rfl rfl
theorem q_862 : (Jvm.Cond.code ({ cls := "WindJump", name := "rank", desc := "(I)I" } : Jvm.MethodName) prog_1_method_11_code (2 : Nat) (Option.some Jvm.ClassFile.FieldType.int)) ∈ TBG := inG4 (i := 142) rfl rfl
theorem q_863 : (Jvm.Cond.methodLink "WindJump" (173 : Nat) ({ cls := "WindJump$Play", name := "rankOf", desc := "(I)I" } : Jvm.MethodName)) ∈ TBG := inG4 (i := 143) rfl rfl
theorem q_864 : (Jvm.Cond.instanceMethod ({ cls := "WindJump$Play", name := "rankOf", desc := "(I)I" } : Jvm.MethodName)) ∈ TBG := inG4 (i := 144) rfl rfl
theorem q_865 : (Jvm.Cond.selects "WindJump$Play" ({ cls := "WindJump$Play", name := "rankOf", desc := "(I)I" } : Jvm.MethodName) ({ cls := "WindJump$Play", name := "rankOf", desc := "(I)I" } : Jvm.MethodName)) ∈ TBG := inG4 (i := 145) rfl rfl
theorem q_866 : (Jvm.Cond.code ({ cls := "WindJump$Play", name := "rankOf", desc := "(I)I" } : Jvm.MethodName) prog_7_method_13_code (2 : Nat) (Option.some Jvm.ClassFile.FieldType.int)) ∈ TBG := inG4 (i := 146) rfl rfl
theorem q_867 : (Jvm.Cond.methodLinkNest "WindJump$Play" (109 : Nat) ({ cls := "WindJump", name := "rankAmong", desc := "([III)I" } : Jvm.MethodName) "WindJump") ∈ NWL := inN4 (i := 147) rfl rfl
theorem q_868 : (Jvm.Cond.static ({ cls := "WindJump", name := "rankAmong", desc := "([III)I" } : Jvm.MethodName)) ∈ TBG := inG4 (i := 148) rfl rfl
theorem q_869 : (Jvm.Cond.code ({ cls := "WindJump", name := "rankAmong", desc := "([III)I" } : Jvm.MethodName) prog_1_method_45_code (6 : Nat) (Option.some Jvm.ClassFile.FieldType.int)) ∈ TBG := inG4 (i := 149) rfl rfl
theorem q_871 : (Jvm.Cond.instanceMethod ({ cls := "WindJump", name := "ranked", desc := "(I)I" } : Jvm.MethodName)) ∈ TBG := inG4 (i := 151) rfl rfl
theorem q_872 : (Jvm.Cond.selects "WindJump" ({ cls := "WindJump", name := "ranked", desc := "(I)I" } : Jvm.MethodName) ({ cls := "WindJump", name := "ranked", desc := "(I)I" } : Jvm.MethodName)) ∈ TBG := inG4 (i := 152) rfl rfl
theorem q_873 : (Jvm.Cond.code ({ cls := "WindJump", name := "ranked", desc := "(I)I" } : Jvm.MethodName) prog_1_method_12_code (2 : Nat) (Option.some Jvm.ClassFile.FieldType.int)) ∈ TBG := inG4 (i := 153) rfl rfl
theorem q_874 : (Jvm.Cond.methodLink "WindJump" (177 : Nat) ({ cls := "WindJump$Play", name := "manOfRank", desc := "(I)I" } : Jvm.MethodName)) ∈ TBG := inG4 (i := 154) rfl rfl
theorem q_875 : (Jvm.Cond.instanceMethod ({ cls := "WindJump$Play", name := "manOfRank", desc := "(I)I" } : Jvm.MethodName)) ∈ TBG := inG4 (i := 155) rfl rfl
theorem q_876 : (Jvm.Cond.selects "WindJump$Play" ({ cls := "WindJump$Play", name := "manOfRank", desc := "(I)I" } : Jvm.MethodName) ({ cls := "WindJump$Play", name := "manOfRank", desc := "(I)I" } : Jvm.MethodName)) ∈ TBG := inG4 (i := 156) rfl rfl
theorem q_877 : (Jvm.Cond.code ({ cls := "WindJump$Play", name := "manOfRank", desc := "(I)I" } : Jvm.MethodName) prog_7_method_14_code (3 : Nat) (Option.some Jvm.ClassFile.FieldType.int)) ∈ TBG := inG4 (i := 157) rfl rfl
theorem q_878 : (Jvm.Cond.methodLink "WindJump$Play" (113 : Nat) ({ cls := "WindJump$Play", name := "rankOf", desc := "(I)I" } : Jvm.MethodName)) ∈ TBG := inG4 (i := 158) rfl rfl
theorem q_880 : (Jvm.Cond.instanceMethod ({ cls := "WindJump", name := "start", desc := "(I)I" } : Jvm.MethodName)) ∈ TBG := inG4 (i := 160) rfl rfl
theorem q_881 : (Jvm.Cond.selects "WindJump" ({ cls := "WindJump", name := "start", desc := "(I)I" } : Jvm.MethodName) ({ cls := "WindJump", name := "start", desc := "(I)I" } : Jvm.MethodName)) ∈ TBG := inG4 (i := 161) rfl rfl
theorem q_882 : (Jvm.Cond.code ({ cls := "WindJump", name := "start", desc := "(I)I" } : Jvm.MethodName) prog_1_method_13_code (2 : Nat) (Option.some Jvm.ClassFile.FieldType.int)) ∈ TBG := inG4 (i := 162) rfl rfl
theorem q_883 : (Jvm.Cond.methodLink "WindJump" (180 : Nat) ({ cls := "WindJump$Kept", name := "keep", desc := "(LWindJump$Play;)V" } : Jvm.MethodName)) ∈ TBG := inG4 (i := 163) rfl rfl
theorem q_884 : (Jvm.Cond.instanceMethod ({ cls := "WindJump$Kept", name := "keep", desc := "(LWindJump$Play;)V" } : Jvm.MethodName)) ∈ TBG := inG4 (i := 164) rfl rfl
theorem q_885 : (Jvm.Cond.selects "WindJump$Kept" ({ cls := "WindJump$Kept", name := "keep", desc := "(LWindJump$Play;)V" } : Jvm.MethodName) ({ cls := "WindJump$Kept", name := "keep", desc := "(LWindJump$Play;)V" } : Jvm.MethodName)) ∈ TBG := inG4 (i := 165) rfl rfl
theorem q_886 : (Jvm.Cond.code ({ cls := "WindJump$Kept", name := "keep", desc := "(LWindJump$Play;)V" } : Jvm.MethodName) prog_3_method_3_code (2 : Nat) (Option.none : Option Jvm.ClassFile.FieldType)) ∈ TBG := inG4 (i := 166) rfl rfl
theorem q_887 : (Jvm.Cond.methodLink "WindJump$Kept" (23 : Nat) ({ cls := "WindJump$Play", name := "save", desc := "([I)V" } : Jvm.MethodName)) ∈ TBG := inG4 (i := 167) rfl rfl
theorem q_888 : (Jvm.Cond.instanceMethod ({ cls := "WindJump$Play", name := "save", desc := "([I)V" } : Jvm.MethodName)) ∈ TBG := inG4 (i := 168) rfl rfl
theorem q_889 : (Jvm.Cond.selects "WindJump$Play" ({ cls := "WindJump$Play", name := "save", desc := "([I)V" } : Jvm.MethodName) ({ cls := "WindJump$Play", name := "save", desc := "([I)V" } : Jvm.MethodName)) ∈ TBG := inG4 (i := 169) rfl rfl
theorem q_890 : (Jvm.Cond.code ({ cls := "WindJump$Play", name := "save", desc := "([I)V" } : Jvm.MethodName) prog_7_method_5_code (2 : Nat) (Option.none : Option Jvm.ClassFile.FieldType)) ∈ TBG := inG4 (i := 170) rfl rfl
theorem q_891 : (Jvm.Cond.methodLink "WindJump$Play" (61 : Nat) ({ cls := "java/lang/System", name := "arraycopy", desc := "(Ljava/lang/Object;ILjava/lang/Object;II)V" } : Jvm.MethodName)) ∈ TBG := inG4 (i := 171) rfl rfl
theorem q_892 : (Jvm.Cond.static ({ cls := "java/lang/System", name := "arraycopy", desc := "(Ljava/lang/Object;ILjava/lang/Object;II)V" } : Jvm.MethodName)) ∈ TBG := inG4 (i := 172) rfl rfl
theorem q_893 : (Jvm.Cond.native ({ cls := "java/lang/System", name := "arraycopy", desc := "(Ljava/lang/Object;ILjava/lang/Object;II)V" } : Jvm.MethodName)) ∈ TBG := inG4 (i := 173) rfl rfl
theorem q_894 : (Jvm.Cond.methodLink "WindJump$Kept" (27 : Nat) ({ cls := "java/lang/Math", name := "min", desc := "(II)I" } : Jvm.MethodName)) ∈ TBG := inG4 (i := 174) rfl rfl
theorem q_895 : (Jvm.Cond.methodLink "WindJump" (184 : Nat) ({ cls := "WindJump", name := "startByGoes", desc := "(LWindJump$Play;I)I" } : Jvm.MethodName)) ∈ TBG := inG4 (i := 175) rfl rfl
theorem q_897 : (Jvm.Cond.instanceMethod ({ cls := "WindJump", name := "startByGoes", desc := "(LWindJump$Play;I)I" } : Jvm.MethodName)) ∈ TBG := inG4 (i := 177) rfl rfl
theorem q_898 : (Jvm.Cond.code ({ cls := "WindJump", name := "startByGoes", desc := "(LWindJump$Play;I)I" } : Jvm.MethodName) prog_1_method_52_code (5 : Nat) (Option.some Jvm.ClassFile.FieldType.int)) ∈ TBG := inG4 (i := 178) rfl rfl
theorem q_899 : (Jvm.Cond.methodLink "WindJump" (351 : Nat) ({ cls := "WindJump", name := "waitByGoes", desc := "(II)I" } : Jvm.MethodName)) ∈ TBG := inG4 (i := 179) rfl rfl
theorem q_901 : (Jvm.Cond.instanceMethod ({ cls := "WindJump", name := "waitByGoes", desc := "(II)I" } : Jvm.MethodName)) ∈ TBG := inG4 (i := 181) rfl rfl
theorem q_902 : (Jvm.Cond.code ({ cls := "WindJump", name := "waitByGoes", desc := "(II)I" } : Jvm.MethodName) prog_1_method_53_code (4 : Nat) (Option.some Jvm.ClassFile.FieldType.int)) ∈ TBG := inG4 (i := 182) rfl rfl
theorem q_903 : (Jvm.Cond.methodLink "WindJump" (354 : Nat) ({ cls := "WindJump$Flight", name := "goes", desc := "(II)Z" } : Jvm.MethodName)) ∈ TBG := inG4 (i := 183) rfl rfl
theorem q_904 : (Jvm.Cond.instanceMethod ({ cls := "WindJump$Flight", name := "goes", desc := "(II)Z" } : Jvm.MethodName)) ∈ TBG := inG4 (i := 184) rfl rfl
theorem q_905 : (Jvm.Cond.selects "WindJump$Flight" ({ cls := "WindJump$Flight", name := "goes", desc := "(II)Z" } : Jvm.MethodName) ({ cls := "WindJump$Flight", name := "goes", desc := "(II)Z" } : Jvm.MethodName)) ∈ TBG := inG4 (i := 185) rfl rfl
theorem q_906 : (Jvm.Cond.code ({ cls := "WindJump$Flight", name := "goes", desc := "(II)Z" } : Jvm.MethodName) prog_2_method_6_code (4 : Nat) (Option.some Jvm.ClassFile.FieldType.boolean)) ∈ TBG := inG4 (i := 186) rfl rfl
theorem q_907 : (Jvm.Cond.methodLink "WindJump" (191 : Nat) ({ cls := "WindJump", name := "launch", desc := "(LWindJump$Play;I)V" } : Jvm.MethodName)) ∈ TBG := inG4 (i := 187) rfl rfl
theorem q_909 : (Jvm.Cond.instanceMethod ({ cls := "WindJump", name := "launch", desc := "(LWindJump$Play;I)V" } : Jvm.MethodName)) ∈ TBG := inG4 (i := 189) rfl rfl
theorem q_910 : (Jvm.Cond.code ({ cls := "WindJump", name := "launch", desc := "(LWindJump$Play;I)V" } : Jvm.MethodName) prog_1_method_54_code (5 : Nat) (Option.none : Option Jvm.ClassFile.FieldType)) ∈ TBG := inG4 (i := 190) rfl rfl
theorem q_911 : (Jvm.Cond.methodLink "WindJump" (357 : Nat) ({ cls := "WindJump$Flight", name := "slipOf", desc := "(II)I" } : Jvm.MethodName)) ∈ TBG := inG4 (i := 191) rfl rfl
theorem q_912 : (Jvm.Cond.instanceMethod ({ cls := "WindJump$Flight", name := "slipOf", desc := "(II)I" } : Jvm.MethodName)) ∈ TBG := inG4 (i := 192) rfl rfl
theorem q_913 : (Jvm.Cond.selects "WindJump$Flight" ({ cls := "WindJump$Flight", name := "slipOf", desc := "(II)I" } : Jvm.MethodName) ({ cls := "WindJump$Flight", name := "slipOf", desc := "(II)I" } : Jvm.MethodName)) ∈ TBG := inG4 (i := 193) rfl rfl
theorem q_914 : (Jvm.Cond.code ({ cls := "WindJump$Flight", name := "slipOf", desc := "(II)I" } : Jvm.MethodName) prog_2_method_5_code (4 : Nat) (Option.some Jvm.ClassFile.FieldType.int)) ∈ TBG := inG4 (i := 194) rfl rfl
theorem q_915 : (Jvm.Cond.constant "WindJump$Flight" (68 : Nat) (100000 : Int32)) ∈ TBG := inG4 (i := 195) rfl rfl
theorem q_916 : (Jvm.Cond.methodLink "WindJump" (245 : Nat) ({ cls := "WindJump$Flight", name := "reachOf", desc := "(IIII)I" } : Jvm.MethodName)) ∈ TBG := inG4 (i := 196) rfl rfl
theorem q_917 : (Jvm.Cond.instanceMethod ({ cls := "WindJump$Flight", name := "reachOf", desc := "(IIII)I" } : Jvm.MethodName)) ∈ TBG := inG4 (i := 197) rfl rfl
theorem q_918 : (Jvm.Cond.selects "WindJump$Flight" ({ cls := "WindJump$Flight", name := "reachOf", desc := "(IIII)I" } : Jvm.MethodName) ({ cls := "WindJump$Flight", name := "reachOf", desc := "(IIII)I" } : Jvm.MethodName)) ∈ TBG := inG4 (i := 198) rfl rfl
theorem q_919 : (Jvm.Cond.code ({ cls := "WindJump$Flight", name := "reachOf", desc := "(IIII)I" } : Jvm.MethodName) prog_2_method_7_code (5 : Nat) (Option.some Jvm.ClassFile.FieldType.int)) ∈ TBG := inG4 (i := 199) rfl rfl
theorem q_920 : (Jvm.Cond.methodLink "WindJump$Flight" (78 : Nat) ({ cls := "WindJump$Flight", name := "reach", desc := "(IIIII)I" } : Jvm.MethodName)) ∈ TBG := inG4 (i := 200) rfl rfl
theorem q_921 : (Jvm.Cond.instanceMethod ({ cls := "WindJump$Flight", name := "reach", desc := "(IIIII)I" } : Jvm.MethodName)) ∈ TBG := inG4 (i := 201) rfl rfl
theorem q_922 : (Jvm.Cond.selects "WindJump$Flight" ({ cls := "WindJump$Flight", name := "reach", desc := "(IIIII)I" } : Jvm.MethodName) ({ cls := "WindJump$Flight", name := "reach", desc := "(IIIII)I" } : Jvm.MethodName)) ∈ TBG := inG4 (i := 202) rfl rfl
theorem q_923 : (Jvm.Cond.code ({ cls := "WindJump$Flight", name := "reach", desc := "(IIIII)I" } : Jvm.MethodName) prog_2_method_8_code (7 : Nat) (Option.some Jvm.ClassFile.FieldType.int)) ∈ TBG := inG4 (i := 203) rfl rfl
theorem q_924 : (Jvm.Cond.methodLink "WindJump" (278 : Nat) ({ cls := "WindJump$Flight", name := "judge", desc := "(III)V" } : Jvm.MethodName)) ∈ TBG := inG4 (i := 204) rfl rfl
theorem q_925 : (Jvm.Cond.instanceMethod ({ cls := "WindJump$Flight", name := "judge", desc := "(III)V" } : Jvm.MethodName)) ∈ TBG := inG4 (i := 205) rfl rfl
theorem q_926 : (Jvm.Cond.selects "WindJump$Flight" ({ cls := "WindJump$Flight", name := "judge", desc := "(III)V" } : Jvm.MethodName) ({ cls := "WindJump$Flight", name := "judge", desc := "(III)V" } : Jvm.MethodName)) ∈ TBG := inG4 (i := 206) rfl rfl
theorem q_927 : (Jvm.Cond.code ({ cls := "WindJump$Flight", name := "judge", desc := "(III)V" } : Jvm.MethodName) prog_2_method_9_code (6 : Nat) (Option.none : Option Jvm.ClassFile.FieldType)) ∈ TBG := inG4 (i := 207) rfl rfl
theorem q_928 : (Jvm.Cond.methodLinkNest "WindJump$Flight" (109 : Nat) ({ cls := "WindJump", name := "styleOf", desc := "([IIII)I" } : Jvm.MethodName) "WindJump") ∈ NWL := inN4 (i := 208) rfl rfl
theorem q_929 : (Jvm.Cond.static ({ cls := "WindJump", name := "styleOf", desc := "([IIII)I" } : Jvm.MethodName)) ∈ TBG := inG4 (i := 209) rfl rfl
theorem q_930 : (Jvm.Cond.code ({ cls := "WindJump", name := "styleOf", desc := "([IIII)I" } : Jvm.MethodName) prog_1_method_46_code (10 : Nat) (Option.some Jvm.ClassFile.FieldType.int)) ∈ TBG := inG4 (i := 210) rfl rfl
theorem q_931 : (Jvm.Cond.methodLink "WindJump$Flight" (116 : Nat) ({ cls := "WindJump$Flight", name := "givenFor", desc := "(I)I" } : Jvm.MethodName)) ∈ TBG := inG4 (i := 211) rfl rfl
theorem q_932 : (Jvm.Cond.instanceMethod ({ cls := "WindJump$Flight", name := "givenFor", desc := "(I)I" } : Jvm.MethodName)) ∈ TBG := inG4 (i := 212) rfl rfl
theorem q_933 : (Jvm.Cond.selects "WindJump$Flight" ({ cls := "WindJump$Flight", name := "givenFor", desc := "(I)I" } : Jvm.MethodName) ({ cls := "WindJump$Flight", name := "givenFor", desc := "(I)I" } : Jvm.MethodName)) ∈ TBG := inG4 (i := 213) rfl rfl
theorem q_934 : (Jvm.Cond.code ({ cls := "WindJump$Flight", name := "givenFor", desc := "(I)I" } : Jvm.MethodName) prog_2_method_10_code (2 : Nat) (Option.some Jvm.ClassFile.FieldType.int)) ∈ TBG := inG4 (i := 214) rfl rfl
theorem q_935 : (Jvm.Cond.methodLink "WindJump$Flight" (120 : Nat) ({ cls := "WindJump$Flight", name := "pointsFor", desc := "(IIII)I" } : Jvm.MethodName)) ∈ TBG := inG4 (i := 215) rfl rfl
theorem q_936 : (Jvm.Cond.instanceMethod ({ cls := "WindJump$Flight", name := "pointsFor", desc := "(IIII)I" } : Jvm.MethodName)) ∈ TBG := inG4 (i := 216) rfl rfl
theorem q_937 : (Jvm.Cond.selects "WindJump$Flight" ({ cls := "WindJump$Flight", name := "pointsFor", desc := "(IIII)I" } : Jvm.MethodName) ({ cls := "WindJump$Flight", name := "pointsFor", desc := "(IIII)I" } : Jvm.MethodName)) ∈ TBG := inG4 (i := 217) rfl rfl
theorem q_938 : (Jvm.Cond.code ({ cls := "WindJump$Flight", name := "pointsFor", desc := "(IIII)I" } : Jvm.MethodName) prog_2_method_11_code (6 : Nat) (Option.some Jvm.ClassFile.FieldType.int)) ∈ TBG := inG4 (i := 218) rfl rfl
theorem q_939 : (Jvm.Cond.methodLink "WindJump$Flight" (139 : Nat) ({ cls := "java/lang/Math", name := "max", desc := "(II)I" } : Jvm.MethodName)) ∈ TBG := inG4 (i := 219) rfl rfl
theorem q_940 : (Jvm.Cond.methodLink "WindJump" (360 : Nat) ({ cls := "WindJump$Play", name := "enter", desc := "(IIILWindJump$Flight;)V" } : Jvm.MethodName)) ∈ TBG := inG4 (i := 220) rfl rfl
theorem q_941 : (Jvm.Cond.instanceMethod ({ cls := "WindJump$Play", name := "enter", desc := "(IIILWindJump$Flight;)V" } : Jvm.MethodName)) ∈ TBG := inG4 (i := 221) rfl rfl
theorem q_942 : (Jvm.Cond.selects "WindJump$Play" ({ cls := "WindJump$Play", name := "enter", desc := "(IIILWindJump$Flight;)V" } : Jvm.MethodName) ({ cls := "WindJump$Play", name := "enter", desc := "(IIILWindJump$Flight;)V" } : Jvm.MethodName)) ∈ TBG := inG4 (i := 222) rfl rfl
theorem q_943 : (Jvm.Cond.code ({ cls := "WindJump$Play", name := "enter", desc := "(IIILWindJump$Flight;)V" } : Jvm.MethodName) prog_7_method_12_code (6 : Nat) (Option.none : Option Jvm.ClassFile.FieldType)) ∈ TBG := inG4 (i := 223) rfl rfl
theorem q_944 : (Jvm.Cond.methodLink "WindJump$Play" (106 : Nat) ({ cls := "WindJump$Play", name := "beginNextRound", desc := "()V" } : Jvm.MethodName)) ∈ TBG := inG4 (i := 224) rfl rfl
theorem q_946 : (Jvm.Cond.instanceMethod ({ cls := "WindJump$Play", name := "beginNextRound", desc := "()V" } : Jvm.MethodName)) ∈ TBG := inG4 (i := 226) rfl rfl
theorem q_947 : (Jvm.Cond.code ({ cls := "WindJump$Play", name := "beginNextRound", desc := "()V" } : Jvm.MethodName) prog_7_method_21_code (2 : Nat) (Option.none : Option Jvm.ClassFile.FieldType)) ∈ TBG := inG4 (i := 227) rfl rfl
theorem q_948 : (Jvm.Cond.methodLink "WindJump$Play" (129 : Nat) ({ cls := "java/lang/Math", name := "min", desc := "(II)I" } : Jvm.MethodName)) ∈ TBG := inG4 (i := 228) rfl rfl
theorem q_949 : (Jvm.Cond.methodLink "WindJump$Play" (132 : Nat) ({ cls := "WindJump$Play", name := "manOfRank", desc := "(I)I" } : Jvm.MethodName)) ∈ TBG := inG4 (i := 229) rfl rfl
theorem q_951 : (Jvm.Cond.instanceMethod ({ cls := "WindJump", name := "letGo", desc := "(I)I" } : Jvm.MethodName)) ∈ TBG := inG4 (i := 231) rfl rfl
theorem q_952 : (Jvm.Cond.selects "WindJump" ({ cls := "WindJump", name := "letGo", desc := "(I)I" } : Jvm.MethodName) ({ cls := "WindJump", name := "letGo", desc := "(I)I" } : Jvm.MethodName)) ∈ TBG := inG4 (i := 232) rfl rfl
theorem q_953 : (Jvm.Cond.code ({ cls := "WindJump", name := "letGo", desc := "(I)I" } : Jvm.MethodName) prog_1_method_14_code (2 : Nat) (Option.some Jvm.ClassFile.FieldType.int)) ∈ TBG := inG4 (i := 233) rfl rfl
theorem q_955 : (Jvm.Cond.instanceMethod ({ cls := "WindJump", name := "gate", desc := "(I)Z" } : Jvm.MethodName)) ∈ TBG := inG4 (i := 235) rfl rfl
theorem q_956 : (Jvm.Cond.selects "WindJump" ({ cls := "WindJump", name := "gate", desc := "(I)Z" } : Jvm.MethodName) ({ cls := "WindJump", name := "gate", desc := "(I)Z" } : Jvm.MethodName)) ∈ TBG := inG4 (i := 236) rfl rfl
theorem q_957 : (Jvm.Cond.code ({ cls := "WindJump", name := "gate", desc := "(I)Z" } : Jvm.MethodName) prog_1_method_15_code (2 : Nat) (Option.some Jvm.ClassFile.FieldType.boolean)) ∈ TBG := inG4 (i := 237) rfl rfl
theorem q_958 : (Jvm.Cond.methodLink "WindJump" (196 : Nat) ({ cls := "WindJump", name := "isGate", desc := "(I)Z" } : Jvm.MethodName)) ∈ TBG := inG4 (i := 238) rfl rfl
theorem q_959 : (Jvm.Cond.static ({ cls := "WindJump", name := "isGate", desc := "(I)Z" } : Jvm.MethodName)) ∈ TBG := inG4 (i := 239) rfl rfl
theorem q_960 : (Jvm.Cond.code ({ cls := "WindJump", name := "isGate", desc := "(I)Z" } : Jvm.MethodName) prog_1_method_49_code (1 : Nat) (Option.some Jvm.ClassFile.FieldType.boolean)) ∈ TBG := inG5 (i := 0) rfl rfl
theorem q_962 : (Jvm.Cond.instanceMethod ({ cls := "WindJump", name := "pause", desc := "(I)I" } : Jvm.MethodName)) ∈ TBG := inG5 (i := 2) rfl rfl
theorem q_963 : (Jvm.Cond.selects "WindJump" ({ cls := "WindJump", name := "pause", desc := "(I)I" } : Jvm.MethodName) ({ cls := "WindJump", name := "pause", desc := "(I)I" } : Jvm.MethodName)) ∈ TBG := inG5 (i := 3) rfl rfl
theorem q_964 : (Jvm.Cond.code ({ cls := "WindJump", name := "pause", desc := "(I)I" } : Jvm.MethodName) prog_1_method_16_code (2 : Nat) (Option.some Jvm.ClassFile.FieldType.int)) ∈ TBG := inG5 (i := 4) rfl rfl
theorem q_966 : (Jvm.Cond.instanceMethod ({ cls := "WindJump", name := "undo", desc := "()Z" } : Jvm.MethodName)) ∈ TBG := inG5 (i := 6) rfl rfl
theorem q_967 : (Jvm.Cond.selects "WindJump" ({ cls := "WindJump", name := "undo", desc := "()Z" } : Jvm.MethodName) ({ cls := "WindJump", name := "undo", desc := "()Z" } : Jvm.MethodName)) ∈ TBG := inG5 (i := 7) rfl rfl
theorem q_968 : (Jvm.Cond.code ({ cls := "WindJump", name := "undo", desc := "()Z" } : Jvm.MethodName) prog_1_method_17_code (1 : Nat) (Option.some Jvm.ClassFile.FieldType.boolean)) ∈ TBG := inG5 (i := 8) rfl rfl
theorem q_969 : (Jvm.Cond.methodLink "WindJump" (199 : Nat) ({ cls := "WindJump$Kept", name := "takeBack", desc := "(LWindJump$Play;)Z" } : Jvm.MethodName)) ∈ TBG := inG5 (i := 9) rfl rfl
theorem q_970 : (Jvm.Cond.instanceMethod ({ cls := "WindJump$Kept", name := "takeBack", desc := "(LWindJump$Play;)Z" } : Jvm.MethodName)) ∈ TBG := inG5 (i := 10) rfl rfl
theorem q_971 : (Jvm.Cond.selects "WindJump$Kept" ({ cls := "WindJump$Kept", name := "takeBack", desc := "(LWindJump$Play;)Z" } : Jvm.MethodName) ({ cls := "WindJump$Kept", name := "takeBack", desc := "(LWindJump$Play;)Z" } : Jvm.MethodName)) ∈ TBG := inG5 (i := 11) rfl rfl
theorem q_972 : (Jvm.Cond.code ({ cls := "WindJump$Kept", name := "takeBack", desc := "(LWindJump$Play;)Z" } : Jvm.MethodName) prog_3_method_4_code (2 : Nat) (Option.some Jvm.ClassFile.FieldType.boolean)) ∈ TBG := inG5 (i := 12) rfl rfl
theorem q_973 : (Jvm.Cond.methodLink "WindJump$Kept" (33 : Nat) ({ cls := "WindJump$Play", name := "load", desc := "([I)V" } : Jvm.MethodName)) ∈ TBG := inG5 (i := 13) rfl rfl
theorem q_974 : (Jvm.Cond.instanceMethod ({ cls := "WindJump$Play", name := "load", desc := "([I)V" } : Jvm.MethodName)) ∈ TBG := inG5 (i := 14) rfl rfl
theorem q_975 : (Jvm.Cond.selects "WindJump$Play" ({ cls := "WindJump$Play", name := "load", desc := "([I)V" } : Jvm.MethodName) ({ cls := "WindJump$Play", name := "load", desc := "([I)V" } : Jvm.MethodName)) ∈ TBG := inG5 (i := 15) rfl rfl
theorem q_976 : (Jvm.Cond.code ({ cls := "WindJump$Play", name := "load", desc := "([I)V" } : Jvm.MethodName) prog_7_method_6_code (2 : Nat) (Option.none : Option Jvm.ClassFile.FieldType)) ∈ TBG := inG5 (i := 16) rfl rfl
theorem q_978 : (Jvm.Cond.instanceMethod ({ cls := "WindJump", name := "attempt", desc := "(IIII)I" } : Jvm.MethodName)) ∈ TBG := inG5 (i := 18) rfl rfl
theorem q_979 : (Jvm.Cond.selects "WindJump" ({ cls := "WindJump", name := "attempt", desc := "(IIII)I" } : Jvm.MethodName) ({ cls := "WindJump", name := "attempt", desc := "(IIII)I" } : Jvm.MethodName)) ∈ TBG := inG5 (i := 19) rfl rfl
theorem q_980 : (Jvm.Cond.code ({ cls := "WindJump", name := "attempt", desc := "(IIII)I" } : Jvm.MethodName) prog_1_method_18_code (5 : Nat) (Option.some Jvm.ClassFile.FieldType.int)) ∈ TBG := inG5 (i := 20) rfl rfl
theorem q_981 : (Jvm.Cond.methodLink "WindJump" (203 : Nat) ({ cls := "WindJump", name := "isLate", desc := "(I)Z" } : Jvm.MethodName)) ∈ TBG := inG5 (i := 21) rfl rfl
theorem q_982 : (Jvm.Cond.static ({ cls := "WindJump", name := "isLate", desc := "(I)Z" } : Jvm.MethodName)) ∈ TBG := inG5 (i := 22) rfl rfl
theorem q_983 : (Jvm.Cond.code ({ cls := "WindJump", name := "isLate", desc := "(I)Z" } : Jvm.MethodName) prog_1_method_50_code (1 : Nat) (Option.some Jvm.ClassFile.FieldType.boolean)) ∈ TBG := inG5 (i := 23) rfl rfl
theorem q_984 : (Jvm.Cond.methodLink "WindJump" (206 : Nat) ({ cls := "WindJump", name := "tryOut", desc := "(IIIZ)I" } : Jvm.MethodName)) ∈ TBG := inG5 (i := 24) rfl rfl
theorem q_986 : (Jvm.Cond.instanceMethod ({ cls := "WindJump", name := "tryOut", desc := "(IIIZ)I" } : Jvm.MethodName)) ∈ TBG := inG5 (i := 26) rfl rfl
theorem q_987 : (Jvm.Cond.code ({ cls := "WindJump", name := "tryOut", desc := "(IIIZ)I" } : Jvm.MethodName) prog_1_method_55_code (5 : Nat) (Option.some Jvm.ClassFile.FieldType.int)) ∈ TBG := inG5 (i := 27) rfl rfl
theorem q_988 : (Jvm.Cond.methodLink "WindJump" (235 : Nat) ({ cls := "WindJump", name := "jumpNow", desc := "(IIIIZ)I" } : Jvm.MethodName)) ∈ TBG := inG5 (i := 28) rfl rfl
theorem q_990 : (Jvm.Cond.instanceMethod ({ cls := "WindJump", name := "jumpNow", desc := "(IIIIZ)I" } : Jvm.MethodName)) ∈ TBG := inG5 (i := 30) rfl rfl
theorem q_991 : (Jvm.Cond.code ({ cls := "WindJump", name := "jumpNow", desc := "(IIIIZ)I" } : Jvm.MethodName) prog_1_method_56_code (6 : Nat) (Option.some Jvm.ClassFile.FieldType.int)) ∈ TBG := inG5 (i := 31) rfl rfl
theorem q_993 : (Jvm.Cond.instanceMethod ({ cls := "WindJump", name := "wait", desc := "(II)I" } : Jvm.MethodName)) ∈ TBG := inG5 (i := 33) rfl rfl
theorem q_994 : (Jvm.Cond.selects "WindJump" ({ cls := "WindJump", name := "wait", desc := "(II)I" } : Jvm.MethodName) ({ cls := "WindJump", name := "wait", desc := "(II)I" } : Jvm.MethodName)) ∈ TBG := inG5 (i := 34) rfl rfl
theorem q_995 : (Jvm.Cond.code ({ cls := "WindJump", name := "wait", desc := "(II)I" } : Jvm.MethodName) prog_1_method_19_code (8 : Nat) (Option.some Jvm.ClassFile.FieldType.int)) ∈ TBG := inG5 (i := 35) rfl rfl
theorem q_997 : (Jvm.Cond.instanceMethod ({ cls := "WindJump", name := "cost", desc := "(IIZ)I" } : Jvm.MethodName)) ∈ TBG := inG5 (i := 37) rfl rfl
theorem q_998 : (Jvm.Cond.selects "WindJump" ({ cls := "WindJump", name := "cost", desc := "(IIZ)I" } : Jvm.MethodName) ({ cls := "WindJump", name := "cost", desc := "(IIZ)I" } : Jvm.MethodName)) ∈ TBG := inG5 (i := 38) rfl rfl
theorem q_999 : (Jvm.Cond.code ({ cls := "WindJump", name := "cost", desc := "(IIZ)I" } : Jvm.MethodName) prog_1_method_20_code (4 : Nat) (Option.some Jvm.ClassFile.FieldType.int)) ∈ TBG := inG5 (i := 39) rfl rfl
theorem q_1001 : (Jvm.Cond.instanceMethod ({ cls := "WindJump", name := "pound", desc := "(III)I" } : Jvm.MethodName)) ∈ TBG := inG5 (i := 41) rfl rfl
theorem q_1002 : (Jvm.Cond.selects "WindJump" ({ cls := "WindJump", name := "pound", desc := "(III)I" } : Jvm.MethodName) ({ cls := "WindJump", name := "pound", desc := "(III)I" } : Jvm.MethodName)) ∈ TBG := inG5 (i := 42) rfl rfl
theorem q_1003 : (Jvm.Cond.code ({ cls := "WindJump", name := "pound", desc := "(III)I" } : Jvm.MethodName) prog_1_method_21_code (7 : Nat) (Option.some Jvm.ClassFile.FieldType.int)) ∈ TBG := inG5 (i := 43) rfl rfl
theorem q_1004 : (Jvm.Cond.methodLink "WindJump" (228 : Nat) ({ cls := "WindJump$Flight", name := "reach", desc := "(IIIII)I" } : Jvm.MethodName)) ∈ TBG := inG5 (i := 44) rfl rfl
theorem q_1006 : (Jvm.Cond.instanceMethod ({ cls := "WindJump", name := "gain", desc := "(I)I" } : Jvm.MethodName)) ∈ TBG := inG5 (i := 46) rfl rfl
theorem q_1007 : (Jvm.Cond.selects "WindJump" ({ cls := "WindJump", name := "gain", desc := "(I)I" } : Jvm.MethodName) ({ cls := "WindJump", name := "gain", desc := "(I)I" } : Jvm.MethodName)) ∈ TBG := inG5 (i := 47) rfl rfl
theorem q_1008 : (Jvm.Cond.code ({ cls := "WindJump", name := "gain", desc := "(I)I" } : Jvm.MethodName) prog_1_method_22_code (3 : Nat) (Option.some Jvm.ClassFile.FieldType.int)) ∈ TBG := inG5 (i := 48) rfl rfl
theorem q_1009 : (Jvm.Cond.methodLink "WindJump" (232 : Nat) ({ cls := "WindJump$Flight", name := "calmDown", desc := "()V" } : Jvm.MethodName)) ∈ TBG := inG5 (i := 49) rfl rfl
theorem q_1010 : (Jvm.Cond.instanceMethod ({ cls := "WindJump$Flight", name := "calmDown", desc := "()V" } : Jvm.MethodName)) ∈ TBG := inG5 (i := 50) rfl rfl
theorem q_1011 : (Jvm.Cond.selects "WindJump$Flight" ({ cls := "WindJump$Flight", name := "calmDown", desc := "()V" } : Jvm.MethodName) ({ cls := "WindJump$Flight", name := "calmDown", desc := "()V" } : Jvm.MethodName)) ∈ TBG := inG5 (i := 51) rfl rfl
theorem q_1012 : (Jvm.Cond.code ({ cls := "WindJump$Flight", name := "calmDown", desc := "()V" } : Jvm.MethodName) prog_2_method_4_code (1 : Nat) (Option.none : Option Jvm.ClassFile.FieldType)) ∈ TBG := inG5 (i := 52) rfl rfl
theorem q_1014 : (Jvm.Cond.instanceMethod ({ cls := "WindJump", name := "number", desc := "(I)I" } : Jvm.MethodName)) ∈ TBG := inG5 (i := 54) rfl rfl
theorem q_1015 : (Jvm.Cond.selects "WindJump" ({ cls := "WindJump", name := "number", desc := "(I)I" } : Jvm.MethodName) ({ cls := "WindJump", name := "number", desc := "(I)I" } : Jvm.MethodName)) ∈ TBG := inG5 (i := 55) rfl rfl
theorem q_1016 : (Jvm.Cond.code ({ cls := "WindJump", name := "number", desc := "(I)I" } : Jvm.MethodName) prog_1_method_23_code (3 : Nat) (Option.some Jvm.ClassFile.FieldType.int)) ∈ TBG := inG5 (i := 56) rfl rfl
theorem q_1018 : (Jvm.Cond.instanceMethod ({ cls := "WindJump", name := "gates", desc := "(I)I" } : Jvm.MethodName)) ∈ TBG := inG5 (i := 58) rfl rfl
theorem q_1019 : (Jvm.Cond.selects "WindJump" ({ cls := "WindJump", name := "gates", desc := "(I)I" } : Jvm.MethodName) ({ cls := "WindJump", name := "gates", desc := "(I)I" } : Jvm.MethodName)) ∈ TBG := inG5 (i := 59) rfl rfl
theorem q_1020 : (Jvm.Cond.code ({ cls := "WindJump", name := "gates", desc := "(I)I" } : Jvm.MethodName) prog_1_method_24_code (5 : Nat) (Option.some Jvm.ClassFile.FieldType.int)) ∈ TBG := inG5 (i := 60) rfl rfl
theorem q_1021 : (Jvm.Cond.methodLink "WindJump" (242 : Nat) ({ cls := "WindJump", name := "safeGate", desc := "()I" } : Jvm.MethodName)) ∈ TBG := inG5 (i := 61) rfl rfl
theorem q_1023 : (Jvm.Cond.instanceMethod ({ cls := "WindJump", name := "safeGate", desc := "()I" } : Jvm.MethodName)) ∈ TBG := inG5 (i := 63) rfl rfl
theorem q_1024 : (Jvm.Cond.code ({ cls := "WindJump", name := "safeGate", desc := "()I" } : Jvm.MethodName) prog_1_method_57_code (2 : Nat) (Option.some Jvm.ClassFile.FieldType.int)) ∈ TBG := inG5 (i := 64) rfl rfl
theorem q_1025 : (Jvm.Cond.methodLink "WindJump" (364 : Nat) ({ cls := "WindJump", name := "isSafeGate", desc := "(I)Z" } : Jvm.MethodName)) ∈ TBG := inG5 (i := 65) rfl rfl
theorem q_1027 : (Jvm.Cond.instanceMethod ({ cls := "WindJump", name := "isSafeGate", desc := "(I)Z" } : Jvm.MethodName)) ∈ TBG := inG5 (i := 67) rfl rfl
theorem q_1028 : (Jvm.Cond.code ({ cls := "WindJump", name := "isSafeGate", desc := "(I)Z" } : Jvm.MethodName) prog_1_method_58_code (4 : Nat) (Option.some Jvm.ClassFile.FieldType.boolean)) ∈ TBG := inG5 (i := 68) rfl rfl
theorem q_1030 : (Jvm.Cond.instanceMethod ({ cls := "WindJump", name := "crown", desc := "(II)I" } : Jvm.MethodName)) ∈ TBG := inG5 (i := 70) rfl rfl
theorem q_1031 : (Jvm.Cond.selects "WindJump" ({ cls := "WindJump", name := "crown", desc := "(II)I" } : Jvm.MethodName) ({ cls := "WindJump", name := "crown", desc := "(II)I" } : Jvm.MethodName)) ∈ TBG := inG5 (i := 71) rfl rfl
theorem q_1032 : (Jvm.Cond.code ({ cls := "WindJump", name := "crown", desc := "(II)I" } : Jvm.MethodName) prog_1_method_25_code (5 : Nat) (Option.some Jvm.ClassFile.FieldType.int)) ∈ TBG := inG5 (i := 72) rfl rfl
theorem q_1033 : (Jvm.Cond.methodLink "WindJump" (253 : Nat) ({ cls := "WindJump$Play", name := "copy", desc := "(LWindJump$Play;)V" } : Jvm.MethodName)) ∈ TBG := inG5 (i := 73) rfl rfl
theorem q_1034 : (Jvm.Cond.instanceMethod ({ cls := "WindJump$Play", name := "copy", desc := "(LWindJump$Play;)V" } : Jvm.MethodName)) ∈ TBG := inG5 (i := 74) rfl rfl
theorem q_1035 : (Jvm.Cond.selects "WindJump$Play" ({ cls := "WindJump$Play", name := "copy", desc := "(LWindJump$Play;)V" } : Jvm.MethodName) ({ cls := "WindJump$Play", name := "copy", desc := "(LWindJump$Play;)V" } : Jvm.MethodName)) ∈ TBG := inG5 (i := 75) rfl rfl
theorem q_1036 : (Jvm.Cond.code ({ cls := "WindJump$Play", name := "copy", desc := "(LWindJump$Play;)V" } : Jvm.MethodName) prog_7_method_4_code (2 : Nat) (Option.none : Option Jvm.ClassFile.FieldType)) ∈ TBG := inG5 (i := 76) rfl rfl
theorem q_1038 : (Jvm.Cond.instanceMethod ({ cls := "WindJump", name := "without", desc := "(II)I" } : Jvm.MethodName)) ∈ TBG := inG5 (i := 78) rfl rfl
theorem q_1039 : (Jvm.Cond.selects "WindJump" ({ cls := "WindJump", name := "without", desc := "(II)I" } : Jvm.MethodName) ({ cls := "WindJump", name := "without", desc := "(II)I" } : Jvm.MethodName)) ∈ TBG := inG5 (i := 79) rfl rfl
theorem q_1040 : (Jvm.Cond.code ({ cls := "WindJump", name := "without", desc := "(II)I" } : Jvm.MethodName) prog_1_method_26_code (4 : Nat) (Option.some Jvm.ClassFile.FieldType.int)) ∈ TBG := inG5 (i := 80) rfl rfl
theorem q_1041 : (Jvm.Cond.methodLink "WindJump" (256 : Nat) ({ cls := "WindJump", name := "pointsWithout", desc := "(III)I" } : Jvm.MethodName)) ∈ TBG := inG5 (i := 81) rfl rfl
theorem q_1043 : (Jvm.Cond.instanceMethod ({ cls := "WindJump", name := "pointsWithout", desc := "(III)I" } : Jvm.MethodName)) ∈ TBG := inG5 (i := 83) rfl rfl
theorem q_1044 : (Jvm.Cond.code ({ cls := "WindJump", name := "pointsWithout", desc := "(III)I" } : Jvm.MethodName) prog_1_method_59_code (6 : Nat) (Option.some Jvm.ClassFile.FieldType.int)) ∈ TBG := inG5 (i := 84) rfl rfl
theorem q_1045 : (Jvm.Cond.methodLink "WindJump" (367 : Nat) ({ cls := "WindJump$Play", name := "styleWithout", desc := "(III)I" } : Jvm.MethodName)) ∈ TBG := inG5 (i := 85) rfl rfl
theorem q_1046 : (Jvm.Cond.instanceMethod ({ cls := "WindJump$Play", name := "styleWithout", desc := "(III)I" } : Jvm.MethodName)) ∈ TBG := inG5 (i := 86) rfl rfl
theorem q_1047 : (Jvm.Cond.selects "WindJump$Play" ({ cls := "WindJump$Play", name := "styleWithout", desc := "(III)I" } : Jvm.MethodName) ({ cls := "WindJump$Play", name := "styleWithout", desc := "(III)I" } : Jvm.MethodName)) ∈ TBG := inG5 (i := 87) rfl rfl
theorem q_1048 : (Jvm.Cond.code ({ cls := "WindJump$Play", name := "styleWithout", desc := "(III)I" } : Jvm.MethodName) prog_7_method_11_code (4 : Nat) (Option.some Jvm.ClassFile.FieldType.int)) ∈ TBG := inG5 (i := 88) rfl rfl
theorem q_1049 : (Jvm.Cond.methodLinkNest "WindJump$Play" (82 : Nat) ({ cls := "WindJump", name := "styleOf", desc := "([IIII)I" } : Jvm.MethodName) "WindJump") ∈ NWL := inN5 (i := 89) rfl rfl
theorem q_1050 : (Jvm.Cond.methodLink "WindJump" (272 : Nat) ({ cls := "WindJump$Flight", name := "givenFor", desc := "(I)I" } : Jvm.MethodName)) ∈ TBG := inG5 (i := 90) rfl rfl
theorem q_1051 : (Jvm.Cond.methodLink "WindJump" (275 : Nat) ({ cls := "WindJump$Flight", name := "pointsFor", desc := "(IIII)I" } : Jvm.MethodName)) ∈ TBG := inG5 (i := 91) rfl rfl
theorem q_1052 : (Jvm.Cond.methodLink "WindJump" (259 : Nat) ({ cls := "WindJump", name := "rankAmong", desc := "([III)I" } : Jvm.MethodName)) ∈ TBG := inG5 (i := 92) rfl rfl
theorem q_1054 : (Jvm.Cond.instanceMethod ({ cls := "WindJump", name := "needs", desc := "(I)I" } : Jvm.MethodName)) ∈ TBG := inG5 (i := 94) rfl rfl
theorem q_1055 : (Jvm.Cond.selects "WindJump" ({ cls := "WindJump", name := "needs", desc := "(I)I" } : Jvm.MethodName) ({ cls := "WindJump", name := "needs", desc := "(I)I" } : Jvm.MethodName)) ∈ TBG := inG5 (i := 95) rfl rfl
theorem q_1056 : (Jvm.Cond.code ({ cls := "WindJump", name := "needs", desc := "(I)I" } : Jvm.MethodName) prog_1_method_27_code (6 : Nat) (Option.some Jvm.ClassFile.FieldType.int)) ∈ TBG := inG5 (i := 96) rfl rfl
theorem q_1057 : (Jvm.Cond.methodLink "WindJump" (263 : Nat) ({ cls := "WindJump$Play", name := "isToStart", desc := "(I)Z" } : Jvm.MethodName)) ∈ TBG := inG5 (i := 97) rfl rfl
theorem q_1058 : (Jvm.Cond.instanceMethod ({ cls := "WindJump$Play", name := "isToStart", desc := "(I)Z" } : Jvm.MethodName)) ∈ TBG := inG5 (i := 98) rfl rfl
theorem q_1059 : (Jvm.Cond.selects "WindJump$Play" ({ cls := "WindJump$Play", name := "isToStart", desc := "(I)Z" } : Jvm.MethodName) ({ cls := "WindJump$Play", name := "isToStart", desc := "(I)Z" } : Jvm.MethodName)) ∈ TBG := inG5 (i := 99) rfl rfl
theorem q_1060 : (Jvm.Cond.code ({ cls := "WindJump$Play", name := "isToStart", desc := "(I)Z" } : Jvm.MethodName) prog_7_method_8_code (3 : Nat) (Option.some Jvm.ClassFile.FieldType.boolean)) ∈ TBG := inG5 (i := 100) rfl rfl
theorem q_1061 : (Jvm.Cond.methodLink "WindJump" (266 : Nat) ({ cls := "WindJump$Play", name := "totalToBeFirst", desc := "(I)I" } : Jvm.MethodName)) ∈ TBG := inG5 (i := 101) rfl rfl
theorem q_1062 : (Jvm.Cond.instanceMethod ({ cls := "WindJump$Play", name := "totalToBeFirst", desc := "(I)I" } : Jvm.MethodName)) ∈ TBG := inG5 (i := 102) rfl rfl
theorem q_1063 : (Jvm.Cond.selects "WindJump$Play" ({ cls := "WindJump$Play", name := "totalToBeFirst", desc := "(I)I" } : Jvm.MethodName) ({ cls := "WindJump$Play", name := "totalToBeFirst", desc := "(I)I" } : Jvm.MethodName)) ∈ TBG := inG5 (i := 103) rfl rfl
theorem q_1064 : (Jvm.Cond.code ({ cls := "WindJump$Play", name := "totalToBeFirst", desc := "(I)I" } : Jvm.MethodName) prog_7_method_16_code (4 : Nat) (Option.some Jvm.ClassFile.FieldType.int)) ∈ TBG := inG5 (i := 104) rfl rfl
theorem q_1065 : (Jvm.Cond.methodLink "WindJump$Play" (117 : Nat) ({ cls := "java/lang/Math", name := "max", desc := "(II)I" } : Jvm.MethodName)) ∈ TBG := inG5 (i := 105) rfl rfl
theorem q_1066 : (Jvm.Cond.methodLink "WindJump" (269 : Nat) ({ cls := "WindJump$Flight", name := "mostStyle", desc := "()I" } : Jvm.MethodName)) ∈ TBG := inG5 (i := 106) rfl rfl
theorem q_1067 : (Jvm.Cond.instanceMethod ({ cls := "WindJump$Flight", name := "mostStyle", desc := "()I" } : Jvm.MethodName)) ∈ TBG := inG5 (i := 107) rfl rfl
theorem q_1068 : (Jvm.Cond.selects "WindJump$Flight" ({ cls := "WindJump$Flight", name := "mostStyle", desc := "()I" } : Jvm.MethodName) ({ cls := "WindJump$Flight", name := "mostStyle", desc := "()I" } : Jvm.MethodName)) ∈ TBG := inG5 (i := 108) rfl rfl
theorem q_1069 : (Jvm.Cond.code ({ cls := "WindJump$Flight", name := "mostStyle", desc := "()I" } : Jvm.MethodName) prog_2_method_12_code (1 : Nat) (Option.some Jvm.ClassFile.FieldType.int)) ∈ TBG := inG5 (i := 109) rfl rfl
theorem q_1070 : (Jvm.Cond.methodLink "WindJump$Flight" (144 : Nat) ({ cls := "java/util/Arrays", name := "fill", desc := "([II)V" } : Jvm.MethodName)) ∈ TBG := inG5 (i := 110) rfl rfl
theorem q_1072 : (Jvm.Cond.instanceMethod ({ cls := "WindJump", name := "spread", desc := "(I)I" } : Jvm.MethodName)) ∈ TBG := inG5 (i := 112) rfl rfl
theorem q_1073 : (Jvm.Cond.selects "WindJump" ({ cls := "WindJump", name := "spread", desc := "(I)I" } : Jvm.MethodName) ({ cls := "WindJump", name := "spread", desc := "(I)I" } : Jvm.MethodName)) ∈ TBG := inG5 (i := 113) rfl rfl
theorem q_1074 : (Jvm.Cond.code ({ cls := "WindJump", name := "spread", desc := "(I)I" } : Jvm.MethodName) prog_1_method_28_code (6 : Nat) (Option.some Jvm.ClassFile.FieldType.int)) ∈ TBG := inG5 (i := 114) rfl rfl
theorem q_1076 : (Jvm.Cond.instanceMethod ({ cls := "WindJump", name := "atGate", desc := "(IIZ)I" } : Jvm.MethodName)) ∈ TBG := inG5 (i := 116) rfl rfl
theorem q_1077 : (Jvm.Cond.selects "WindJump" ({ cls := "WindJump", name := "atGate", desc := "(IIZ)I" } : Jvm.MethodName) ({ cls := "WindJump", name := "atGate", desc := "(IIZ)I" } : Jvm.MethodName)) ∈ TBG := inG5 (i := 117) rfl rfl
theorem q_1078 : (Jvm.Cond.code ({ cls := "WindJump", name := "atGate", desc := "(IIZ)I" } : Jvm.MethodName) prog_1_method_29_code (4 : Nat) (Option.some Jvm.ClassFile.FieldType.int)) ∈ TBG := inG5 (i := 118) rfl rfl
theorem q_1080 : (Jvm.Cond.instanceMethod ({ cls := "WindJump", name := "lead", desc := "(I)I" } : Jvm.MethodName)) ∈ TBG := inG5 (i := 120) rfl rfl
theorem q_1081 : (Jvm.Cond.selects "WindJump" ({ cls := "WindJump", name := "lead", desc := "(I)I" } : Jvm.MethodName) ({ cls := "WindJump", name := "lead", desc := "(I)I" } : Jvm.MethodName)) ∈ TBG := inG5 (i := 121) rfl rfl
theorem q_1082 : (Jvm.Cond.code ({ cls := "WindJump", name := "lead", desc := "(I)I" } : Jvm.MethodName) prog_1_method_30_code (2 : Nat) (Option.some Jvm.ClassFile.FieldType.int)) ∈ TBG := inG5 (i := 122) rfl rfl
theorem q_1083 : (Jvm.Cond.methodLink "WindJump" (290 : Nat) ({ cls := "WindJump$Play", name := "mostOfOthers", desc := "(I)I" } : Jvm.MethodName)) ∈ TBG := inG5 (i := 123) rfl rfl
theorem q_1084 : (Jvm.Cond.instanceMethod ({ cls := "WindJump$Play", name := "mostOfOthers", desc := "(I)I" } : Jvm.MethodName)) ∈ TBG := inG5 (i := 124) rfl rfl
theorem q_1085 : (Jvm.Cond.selects "WindJump$Play" ({ cls := "WindJump$Play", name := "mostOfOthers", desc := "(I)I" } : Jvm.MethodName) ({ cls := "WindJump$Play", name := "mostOfOthers", desc := "(I)I" } : Jvm.MethodName)) ∈ TBG := inG5 (i := 125) rfl rfl
theorem q_1086 : (Jvm.Cond.code ({ cls := "WindJump$Play", name := "mostOfOthers", desc := "(I)I" } : Jvm.MethodName) prog_7_method_15_code (4 : Nat) (Option.some Jvm.ClassFile.FieldType.int)) ∈ TBG := inG5 (i := 126) rfl rfl
theorem q_1088 : (Jvm.Cond.instanceMethod ({ cls := "WindJump", name := "reversed", desc := "(I)I" } : Jvm.MethodName)) ∈ TBG := inG5 (i := 128) rfl rfl
theorem q_1089 : (Jvm.Cond.selects "WindJump" ({ cls := "WindJump", name := "reversed", desc := "(I)I" } : Jvm.MethodName) ({ cls := "WindJump", name := "reversed", desc := "(I)I" } : Jvm.MethodName)) ∈ TBG := inG5 (i := 129) rfl rfl
theorem q_1090 : (Jvm.Cond.code ({ cls := "WindJump", name := "reversed", desc := "(I)I" } : Jvm.MethodName) prog_1_method_31_code (2 : Nat) (Option.some Jvm.ClassFile.FieldType.int)) ∈ TBG := inG5 (i := 130) rfl rfl
theorem q_1091 : (Jvm.Cond.methodLink "WindJump" (296 : Nat) ({ cls := "WindJump$Play", name := "turnOrder", desc := "()V" } : Jvm.MethodName)) ∈ TBG := inG5 (i := 131) rfl rfl
theorem q_1092 : (Jvm.Cond.instanceMethod ({ cls := "WindJump$Play", name := "turnOrder", desc := "()V" } : Jvm.MethodName)) ∈ TBG := inG5 (i := 132) rfl rfl
theorem q_1093 : (Jvm.Cond.selects "WindJump$Play" ({ cls := "WindJump$Play", name := "turnOrder", desc := "()V" } : Jvm.MethodName) ({ cls := "WindJump$Play", name := "turnOrder", desc := "()V" } : Jvm.MethodName)) ∈ TBG := inG5 (i := 133) rfl rfl
theorem q_1094 : (Jvm.Cond.code ({ cls := "WindJump$Play", name := "turnOrder", desc := "()V" } : Jvm.MethodName) prog_7_method_3_code (2 : Nat) (Option.none : Option Jvm.ClassFile.FieldType)) ∈ TBG := inG5 (i := 134) rfl rfl
theorem q_1096 : (Jvm.Cond.instanceMethod ({ cls := "WindJump", name := "harsh", desc := "(ZI)I" } : Jvm.MethodName)) ∈ TBG := inG5 (i := 136) rfl rfl
theorem q_1097 : (Jvm.Cond.selects "WindJump" ({ cls := "WindJump", name := "harsh", desc := "(ZI)I" } : Jvm.MethodName) ({ cls := "WindJump", name := "harsh", desc := "(ZI)I" } : Jvm.MethodName)) ∈ TBG := inG5 (i := 137) rfl rfl
theorem q_1098 : (Jvm.Cond.code ({ cls := "WindJump", name := "harsh", desc := "(ZI)I" } : Jvm.MethodName) prog_1_method_32_code (7 : Nat) (Option.some Jvm.ClassFile.FieldType.int)) ∈ TBG := inG5 (i := 138) rfl rfl
theorem q_1099 : (Jvm.Cond.methodLink "WindJump" (302 : Nat) ({ cls := "WindJump$Play", name := "givenBy", desc := "(I)I" } : Jvm.MethodName)) ∈ TBG := inG5 (i := 139) rfl rfl
theorem q_1100 : (Jvm.Cond.instanceMethod ({ cls := "WindJump$Play", name := "givenBy", desc := "(I)I" } : Jvm.MethodName)) ∈ TBG := inG5 (i := 140) rfl rfl
theorem q_1101 : (Jvm.Cond.selects "WindJump$Play" ({ cls := "WindJump$Play", name := "givenBy", desc := "(I)I" } : Jvm.MethodName) ({ cls := "WindJump$Play", name := "givenBy", desc := "(I)I" } : Jvm.MethodName)) ∈ TBG := inG5 (i := 141) rfl rfl
theorem q_1102 : (Jvm.Cond.code ({ cls := "WindJump$Play", name := "givenBy", desc := "(I)I" } : Jvm.MethodName) prog_7_method_17_code (5 : Nat) (Option.some Jvm.ClassFile.FieldType.int)) ∈ TBG := inG5 (i := 142) rfl rfl
theorem q_1103 : (Jvm.Cond.methodLink "WindJump$Play" (122 : Nat) ({ cls := "WindJump$Play", name := "hasJump", desc := "(II)Z" } : Jvm.MethodName)) ∈ TBG := inG5 (i := 143) rfl rfl
theorem q_1105 : (Jvm.Cond.instanceMethod ({ cls := "WindJump", name := "calm", desc := "(II)I" } : Jvm.MethodName)) ∈ TBG := inG5 (i := 145) rfl rfl
theorem q_1106 : (Jvm.Cond.selects "WindJump" ({ cls := "WindJump", name := "calm", desc := "(II)I" } : Jvm.MethodName) ({ cls := "WindJump", name := "calm", desc := "(II)I" } : Jvm.MethodName)) ∈ TBG := inG5 (i := 146) rfl rfl
theorem q_1107 : (Jvm.Cond.code ({ cls := "WindJump", name := "calm", desc := "(II)I" } : Jvm.MethodName) prog_1_method_33_code (6 : Nat) (Option.some Jvm.ClassFile.FieldType.int)) ∈ TBG := inG5 (i := 147) rfl rfl
theorem q_1108 : (Jvm.Cond.methodLink "WindJump" (305 : Nat) ({ cls := "java/lang/Math", name := "abs", desc := "(I)I" } : Jvm.MethodName)) ∈ TBG := inG5 (i := 148) rfl rfl
theorem q_1109 : (Jvm.Cond.static ({ cls := "java/lang/Math", name := "abs", desc := "(I)I" } : Jvm.MethodName)) ∈ TBG := inG5 (i := 149) rfl rfl
theorem q_1110 : (Jvm.Cond.code ({ cls := "java/lang/Math", name := "abs", desc := "(I)I" } : Jvm.MethodName) prog_16_method_59_code (1 : Nat) (Option.some Jvm.ClassFile.FieldType.int)) ∈ TBG := inG5 (i := 150) rfl rfl
theorem q_1112 : (Jvm.Cond.instanceMethod ({ cls := "WindJump", name := "windiest", desc := "(I)I" } : Jvm.MethodName)) ∈ TBG := inG5 (i := 152) rfl rfl
theorem q_1113 : (Jvm.Cond.selects "WindJump" ({ cls := "WindJump", name := "windiest", desc := "(I)I" } : Jvm.MethodName) ({ cls := "WindJump", name := "windiest", desc := "(I)I" } : Jvm.MethodName)) ∈ TBG := inG5 (i := 153) rfl rfl
theorem q_1114 : (Jvm.Cond.code ({ cls := "WindJump", name := "windiest", desc := "(I)I" } : Jvm.MethodName) prog_1_method_34_code (6 : Nat) (Option.some Jvm.ClassFile.FieldType.int)) ∈ TBG := inG5 (i := 154) rfl rfl
theorem q_1116 : (Jvm.Cond.instanceMethod ({ cls := "WindJump", name := "progress", desc := "(I)I" } : Jvm.MethodName)) ∈ TBG := inG5 (i := 156) rfl rfl
theorem q_1117 : (Jvm.Cond.selects "WindJump" ({ cls := "WindJump", name := "progress", desc := "(I)I" } : Jvm.MethodName) ({ cls := "WindJump", name := "progress", desc := "(I)I" } : Jvm.MethodName)) ∈ TBG := inG5 (i := 157) rfl rfl
theorem q_1118 : (Jvm.Cond.code ({ cls := "WindJump", name := "progress", desc := "(I)I" } : Jvm.MethodName) prog_1_method_35_code (2 : Nat) (Option.some Jvm.ClassFile.FieldType.int)) ∈ TBG := inG5 (i := 158) rfl rfl
theorem q_1120 : (Jvm.Cond.instanceMethod ({ cls := "WindJump", name := "himself", desc := "(I)I" } : Jvm.MethodName)) ∈ TBG := inG5 (i := 160) rfl rfl
theorem q_1121 : (Jvm.Cond.selects "WindJump" ({ cls := "WindJump", name := "himself", desc := "(I)I" } : Jvm.MethodName) ({ cls := "WindJump", name := "himself", desc := "(I)I" } : Jvm.MethodName)) ∈ TBG := inG5 (i := 161) rfl rfl
theorem q_1122 : (Jvm.Cond.code ({ cls := "WindJump", name := "himself", desc := "(I)I" } : Jvm.MethodName) prog_1_method_36_code (8 : Nat) (Option.some Jvm.ClassFile.FieldType.int)) ∈ TBG := inG5 (i := 162) rfl rfl
theorem q_1123 : (Jvm.Cond.methodLink "WindJump" (308 : Nat) ({ cls := "WindJump", name := "moreThanHimself", desc := "(II)I" } : Jvm.MethodName)) ∈ TBG := inG5 (i := 163) rfl rfl
theorem q_1125 : (Jvm.Cond.instanceMethod ({ cls := "WindJump", name := "moreThanHimself", desc := "(II)I" } : Jvm.MethodName)) ∈ TBG := inG5 (i := 165) rfl rfl
theorem q_1126 : (Jvm.Cond.code ({ cls := "WindJump", name := "moreThanHimself", desc := "(II)I" } : Jvm.MethodName) prog_1_method_60_code (4 : Nat) (Option.some Jvm.ClassFile.FieldType.int)) ∈ TBG := inG5 (i := 166) rfl rfl
theorem q_1128 : (Jvm.Cond.instanceMethod ({ cls := "WindJump", name := "tell", desc := "(III)I" } : Jvm.MethodName)) ∈ TBG := inG5 (i := 168) rfl rfl
theorem q_1129 : (Jvm.Cond.selects "WindJump" ({ cls := "WindJump", name := "tell", desc := "(III)I" } : Jvm.MethodName) ({ cls := "WindJump", name := "tell", desc := "(III)I" } : Jvm.MethodName)) ∈ TBG := inG5 (i := 169) rfl rfl
theorem q_1130 : (Jvm.Cond.code ({ cls := "WindJump", name := "tell", desc := "(III)I" } : Jvm.MethodName) prog_1_method_37_code (4 : Nat) (Option.some Jvm.ClassFile.FieldType.int)) ∈ TBG := inG5 (i := 170) rfl rfl
theorem q_1131 : (Jvm.Cond.methodLink "WindJump" (311 : Nat) ({ cls := "WindJump$Told", name := "add", desc := "(III)I" } : Jvm.MethodName)) ∈ TBG := inG5 (i := 171) rfl rfl
theorem q_1132 : (Jvm.Cond.instanceMethod ({ cls := "WindJump$Told", name := "add", desc := "(III)I" } : Jvm.MethodName)) ∈ TBG := inG5 (i := 172) rfl rfl
theorem q_1133 : (Jvm.Cond.selects "WindJump$Told" ({ cls := "WindJump$Told", name := "add", desc := "(III)I" } : Jvm.MethodName) ({ cls := "WindJump$Told", name := "add", desc := "(III)I" } : Jvm.MethodName)) ∈ TBG := inG5 (i := 173) rfl rfl
theorem q_1134 : (Jvm.Cond.code ({ cls := "WindJump$Told", name := "add", desc := "(III)I" } : Jvm.MethodName) prog_12_method_2_code (4 : Nat) (Option.some Jvm.ClassFile.FieldType.int)) ∈ TBG := inG5 (i := 174) rfl rfl
theorem q_1136 : (Jvm.Cond.instanceMethod ({ cls := "WindJump", name := "forget", desc := "()I" } : Jvm.MethodName)) ∈ TBG := inG5 (i := 176) rfl rfl
theorem q_1137 : (Jvm.Cond.selects "WindJump" ({ cls := "WindJump", name := "forget", desc := "()I" } : Jvm.MethodName) ({ cls := "WindJump", name := "forget", desc := "()I" } : Jvm.MethodName)) ∈ TBG := inG5 (i := 177) rfl rfl
theorem q_1138 : (Jvm.Cond.code ({ cls := "WindJump", name := "forget", desc := "()I" } : Jvm.MethodName) prog_1_method_38_code (2 : Nat) (Option.some Jvm.ClassFile.FieldType.int)) ∈ TBG := inG5 (i := 178) rfl rfl
theorem q_1140 : (Jvm.Cond.instanceMethod ({ cls := "WindJump", name := "slips", desc := "(III)I" } : Jvm.MethodName)) ∈ TBG := inG5 (i := 180) rfl rfl
theorem q_1141 : (Jvm.Cond.selects "WindJump" ({ cls := "WindJump", name := "slips", desc := "(III)I" } : Jvm.MethodName) ({ cls := "WindJump", name := "slips", desc := "(III)I" } : Jvm.MethodName)) ∈ TBG := inG5 (i := 181) rfl rfl
theorem q_1142 : (Jvm.Cond.code ({ cls := "WindJump", name := "slips", desc := "(III)I" } : Jvm.MethodName) prog_1_method_39_code (6 : Nat) (Option.some Jvm.ClassFile.FieldType.int)) ∈ TBG := inG5 (i := 182) rfl rfl
theorem q_1143 : (Jvm.Cond.methodLink "WindJump" (317 : Nat) ({ cls := "WindJump", name := "mayBeSoLate", desc := "(III)Z" } : Jvm.MethodName)) ∈ TBG := inG5 (i := 183) rfl rfl
theorem q_1145 : (Jvm.Cond.instanceMethod ({ cls := "WindJump", name := "mayBeSoLate", desc := "(III)Z" } : Jvm.MethodName)) ∈ TBG := inG5 (i := 185) rfl rfl
theorem q_1146 : (Jvm.Cond.code ({ cls := "WindJump", name := "mayBeSoLate", desc := "(III)Z" } : Jvm.MethodName) prog_1_method_61_code (5 : Nat) (Option.some Jvm.ClassFile.FieldType.boolean)) ∈ TBG := inG5 (i := 186) rfl rfl
theorem q_1148 : (Jvm.Cond.instanceMethod ({ cls := "WindJump", name := "hold", desc := "(I)Z" } : Jvm.MethodName)) ∈ TBG := inG5 (i := 188) rfl rfl
theorem q_1149 : (Jvm.Cond.selects "WindJump" ({ cls := "WindJump", name := "hold", desc := "(I)Z" } : Jvm.MethodName) ({ cls := "WindJump", name := "hold", desc := "(I)Z" } : Jvm.MethodName)) ∈ TBG := inG5 (i := 189) rfl rfl
theorem q_1150 : (Jvm.Cond.code ({ cls := "WindJump", name := "hold", desc := "(I)Z" } : Jvm.MethodName) prog_1_method_40_code (2 : Nat) (Option.some Jvm.ClassFile.FieldType.boolean)) ∈ TBG := inG5 (i := 190) rfl rfl
theorem q_1151 : (Jvm.Cond.methodLink "WindJump" (320 : Nat) ({ cls := "WindJump$Slots", name := "putInto", desc := "(ILWindJump$Play;)Z" } : Jvm.MethodName)) ∈ TBG := inG5 (i := 191) rfl rfl
theorem q_1152 : (Jvm.Cond.instanceMethod ({ cls := "WindJump$Slots", name := "putInto", desc := "(ILWindJump$Play;)Z" } : Jvm.MethodName)) ∈ TBG := inG5 (i := 192) rfl rfl
theorem q_1153 : (Jvm.Cond.selects "WindJump$Slots" ({ cls := "WindJump$Slots", name := "putInto", desc := "(ILWindJump$Play;)Z" } : Jvm.MethodName) ({ cls := "WindJump$Slots", name := "putInto", desc := "(ILWindJump$Play;)Z" } : Jvm.MethodName)) ∈ TBG := inG5 (i := 193) rfl rfl
theorem q_1154 : (Jvm.Cond.code ({ cls := "WindJump$Slots", name := "putInto", desc := "(ILWindJump$Play;)Z" } : Jvm.MethodName) prog_8_method_3_code (3 : Nat) (Option.some Jvm.ClassFile.FieldType.boolean)) ∈ TBG := inG5 (i := 194) rfl rfl
theorem q_1155 : (Jvm.Cond.methodLinkNest "WindJump$Slots" (20 : Nat) ({ cls := "WindJump", name := "within", desc := "(III)Z" } : Jvm.MethodName) "WindJump") ∈ NWL := inN5 (i := 195) rfl rfl
theorem q_1156 : (Jvm.Cond.methodLink "WindJump$Slots" (26 : Nat) ({ cls := "WindJump$Play", name := "save", desc := "([I)V" } : Jvm.MethodName)) ∈ TBG := inG5 (i := 196) rfl rfl
theorem q_1158 : (Jvm.Cond.instanceMethod ({ cls := "WindJump", name := "restore", desc := "(I)Z" } : Jvm.MethodName)) ∈ TBG := inG5 (i := 198) rfl rfl
theorem q_1159 : (Jvm.Cond.selects "WindJump" ({ cls := "WindJump", name := "restore", desc := "(I)Z" } : Jvm.MethodName) ({ cls := "WindJump", name := "restore", desc := "(I)Z" } : Jvm.MethodName)) ∈ TBG := inG5 (i := 199) rfl rfl
theorem q_1160 : (Jvm.Cond.code ({ cls := "WindJump", name := "restore", desc := "(I)Z" } : Jvm.MethodName) prog_1_method_41_code (2 : Nat) (Option.some Jvm.ClassFile.FieldType.boolean)) ∈ TBG := inG5 (i := 200) rfl rfl
theorem q_1161 : (Jvm.Cond.methodLink "WindJump" (324 : Nat) ({ cls := "WindJump$Slots", name := "giveBack", desc := "(ILWindJump$Play;)Z" } : Jvm.MethodName)) ∈ TBG := inG5 (i := 201) rfl rfl
theorem q_1162 : (Jvm.Cond.instanceMethod ({ cls := "WindJump$Slots", name := "giveBack", desc := "(ILWindJump$Play;)Z" } : Jvm.MethodName)) ∈ TBG := inG5 (i := 202) rfl rfl
theorem q_1163 : (Jvm.Cond.selects "WindJump$Slots" ({ cls := "WindJump$Slots", name := "giveBack", desc := "(ILWindJump$Play;)Z" } : Jvm.MethodName) ({ cls := "WindJump$Slots", name := "giveBack", desc := "(ILWindJump$Play;)Z" } : Jvm.MethodName)) ∈ TBG := inG5 (i := 203) rfl rfl
theorem q_1164 : (Jvm.Cond.code ({ cls := "WindJump$Slots", name := "giveBack", desc := "(ILWindJump$Play;)Z" } : Jvm.MethodName) prog_8_method_4_code (3 : Nat) (Option.some Jvm.ClassFile.FieldType.boolean)) ∈ TBG := inG5 (i := 204) rfl rfl
theorem q_1165 : (Jvm.Cond.methodLink "WindJump$Slots" (30 : Nat) ({ cls := "WindJump$Play", name := "load", desc := "([I)V" } : Jvm.MethodName)) ∈ TBG := inG5 (i := 205) rfl rfl
theorem q_1167 : (Jvm.Cond.instanceMethod ({ cls := "WindJump", name := "count", desc := "(I)I" } : Jvm.MethodName)) ∈ TBG := inG5 (i := 207) rfl rfl
theorem q_1168 : (Jvm.Cond.selects "WindJump" ({ cls := "WindJump", name := "count", desc := "(I)I" } : Jvm.MethodName) ({ cls := "WindJump", name := "count", desc := "(I)I" } : Jvm.MethodName)) ∈ TBG := inG5 (i := 208) rfl rfl
theorem q_1169 : (Jvm.Cond.code ({ cls := "WindJump", name := "count", desc := "(I)I" } : Jvm.MethodName) prog_1_method_42_code (2 : Nat) (Option.some Jvm.ClassFile.FieldType.int)) ∈ TBG := inG5 (i := 209) rfl rfl
theorem q_1170 : (Jvm.Cond.methodLink "WindJump" (340 : Nat) ({ cls := "WindJump$Play", name := "jumpsBeyond", desc := "(I)I" } : Jvm.MethodName)) ∈ TBG := inG5 (i := 210) rfl rfl
theorem q_1171 : (Jvm.Cond.instanceMethod ({ cls := "WindJump$Play", name := "jumpsBeyond", desc := "(I)I" } : Jvm.MethodName)) ∈ TBG := inG5 (i := 211) rfl rfl
theorem q_1172 : (Jvm.Cond.selects "WindJump$Play" ({ cls := "WindJump$Play", name := "jumpsBeyond", desc := "(I)I" } : Jvm.MethodName) ({ cls := "WindJump$Play", name := "jumpsBeyond", desc := "(I)I" } : Jvm.MethodName)) ∈ TBG := inG5 (i := 212) rfl rfl
theorem q_1173 : (Jvm.Cond.code ({ cls := "WindJump$Play", name := "jumpsBeyond", desc := "(I)I" } : Jvm.MethodName) prog_7_method_18_code (5 : Nat) (Option.some Jvm.ClassFile.FieldType.int)) ∈ TBG := inG5 (i := 213) rfl rfl
theorem q_1174 : (Jvm.Cond.methodLink "WindJump" (344 : Nat) ({ cls := "WindJump$Slots", name := "countHeld", desc := "()I" } : Jvm.MethodName)) ∈ TBG := inG5 (i := 214) rfl rfl
theorem q_1175 : (Jvm.Cond.instanceMethod ({ cls := "WindJump$Slots", name := "countHeld", desc := "()I" } : Jvm.MethodName)) ∈ TBG := inG5 (i := 215) rfl rfl
theorem q_1176 : (Jvm.Cond.selects "WindJump$Slots" ({ cls := "WindJump$Slots", name := "countHeld", desc := "()I" } : Jvm.MethodName) ({ cls := "WindJump$Slots", name := "countHeld", desc := "()I" } : Jvm.MethodName)) ∈ TBG := inG5 (i := 216) rfl rfl
theorem q_1177 : (Jvm.Cond.code ({ cls := "WindJump$Slots", name := "countHeld", desc := "()I" } : Jvm.MethodName) prog_8_method_5_code (3 : Nat) (Option.some Jvm.ClassFile.FieldType.int)) ∈ TBG := inG5 (i := 217) rfl rfl
theorem q_1178 : (Jvm.Cond.methodLink "WindJump" (347 : Nat) ({ cls := "WindJump$Play", name := "longest", desc := "()I" } : Jvm.MethodName)) ∈ TBG := inG5 (i := 218) rfl rfl
theorem q_1179 : (Jvm.Cond.instanceMethod ({ cls := "WindJump$Play", name := "longest", desc := "()I" } : Jvm.MethodName)) ∈ TBG := inG5 (i := 219) rfl rfl
theorem q_1180 : (Jvm.Cond.selects "WindJump$Play" ({ cls := "WindJump$Play", name := "longest", desc := "()I" } : Jvm.MethodName) ({ cls := "WindJump$Play", name := "longest", desc := "()I" } : Jvm.MethodName)) ∈ TBG := inG5 (i := 220) rfl rfl
theorem q_1181 : (Jvm.Cond.code ({ cls := "WindJump$Play", name := "longest", desc := "()I" } : Jvm.MethodName) prog_7_method_19_code (3 : Nat) (Option.some Jvm.ClassFile.FieldType.int)) ∈ TBG := inG5 (i := 221) rfl rfl
theorem q_1188 : (Jvm.Cond.methodLink "WindJumpModel" (137 : Nat) ({ cls := "WindJumpModel", name := "plain", desc := "(I)V" } : Jvm.MethodName)) ∈ TBG := inG5 (i := 228) rfl rfl
theorem q_1190 : (Jvm.Cond.instanceMethod ({ cls := "WindJumpModel", name := "plain", desc := "(I)V" } : Jvm.MethodName)) ∈ TBG := inG5 (i := 230) rfl rfl
theorem q_1191 : (Jvm.Cond.code ({ cls := "WindJumpModel", name := "plain", desc := "(I)V" } : Jvm.MethodName) prog_14_method_19_code (4 : Nat) (Option.none : Option Jvm.ClassFile.FieldType)) ∈ TBG := inG5 (i := 231) rfl rfl
theorem q_1193 : (Jvm.Cond.static ({ cls := "WindJumpModel", name := "word", desc := "(IIIIIII)J" } : Jvm.MethodName)) ∈ TBG := inG5 (i := 233) rfl rfl
theorem q_1194 : (Jvm.Cond.code ({ cls := "WindJumpModel", name := "word", desc := "(IIIIIII)J" } : Jvm.MethodName) prog_14_method_10_code (7 : Nat) (Option.some Jvm.ClassFile.FieldType.long)) ∈ TBG := inG5 (i := 234) rfl rfl
theorem q_1195 : (Jvm.Cond.methodLink "WindJumpModel" (162 : Nat) ({ cls := "WindJumpModel", name := "appends", desc := "(JI)J" } : Jvm.MethodName)) ∈ TBG := inG5 (i := 235) rfl rfl
theorem q_1196 : (Jvm.Cond.static ({ cls := "WindJumpModel", name := "appends", desc := "(JI)J" } : Jvm.MethodName)) ∈ TBG := inG5 (i := 236) rfl rfl
theorem q_1197 : (Jvm.Cond.code ({ cls := "WindJumpModel", name := "appends", desc := "(JI)J" } : Jvm.MethodName) prog_14_method_9_code (3 : Nat) (Option.some Jvm.ClassFile.FieldType.long)) ∈ TBG := inG5 (i := 237) rfl rfl
theorem q_1198 : (Jvm.Cond.constantLong "WindJumpModel" (160 : Nat) (27 : Int64)) ∈ TBG := inG5 (i := 238) rfl rfl
theorem q_1199 : (Jvm.Cond.methodLink "WindJumpModel" (145 : Nat) ({ cls := "WindJumpModel", name := "begins", desc := "()V" } : Jvm.MethodName)) ∈ TBG := inG5 (i := 239) rfl rfl
theorem q_1201 : (Jvm.Cond.instanceMethod ({ cls := "WindJumpModel", name := "begins", desc := "()V" } : Jvm.MethodName)) ∈ TBG := inG6 (i := 1) rfl rfl
theorem q_1202 : (Jvm.Cond.code ({ cls := "WindJumpModel", name := "begins", desc := "()V" } : Jvm.MethodName) prog_14_method_39_code (2 : Nat) (Option.none : Option Jvm.ClassFile.FieldType)) ∈ TBG := inG6 (i := 2) rfl rfl
theorem q_1203 : (Jvm.Cond.methodLink "WindJumpModel" (297 : Nat) ({ cls := "WindJumpModel", name := "tell0", desc := "(I)I" } : Jvm.MethodName)) ∈ TBG := inG6 (i := 3) rfl rfl
theorem q_1205 : (Jvm.Cond.instanceMethod ({ cls := "WindJumpModel", name := "tell0", desc := "(I)I" } : Jvm.MethodName)) ∈ TBG := inG6 (i := 5) rfl rfl
theorem q_1206 : (Jvm.Cond.code ({ cls := "WindJumpModel", name := "tell0", desc := "(I)I" } : Jvm.MethodName) prog_14_method_36_code (2 : Nat) (Option.some Jvm.ClassFile.FieldType.int)) ∈ TBG := inG6 (i := 6) rfl rfl
theorem q_1207 : (Jvm.Cond.methodLink "WindJumpModel" (300 : Nat) ({ cls := "WindJumpModel", name := "plainly", desc := "()V" } : Jvm.MethodName)) ∈ TBG := inG6 (i := 7) rfl rfl
theorem q_1209 : (Jvm.Cond.instanceMethod ({ cls := "WindJumpModel", name := "plainly", desc := "()V" } : Jvm.MethodName)) ∈ TBG := inG6 (i := 9) rfl rfl
theorem q_1210 : (Jvm.Cond.code ({ cls := "WindJumpModel", name := "plainly", desc := "()V" } : Jvm.MethodName) prog_14_method_40_code (1 : Nat) (Option.none : Option Jvm.ClassFile.FieldType)) ∈ TBG := inG6 (i := 10) rfl rfl
theorem q_1211 : (Jvm.Cond.methodLink "WindJumpModel" (148 : Nat) ({ cls := "WindJumpModel", name := "keepsRow", desc := "()V" } : Jvm.MethodName)) ∈ TBG := inG6 (i := 11) rfl rfl
theorem q_1213 : (Jvm.Cond.instanceMethod ({ cls := "WindJumpModel", name := "keepsRow", desc := "()V" } : Jvm.MethodName)) ∈ TBG := inG6 (i := 13) rfl rfl
theorem q_1214 : (Jvm.Cond.code ({ cls := "WindJumpModel", name := "keepsRow", desc := "()V" } : Jvm.MethodName) prog_14_method_41_code (2 : Nat) (Option.none : Option Jvm.ClassFile.FieldType)) ∈ TBG := inG6 (i := 14) rfl rfl
theorem q_1215 : (Jvm.Cond.fieldLink "WindJumpModel" (13 : Nat) "WindJumpModel" "tape" "[B") ∈ TBG := inG6 (i := 15) rfl rfl
theorem q_1216 : (Jvm.Cond.fieldLink "WindJumpModel" (151 : Nat) "WindJumpModel" "taped" "I") ∈ TBG := inG6 (i := 16) rfl rfl
theorem q_1217 : (Jvm.Cond.fieldLink "WindJumpModel" (17 : Nat) "WindJumpModel" "text" "[B") ∈ TBG := inG6 (i := 17) rfl rfl
theorem q_1218 : (Jvm.Cond.fieldLink "WindJumpModel" (157 : Nat) "WindJumpModel" "size" "I") ∈ TBG := inG6 (i := 18) rfl rfl
theorem q_1219 : (Jvm.Cond.fieldLink "WindJumpModel" (20 : Nat) "WindJumpModel" "tKind" "[I") ∈ TBG := inG6 (i := 19) rfl rfl
theorem q_1220 : (Jvm.Cond.fieldLink "WindJumpModel" (24 : Nat) "WindJumpModel" "tPlace" "[I") ∈ TBG := inG6 (i := 20) rfl rfl
theorem q_1221 : (Jvm.Cond.fieldLink "WindJumpModel" (27 : Nat) "WindJumpModel" "tValue" "[I") ∈ TBG := inG6 (i := 21) rfl rfl
theorem q_1222 : (Jvm.Cond.fieldLink "WindJumpModel" (30 : Nat) "WindJumpModel" "tName" "[J") ∈ TBG := inG6 (i := 22) rfl rfl
theorem q_1223 : (Jvm.Cond.fieldLink "WindJumpModel" (34 : Nat) "WindJumpModel" "keys" "[J") ∈ TBG := inG6 (i := 23) rfl rfl
theorem q_1224 : (Jvm.Cond.fieldLink "WindJumpModel" (166 : Nat) "WindJumpModel" "tokens" "I") ∈ TBG := inG6 (i := 24) rfl rfl
theorem q_1225 : (Jvm.Cond.fieldLink "WindJumpModel" (191 : Nat) "WindJumpModel" "t" "I") ∈ TBG := inG6 (i := 25) rfl rfl
theorem q_1226 : (Jvm.Cond.fieldLink "WindJumpModel" (215 : Nat) "WindJumpModel" "open" "I") ∈ TBG := inG6 (i := 26) rfl rfl
theorem q_1227 : (Jvm.Cond.fieldLink "WindJumpModel" (188 : Nat) "WindJumpModel" "fault" "I") ∈ TBG := inG6 (i := 27) rfl rfl
theorem q_1228 : (Jvm.Cond.fieldLink "WindJumpModel" (194 : Nat) "WindJumpModel" "faultPlace" "I") ∈ TBG := inG6 (i := 28) rfl rfl
theorem q_1229 : (Jvm.Cond.fieldLink "WindJumpModel" (197 : Nat) "WindJumpModel" "worst" "I") ∈ TBG := inG6 (i := 29) rfl rfl
theorem q_1230 : (Jvm.Cond.fieldLink "WindJumpModel" (200 : Nat) "WindJumpModel" "worstPlace" "I") ∈ TBG := inG6 (i := 30) rfl rfl
theorem q_1231 : (Jvm.Cond.fieldLink "WindJumpModel" (37 : Nat) "WindJumpModel" "place" "I") ∈ TBG := inG6 (i := 31) rfl rfl
theorem q_1232 : (Jvm.Cond.fieldLink "WindJumpModel" (218 : Nat) "WindJumpModel" "live" "I") ∈ TBG := inG6 (i := 32) rfl rfl
theorem q_1233 : (Jvm.Cond.fieldLink "WindJumpModel" (221 : Nat) "WindJumpModel" "side" "I") ∈ TBG := inG6 (i := 33) rfl rfl
theorem q_1234 : (Jvm.Cond.fieldLink "WindJumpModel" (224 : Nat) "WindJumpModel" "names" "I") ∈ TBG := inG6 (i := 34) rfl rfl
theorem q_1235 : (Jvm.Cond.fieldLink "WindJumpModel" (40 : Nat) "WindJumpModel" "nameOf" "[J") ∈ TBG := inG6 (i := 35) rfl rfl
theorem q_1236 : (Jvm.Cond.fieldLink "WindJumpModel" (43 : Nat) "WindJumpModel" "told0" "[I") ∈ TBG := inG6 (i := 36) rfl rfl
theorem q_1237 : (Jvm.Cond.fieldLink "WindJumpModel" (46 : Nat) "WindJumpModel" "men" "[I") ∈ TBG := inG6 (i := 37) rfl rfl
theorem q_1238 : (Jvm.Cond.fieldLink "WindJumpModel" (49 : Nat) "WindJumpModel" "weightOf" "[I") ∈ TBG := inG6 (i := 38) rfl rfl
theorem q_1239 : (Jvm.Cond.fieldLink "WindJumpModel" (52 : Nat) "WindJumpModel" "skiOf" "[I") ∈ TBG := inG6 (i := 39) rfl rfl
theorem q_1240 : (Jvm.Cond.fieldLink "WindJumpModel" (55 : Nat) "WindJumpModel" "slipOf" "[I") ∈ TBG := inG6 (i := 40) rfl rfl
theorem q_1241 : (Jvm.Cond.fieldLink "WindJumpModel" (58 : Nat) "WindJumpModel" "landOf" "[I") ∈ TBG := inG6 (i := 41) rfl rfl
theorem q_1242 : (Jvm.Cond.fieldLink "WindJumpModel" (61 : Nat) "WindJumpModel" "judges" "[I") ∈ TBG := inG6 (i := 42) rfl rfl
theorem q_1243 : (Jvm.Cond.fieldLink "WindJumpModel" (64 : Nat) "WindJumpModel" "leanOf" "[I") ∈ TBG := inG6 (i := 43) rfl rfl
theorem q_1244 : (Jvm.Cond.fieldLink "WindJumpModel" (67 : Nat) "WindJumpModel" "homeOf" "[I") ∈ TBG := inG6 (i := 44) rfl rfl
theorem q_1245 : (Jvm.Cond.fieldLink "WindJumpModel" (70 : Nat) "WindJumpModel" "lawFirst" "[I") ∈ TBG := inG6 (i := 45) rfl rfl
theorem q_1246 : (Jvm.Cond.fieldLink "WindJumpModel" (73 : Nat) "WindJumpModel" "lawLast" "[I") ∈ TBG := inG6 (i := 46) rfl rfl
theorem q_1247 : (Jvm.Cond.fieldLink "WindJumpModel" (227 : Nat) "WindJumpModel" "branches" "I") ∈ TBG := inG6 (i := 47) rfl rfl
theorem q_1248 : (Jvm.Cond.fieldLink "WindJumpModel" (76 : Nat) "WindJumpModel" "hasTest" "[Z") ∈ TBG := inG6 (i := 48) rfl rfl
theorem q_1249 : (Jvm.Cond.fieldLink "WindJumpModel" (80 : Nat) "WindJumpModel" "testFrom" "[I") ∈ TBG := inG6 (i := 49) rfl rfl
theorem q_1250 : (Jvm.Cond.fieldLink "WindJumpModel" (83 : Nat) "WindJumpModel" "testMid" "[I") ∈ TBG := inG6 (i := 50) rfl rfl
theorem q_1251 : (Jvm.Cond.fieldLink "WindJumpModel" (86 : Nat) "WindJumpModel" "testTo" "[I") ∈ TBG := inG6 (i := 51) rfl rfl
theorem q_1252 : (Jvm.Cond.fieldLink "WindJumpModel" (89 : Nat) "WindJumpModel" "termTo" "[I") ∈ TBG := inG6 (i := 52) rfl rfl
theorem q_1253 : (Jvm.Cond.fieldLink "WindJumpModel" (230 : Nat) "WindJumpModel" "codes" "I") ∈ TBG := inG6 (i := 53) rfl rfl
theorem q_1254 : (Jvm.Cond.fieldLink "WindJumpModel" (92 : Nat) "WindJumpModel" "code" "[I") ∈ TBG := inG6 (i := 54) rfl rfl
theorem q_1255 : (Jvm.Cond.fieldLink "WindJumpModel" (95 : Nat) "WindJumpModel" "codeInt" "[I") ∈ TBG := inG6 (i := 55) rfl rfl
theorem q_1256 : (Jvm.Cond.fieldLink "WindJumpModel" (98 : Nat) "WindJumpModel" "waits" "[I") ∈ TBG := inG6 (i := 56) rfl rfl
theorem q_1257 : (Jvm.Cond.fieldLink "WindJumpModel" (276 : Nat) "WindJumpModel" "waiting" "I") ∈ TBG := inG6 (i := 57) rfl rfl
theorem q_1258 : (Jvm.Cond.fieldLink "WindJumpModel" (101 : Nat) "WindJumpModel" "variables" "[I") ∈ TBG := inG6 (i := 58) rfl rfl
theorem q_1259 : (Jvm.Cond.fieldLink "WindJumpModel" (104 : Nat) "WindJumpModel" "pile" "[I") ∈ TBG := inG6 (i := 59) rfl rfl
theorem q_1260 : (Jvm.Cond.fieldLink "WindJumpModel" (289 : Nat) "WindJumpModel" "isBroken" "Z") ∈ TBG := inG6 (i := 60) rfl rfl
theorem q_1261 : (Jvm.Cond.fieldLink "WindJumpModel" (107 : Nat) "WindJumpModel" "now0" "[I") ∈ TBG := inG6 (i := 61) rfl rfl
theorem q_1262 : (Jvm.Cond.fieldLink "WindJumpModel" (110 : Nat) "WindJumpModel" "row" "[I") ∈ TBG := inG6 (i := 62) rfl rfl
theorem q_1263 : (Jvm.Cond.fieldLink "WindJumpModel" (303 : Nat) "WindJumpModel" "lots" "I") ∈ TBG := inG6 (i := 63) rfl rfl
theorem q_1264 : (Jvm.Cond.fieldLink "WindJumpModel" (306 : Nat) "WindJumpModel" "lastFirst" "Z") ∈ TBG := inG6 (i := 64) rfl rfl
theorem q_1265 : (Jvm.Cond.fieldLink "WindJumpModel" (332 : Nat) "WindJumpModel" "who" "I") ∈ TBG := inG6 (i := 65) rfl rfl
theorem q_1266 : (Jvm.Cond.fieldLink "WindJumpModel" (335 : Nat) "WindJumpModel" "late" "I") ∈ TBG := inG6 (i := 66) rfl rfl
theorem q_1267 : (Jvm.Cond.fieldLink "WindJumpModel" (338 : Nat) "WindJumpModel" "atGate" "I") ∈ TBG := inG6 (i := 67) rfl rfl
theorem q_1268 : (Jvm.Cond.fieldLink "WindJumpModel" (341 : Nat) "WindJumpModel" "ahead" "I") ∈ TBG := inG6 (i := 68) rfl rfl
theorem q_1269 : (Jvm.Cond.fieldLink "WindJumpModel" (347 : Nat) "WindJumpModel" "trueWind" "I") ∈ TBG := inG6 (i := 69) rfl rfl
theorem q_1270 : (Jvm.Cond.fieldLink "WindJumpModel" (353 : Nat) "WindJumpModel" "meanWind" "I") ∈ TBG := inG6 (i := 70) rfl rfl
theorem q_1271 : (Jvm.Cond.fieldLink "WindJumpModel" (356 : Nat) "WindJumpModel" "weightLess" "I") ∈ TBG := inG6 (i := 71) rfl rfl
theorem q_1272 : (Jvm.Cond.fieldLink "WindJumpModel" (359 : Nat) "WindJumpModel" "skiLess" "I") ∈ TBG := inG6 (i := 72) rfl rfl
theorem q_1273 : (Jvm.Cond.fieldLink "WindJumpModel" (365 : Nat) "WindJumpModel" "length" "I") ∈ TBG := inG6 (i := 73) rfl rfl
theorem q_1274 : (Jvm.Cond.fieldLink "WindJumpModel" (113 : Nat) "WindJumpModel" "marks" "[I") ∈ TBG := inG6 (i := 74) rfl rfl
theorem q_1275 : (Jvm.Cond.fieldLink "WindJumpModel" (116 : Nat) "WindJumpModel" "notAsked" "I") ∈ TBG := inG6 (i := 75) rfl rfl
theorem q_1276 : (Jvm.Cond.fieldLink "WindJumpModel" (377 : Nat) "WindJumpModel" "style" "I") ∈ TBG := inG6 (i := 76) rfl rfl
theorem q_1277 : (Jvm.Cond.fieldLink "WindJumpModel" (380 : Nat) "WindJumpModel" "points" "I") ∈ TBG := inG6 (i := 77) rfl rfl
theorem q_1278 : (Jvm.Cond.fieldLink "WindJumpModel" (236 : Nat) "WindJumpModel" "undos" "I") ∈ TBG := inG6 (i := 78) rfl rfl
theorem q_1279 : (Jvm.Cond.fieldLink "WindJumpModel" (119 : Nat) "WindJumpModel" "history" "[I") ∈ TBG := inG6 (i := 79) rfl rfl
theorem q_1280 : (Jvm.Cond.fieldLink "WindJumpModel" (239 : Nat) "WindJumpModel" "told" "I") ∈ TBG := inG6 (i := 80) rfl rfl
theorem q_1281 : (Jvm.Cond.fieldLink "WindJumpModel" (122 : Nat) "WindJumpModel" "toldMan" "[I") ∈ TBG := inG6 (i := 81) rfl rfl
theorem q_1282 : (Jvm.Cond.fieldLink "WindJumpModel" (125 : Nat) "WindJumpModel" "toldSecond" "[I") ∈ TBG := inG6 (i := 82) rfl rfl
theorem q_1283 : (Jvm.Cond.fieldLink "WindJumpModel" (128 : Nat) "WindJumpModel" "toldLength" "[I") ∈ TBG := inG6 (i := 83) rfl rfl
theorem q_1284 : (Jvm.Cond.fieldLink "WindJumpModel" (131 : Nat) "WindJumpModel" "isHeld" "[Z") ∈ TBG := inG6 (i := 84) rfl rfl
theorem q_1285 : (Jvm.Cond.fieldLink "WindJumpModel" (134 : Nat) "WindJumpModel" "heldRows" "[I") ∈ TBG := inG6 (i := 85) rfl rfl
theorem q_1433 : (Jvm.Cond.instanceMethod ({ cls := "WindJumpModel", name := "feed", desc := "(IIIII)I" } : Jvm.MethodName)) ∈ TBG := inG6 (i := 233) rfl rfl
theorem q_1434 : (Jvm.Cond.selects "WindJumpModel" ({ cls := "WindJumpModel", name := "feed", desc := "(IIIII)I" } : Jvm.MethodName) ({ cls := "WindJumpModel", name := "feed", desc := "(IIIII)I" } : Jvm.MethodName)) ∈ TBG := inG6 (i := 234) rfl rfl
theorem q_1435 : (Jvm.Cond.code ({ cls := "WindJumpModel", name := "feed", desc := "(IIIII)I" } : Jvm.MethodName) prog_14_method_3_code (6 : Nat) (Option.some Jvm.ClassFile.FieldType.int)) ∈ TBG := inG6 (i := 235) rfl rfl
theorem q_1436 : (Jvm.Cond.methodLink "WindJumpModel" (154 : Nat) ({ cls := "WindJumpModel", name := "put", desc := "(I)V" } : Jvm.MethodName)) ∈ TBG := inG6 (i := 236) rfl rfl
theorem q_1438 : (Jvm.Cond.instanceMethod ({ cls := "WindJumpModel", name := "put", desc := "(I)V" } : Jvm.MethodName)) ∈ TBG := inG6 (i := 238) rfl rfl
theorem q_1439 : (Jvm.Cond.code ({ cls := "WindJumpModel", name := "put", desc := "(I)V" } : Jvm.MethodName) prog_14_method_4_code (3 : Nat) (Option.none : Option Jvm.ClassFile.FieldType)) ∈ TBG := inG6 (i := 239) rfl rfl
theorem q_1441 : (Jvm.Cond.instanceMethod ({ cls := "WindJumpModel", name := "back", desc := "(I)I" } : Jvm.MethodName)) ∈ TBG := inG7 (i := 1) rfl rfl
theorem q_1442 : (Jvm.Cond.selects "WindJumpModel" ({ cls := "WindJumpModel", name := "back", desc := "(I)I" } : Jvm.MethodName) ({ cls := "WindJumpModel", name := "back", desc := "(I)I" } : Jvm.MethodName)) ∈ TBG := inG7 (i := 2) rfl rfl
theorem q_1443 : (Jvm.Cond.code ({ cls := "WindJumpModel", name := "back", desc := "(I)I" } : Jvm.MethodName) prog_14_method_5_code (2 : Nat) (Option.some Jvm.ClassFile.FieldType.int)) ∈ TBG := inG7 (i := 3) rfl rfl
theorem q_1445 : (Jvm.Cond.instanceMethod ({ cls := "WindJumpModel", name := "read", desc := "()I" } : Jvm.MethodName)) ∈ TBG := inG7 (i := 5) rfl rfl
theorem q_1446 : (Jvm.Cond.selects "WindJumpModel" ({ cls := "WindJumpModel", name := "read", desc := "()I" } : Jvm.MethodName) ({ cls := "WindJumpModel", name := "read", desc := "()I" } : Jvm.MethodName)) ∈ TBG := inG7 (i := 6) rfl rfl
theorem q_1447 : (Jvm.Cond.code ({ cls := "WindJumpModel", name := "read", desc := "()I" } : Jvm.MethodName) prog_14_method_20_code (2 : Nat) (Option.some Jvm.ClassFile.FieldType.int)) ∈ TBG := inG7 (i := 7) rfl rfl
theorem q_1448 : (Jvm.Cond.methodLink "WindJumpModel" (212 : Nat) ({ cls := "WindJumpModel", name := "cut", desc := "()V" } : Jvm.MethodName)) ∈ TBG := inG7 (i := 8) rfl rfl
theorem q_1450 : (Jvm.Cond.instanceMethod ({ cls := "WindJumpModel", name := "cut", desc := "()V" } : Jvm.MethodName)) ∈ TBG := inG7 (i := 10) rfl rfl
theorem q_1451 : (Jvm.Cond.code ({ cls := "WindJumpModel", name := "cut", desc := "()V" } : Jvm.MethodName) prog_14_method_12_code (8 : Nat) (Option.none : Option Jvm.ClassFile.FieldType)) ∈ TBG := inG7 (i := 11) rfl rfl
theorem q_1452 : (Jvm.Cond.methodLink "WindJumpModel" (169 : Nat) ({ cls := "WindJumpModel", name := "byteAt", desc := "(I)I" } : Jvm.MethodName)) ∈ TBG := inG7 (i := 12) rfl rfl
theorem q_1454 : (Jvm.Cond.instanceMethod ({ cls := "WindJumpModel", name := "byteAt", desc := "(I)I" } : Jvm.MethodName)) ∈ TBG := inG7 (i := 14) rfl rfl
theorem q_1455 : (Jvm.Cond.code ({ cls := "WindJumpModel", name := "byteAt", desc := "(I)I" } : Jvm.MethodName) prog_14_method_6_code (2 : Nat) (Option.some Jvm.ClassFile.FieldType.int)) ∈ TBG := inG7 (i := 15) rfl rfl
theorem q_1456 : (Jvm.Cond.methodLink "WindJumpModel" (173 : Nat) ({ cls := "WindJumpModel", name := "token", desc := "(IIIJ)V" } : Jvm.MethodName)) ∈ TBG := inG7 (i := 16) rfl rfl
theorem q_1458 : (Jvm.Cond.instanceMethod ({ cls := "WindJumpModel", name := "token", desc := "(IIIJ)V" } : Jvm.MethodName)) ∈ TBG := inG7 (i := 18) rfl rfl
theorem q_1459 : (Jvm.Cond.code ({ cls := "WindJumpModel", name := "token", desc := "(IIIJ)V" } : Jvm.MethodName) prog_14_method_11_code (6 : Nat) (Option.none : Option Jvm.ClassFile.FieldType)) ∈ TBG := inG7 (i := 19) rfl rfl
theorem q_1460 : (Jvm.Cond.methodLink "WindJumpModel" (177 : Nat) ({ cls := "WindJumpModel", name := "isLetter", desc := "(I)Z" } : Jvm.MethodName)) ∈ TBG := inG7 (i := 20) rfl rfl
theorem q_1461 : (Jvm.Cond.static ({ cls := "WindJumpModel", name := "isLetter", desc := "(I)Z" } : Jvm.MethodName)) ∈ TBG := inG7 (i := 21) rfl rfl
theorem q_1462 : (Jvm.Cond.code ({ cls := "WindJumpModel", name := "isLetter", desc := "(I)Z" } : Jvm.MethodName) prog_14_method_8_code (1 : Nat) (Option.some Jvm.ClassFile.FieldType.boolean)) ∈ TBG := inG7 (i := 22) rfl rfl
theorem q_1463 : (Jvm.Cond.methodLink "WindJumpModel" (181 : Nat) ({ cls := "WindJumpModel", name := "isDigit", desc := "(I)Z" } : Jvm.MethodName)) ∈ TBG := inG7 (i := 23) rfl rfl
theorem q_1464 : (Jvm.Cond.static ({ cls := "WindJumpModel", name := "isDigit", desc := "(I)Z" } : Jvm.MethodName)) ∈ TBG := inG7 (i := 24) rfl rfl
theorem q_1465 : (Jvm.Cond.code ({ cls := "WindJumpModel", name := "isDigit", desc := "(I)Z" } : Jvm.MethodName) prog_14_method_7_code (1 : Nat) (Option.some Jvm.ClassFile.FieldType.boolean)) ∈ TBG := inG7 (i := 25) rfl rfl
theorem q_1466 : (Jvm.Cond.methodLink "WindJumpModel" (184 : Nat) ({ cls := "WindJumpModel", name := "sign", desc := "(III)I" } : Jvm.MethodName)) ∈ TBG := inG7 (i := 26) rfl rfl
theorem q_1468 : (Jvm.Cond.instanceMethod ({ cls := "WindJumpModel", name := "sign", desc := "(III)I" } : Jvm.MethodName)) ∈ TBG := inG7 (i := 28) rfl rfl
theorem q_1469 : (Jvm.Cond.code ({ cls := "WindJumpModel", name := "sign", desc := "(III)I" } : Jvm.MethodName) prog_14_method_13_code (5 : Nat) (Option.some Jvm.ClassFile.FieldType.int)) ∈ TBG := inG7 (i := 29) rfl rfl
theorem q_1470 : (Jvm.Cond.methodLink "WindJumpModel" (206 : Nat) ({ cls := "WindJumpModel", name := "is", desc := "(I)Z" } : Jvm.MethodName)) ∈ TBG := inG7 (i := 30) rfl rfl
theorem q_1472 : (Jvm.Cond.instanceMethod ({ cls := "WindJumpModel", name := "is", desc := "(I)Z" } : Jvm.MethodName)) ∈ TBG := inG7 (i := 32) rfl rfl
theorem q_1473 : (Jvm.Cond.code ({ cls := "WindJumpModel", name := "is", desc := "(I)Z" } : Jvm.MethodName) prog_14_method_14_code (2 : Nat) (Option.some Jvm.ClassFile.FieldType.boolean)) ∈ TBG := inG7 (i := 33) rfl rfl
theorem q_1474 : (Jvm.Cond.methodLink "WindJumpModel" (233 : Nat) ({ cls := "WindJumpModel", name := "tellOne", desc := "()V" } : Jvm.MethodName)) ∈ TBG := inG7 (i := 34) rfl rfl
theorem q_1476 : (Jvm.Cond.instanceMethod ({ cls := "WindJumpModel", name := "tellOne", desc := "()V" } : Jvm.MethodName)) ∈ TBG := inG7 (i := 36) rfl rfl
theorem q_1477 : (Jvm.Cond.code ({ cls := "WindJumpModel", name := "tellOne", desc := "()V" } : Jvm.MethodName) prog_14_method_23_code (2 : Nat) (Option.none : Option Jvm.ClassFile.FieldType)) ∈ TBG := inG7 (i := 37) rfl rfl
theorem q_1478 : (Jvm.Cond.methodLink "WindJumpModel" (209 : Nat) ({ cls := "WindJumpModel", name := "goesOn", desc := "()V" } : Jvm.MethodName)) ∈ TBG := inG7 (i := 38) rfl rfl
theorem q_1480 : (Jvm.Cond.instanceMethod ({ cls := "WindJumpModel", name := "goesOn", desc := "()V" } : Jvm.MethodName)) ∈ TBG := inG7 (i := 40) rfl rfl
theorem q_1481 : (Jvm.Cond.code ({ cls := "WindJumpModel", name := "goesOn", desc := "()V" } : Jvm.MethodName) prog_14_method_17_code (1 : Nat) (Option.none : Option Jvm.ClassFile.FieldType)) ∈ TBG := inG7 (i := 41) rfl rfl
theorem q_1482 : (Jvm.Cond.methodLink "WindJumpModel" (203 : Nat) ({ cls := "WindJumpModel", name := "fail", desc := "(I)V" } : Jvm.MethodName)) ∈ TBG := inG7 (i := 42) rfl rfl
theorem q_1484 : (Jvm.Cond.instanceMethod ({ cls := "WindJumpModel", name := "fail", desc := "(I)V" } : Jvm.MethodName)) ∈ TBG := inG7 (i := 44) rfl rfl
theorem q_1485 : (Jvm.Cond.code ({ cls := "WindJumpModel", name := "fail", desc := "(I)V" } : Jvm.MethodName) prog_14_method_15_code (2 : Nat) (Option.none : Option Jvm.ClassFile.FieldType)) ∈ TBG := inG7 (i := 45) rfl rfl
theorem q_1486 : (Jvm.Cond.methodLink "WindJumpModel" (246 : Nat) ({ cls := "WindJumpModel", name := "tellNumber", desc := "(III)V" } : Jvm.MethodName)) ∈ TBG := inG7 (i := 46) rfl rfl
theorem q_1488 : (Jvm.Cond.instanceMethod ({ cls := "WindJumpModel", name := "tellNumber", desc := "(III)V" } : Jvm.MethodName)) ∈ TBG := inG7 (i := 48) rfl rfl
theorem q_1489 : (Jvm.Cond.code ({ cls := "WindJumpModel", name := "tellNumber", desc := "(III)V" } : Jvm.MethodName) prog_14_method_22_code (5 : Nat) (Option.none : Option Jvm.ClassFile.FieldType)) ∈ TBG := inG7 (i := 49) rfl rfl
theorem q_1490 : (Jvm.Cond.methodLink "WindJumpModel" (242 : Nat) ({ cls := "WindJumpModel", name := "bounded", desc := "(II)I" } : Jvm.MethodName)) ∈ TBG := inG7 (i := 50) rfl rfl
theorem q_1492 : (Jvm.Cond.instanceMethod ({ cls := "WindJumpModel", name := "bounded", desc := "(II)I" } : Jvm.MethodName)) ∈ TBG := inG7 (i := 52) rfl rfl
theorem q_1493 : (Jvm.Cond.code ({ cls := "WindJumpModel", name := "bounded", desc := "(II)I" } : Jvm.MethodName) prog_14_method_25_code (4 : Nat) (Option.some Jvm.ClassFile.FieldType.int)) ∈ TBG := inG7 (i := 53) rfl rfl
theorem q_1494 : (Jvm.Cond.methodLink "WindJumpModel" (262 : Nat) ({ cls := "WindJumpModel", name := "wrong", desc := "(II)V" } : Jvm.MethodName)) ∈ TBG := inG7 (i := 54) rfl rfl
theorem q_1496 : (Jvm.Cond.instanceMethod ({ cls := "WindJumpModel", name := "wrong", desc := "(II)V" } : Jvm.MethodName)) ∈ TBG := inG7 (i := 56) rfl rfl
theorem q_1497 : (Jvm.Cond.code ({ cls := "WindJumpModel", name := "wrong", desc := "(II)V" } : Jvm.MethodName) prog_14_method_16_code (4 : Nat) (Option.none : Option Jvm.ClassFile.FieldType)) ∈ TBG := inG7 (i := 57) rfl rfl
theorem q_1498 : (Jvm.Cond.methodLink "WindJumpModel" (250 : Nat) ({ cls := "WindJumpModel", name := "must", desc := "(I)V" } : Jvm.MethodName)) ∈ TBG := inG7 (i := 58) rfl rfl
theorem q_1500 : (Jvm.Cond.instanceMethod ({ cls := "WindJumpModel", name := "must", desc := "(I)V" } : Jvm.MethodName)) ∈ TBG := inG7 (i := 60) rfl rfl
theorem q_1501 : (Jvm.Cond.code ({ cls := "WindJumpModel", name := "must", desc := "(I)V" } : Jvm.MethodName) prog_14_method_18_code (2 : Nat) (Option.none : Option Jvm.ClassFile.FieldType)) ∈ TBG := inG7 (i := 61) rfl rfl
theorem q_1502 : (Jvm.Cond.methodLink "WindJumpModel" (253 : Nat) ({ cls := "WindJumpModel", name := "tellMan", desc := "()V" } : Jvm.MethodName)) ∈ TBG := inG7 (i := 62) rfl rfl
theorem q_1504 : (Jvm.Cond.instanceMethod ({ cls := "WindJumpModel", name := "tellMan", desc := "()V" } : Jvm.MethodName)) ∈ TBG := inG7 (i := 64) rfl rfl
theorem q_1505 : (Jvm.Cond.code ({ cls := "WindJumpModel", name := "tellMan", desc := "()V" } : Jvm.MethodName) prog_14_method_26_code (3 : Nat) (Option.none : Option Jvm.ClassFile.FieldType)) ∈ TBG := inG7 (i := 65) rfl rfl
theorem q_1506 : (Jvm.Cond.methodLink "WindJumpModel" (266 : Nat) ({ cls := "WindJumpModel", name := "named", desc := "()I" } : Jvm.MethodName)) ∈ TBG := inG7 (i := 66) rfl rfl
theorem q_1508 : (Jvm.Cond.instanceMethod ({ cls := "WindJumpModel", name := "named", desc := "()I" } : Jvm.MethodName)) ∈ TBG := inG7 (i := 68) rfl rfl
theorem q_1509 : (Jvm.Cond.code ({ cls := "WindJumpModel", name := "named", desc := "()I" } : Jvm.MethodName) prog_14_method_24_code (3 : Nat) (Option.some Jvm.ClassFile.FieldType.int)) ∈ TBG := inG7 (i := 69) rfl rfl
theorem q_1510 : (Jvm.Cond.methodLink "WindJumpModel" (256 : Nat) ({ cls := "WindJumpModel", name := "tellJudge", desc := "()V" } : Jvm.MethodName)) ∈ TBG := inG7 (i := 70) rfl rfl
theorem q_1512 : (Jvm.Cond.instanceMethod ({ cls := "WindJumpModel", name := "tellJudge", desc := "()V" } : Jvm.MethodName)) ∈ TBG := inG7 (i := 72) rfl rfl
theorem q_1513 : (Jvm.Cond.code ({ cls := "WindJumpModel", name := "tellJudge", desc := "()V" } : Jvm.MethodName) prog_14_method_27_code (5 : Nat) (Option.none : Option Jvm.ClassFile.FieldType)) ∈ TBG := inG7 (i := 73) rfl rfl
theorem q_1514 : (Jvm.Cond.methodLink "WindJumpModel" (259 : Nat) ({ cls := "WindJumpModel", name := "tellLaw", desc := "(I)V" } : Jvm.MethodName)) ∈ TBG := inG7 (i := 74) rfl rfl
theorem q_1516 : (Jvm.Cond.instanceMethod ({ cls := "WindJumpModel", name := "tellLaw", desc := "(I)V" } : Jvm.MethodName)) ∈ TBG := inG7 (i := 76) rfl rfl
theorem q_1517 : (Jvm.Cond.code ({ cls := "WindJumpModel", name := "tellLaw", desc := "(I)V" } : Jvm.MethodName) prog_14_method_28_code (4 : Nat) (Option.none : Option Jvm.ClassFile.FieldType)) ∈ TBG := inG7 (i := 77) rfl rfl
theorem q_1518 : (Jvm.Cond.methodLink "WindJumpModel" (270 : Nat) ({ cls := "WindJumpModel", name := "expression", desc := "()V" } : Jvm.MethodName)) ∈ TBG := inG7 (i := 78) rfl rfl
theorem q_1520 : (Jvm.Cond.instanceMethod ({ cls := "WindJumpModel", name := "expression", desc := "()V" } : Jvm.MethodName)) ∈ TBG := inG7 (i := 80) rfl rfl
theorem q_1521 : (Jvm.Cond.code ({ cls := "WindJumpModel", name := "expression", desc := "()V" } : Jvm.MethodName) prog_14_method_32_code (3 : Nat) (Option.none : Option Jvm.ClassFile.FieldType)) ∈ TBG := inG7 (i := 81) rfl rfl
theorem q_1522 : (Jvm.Cond.methodLink "WindJumpModel" (282 : Nat) ({ cls := "WindJumpModel", name := "unit", desc := "()V" } : Jvm.MethodName)) ∈ TBG := inG7 (i := 82) rfl rfl
theorem q_1524 : (Jvm.Cond.instanceMethod ({ cls := "WindJumpModel", name := "unit", desc := "()V" } : Jvm.MethodName)) ∈ TBG := inG7 (i := 84) rfl rfl
theorem q_1525 : (Jvm.Cond.code ({ cls := "WindJumpModel", name := "unit", desc := "()V" } : Jvm.MethodName) prog_14_method_33_code (1 : Nat) (Option.none : Option Jvm.ClassFile.FieldType)) ∈ TBG := inG7 (i := 85) rfl rfl
theorem q_1526 : (Jvm.Cond.methodLink "WindJumpModel" (279 : Nat) ({ cls := "WindJumpModel", name := "emit", desc := "(II)V" } : Jvm.MethodName)) ∈ TBG := inG7 (i := 86) rfl rfl
theorem q_1528 : (Jvm.Cond.instanceMethod ({ cls := "WindJumpModel", name := "emit", desc := "(II)V" } : Jvm.MethodName)) ∈ TBG := inG7 (i := 88) rfl rfl
theorem q_1529 : (Jvm.Cond.code ({ cls := "WindJumpModel", name := "emit", desc := "(II)V" } : Jvm.MethodName) prog_14_method_30_code (3 : Nat) (Option.none : Option Jvm.ClassFile.FieldType)) ∈ TBG := inG7 (i := 89) rfl rfl
theorem q_1530 : (Jvm.Cond.methodLink "WindJumpModel" (285 : Nat) ({ cls := "WindJumpModel", name := "comesOut", desc := "(Z)V" } : Jvm.MethodName)) ∈ TBG := inG7 (i := 90) rfl rfl
theorem q_1532 : (Jvm.Cond.instanceMethod ({ cls := "WindJumpModel", name := "comesOut", desc := "(Z)V" } : Jvm.MethodName)) ∈ TBG := inG7 (i := 92) rfl rfl
theorem q_1533 : (Jvm.Cond.code ({ cls := "WindJumpModel", name := "comesOut", desc := "(Z)V" } : Jvm.MethodName) prog_14_method_31_code (3 : Nat) (Option.none : Option Jvm.ClassFile.FieldType)) ∈ TBG := inG7 (i := 93) rfl rfl
theorem q_1534 : (Jvm.Cond.methodLink "WindJumpModel" (273 : Nat) ({ cls := "WindJumpModel", name := "term", desc := "()V" } : Jvm.MethodName)) ∈ TBG := inG7 (i := 94) rfl rfl
theorem q_1536 : (Jvm.Cond.instanceMethod ({ cls := "WindJumpModel", name := "term", desc := "()V" } : Jvm.MethodName)) ∈ TBG := inG7 (i := 96) rfl rfl
theorem q_1537 : (Jvm.Cond.code ({ cls := "WindJumpModel", name := "term", desc := "()V" } : Jvm.MethodName) prog_14_method_29_code (1 : Nat) (Option.none : Option Jvm.ClassFile.FieldType)) ∈ TBG := inG7 (i := 97) rfl rfl
theorem q_1539 : (Jvm.Cond.instanceMethod ({ cls := "WindJumpModel", name := "place", desc := "()I" } : Jvm.MethodName)) ∈ TBG := inG7 (i := 99) rfl rfl
theorem q_1540 : (Jvm.Cond.selects "WindJumpModel" ({ cls := "WindJumpModel", name := "place", desc := "()I" } : Jvm.MethodName) ({ cls := "WindJumpModel", name := "place", desc := "()I" } : Jvm.MethodName)) ∈ TBG := inG7 (i := 100) rfl rfl
theorem q_1541 : (Jvm.Cond.code ({ cls := "WindJumpModel", name := "place", desc := "()I" } : Jvm.MethodName) prog_14_method_21_code (1 : Nat) (Option.some Jvm.ClassFile.FieldType.int)) ∈ TBG := inG7 (i := 101) rfl rfl
theorem q_1543 : (Jvm.Cond.instanceMethod ({ cls := "WindJumpModel", name := "now", desc := "(I)I" } : Jvm.MethodName)) ∈ TBG := inG7 (i := 103) rfl rfl
theorem q_1544 : (Jvm.Cond.selects "WindJumpModel" ({ cls := "WindJumpModel", name := "now", desc := "(I)I" } : Jvm.MethodName) ({ cls := "WindJumpModel", name := "now", desc := "(I)I" } : Jvm.MethodName)) ∈ TBG := inG7 (i := 104) rfl rfl
theorem q_1545 : (Jvm.Cond.code ({ cls := "WindJumpModel", name := "now", desc := "(I)I" } : Jvm.MethodName) prog_14_method_64_code (2 : Nat) (Option.some Jvm.ClassFile.FieldType.int)) ∈ TBG := inG7 (i := 105) rfl rfl
theorem q_1546 : (Jvm.Cond.methodLink "WindJumpModel" (412 : Nat) ({ cls := "WindJumpModel", name := "copies", desc := "()V" } : Jvm.MethodName)) ∈ TBG := inG7 (i := 106) rfl rfl
theorem q_1548 : (Jvm.Cond.instanceMethod ({ cls := "WindJumpModel", name := "copies", desc := "()V" } : Jvm.MethodName)) ∈ TBG := inG7 (i := 108) rfl rfl
theorem q_1549 : (Jvm.Cond.code ({ cls := "WindJumpModel", name := "copies", desc := "()V" } : Jvm.MethodName) prog_14_method_42_code (2 : Nat) (Option.none : Option Jvm.ClassFile.FieldType)) ∈ TBG := inG7 (i := 109) rfl rfl
theorem q_1550 : (Jvm.Cond.methodLink "WindJumpModel" (400 : Nat) ({ cls := "WindJumpModel", name := "nextOne", desc := "()I" } : Jvm.MethodName)) ∈ TBG := inG7 (i := 110) rfl rfl
theorem q_1552 : (Jvm.Cond.instanceMethod ({ cls := "WindJumpModel", name := "nextOne", desc := "()I" } : Jvm.MethodName)) ∈ TBG := inG7 (i := 112) rfl rfl
theorem q_1553 : (Jvm.Cond.code ({ cls := "WindJumpModel", name := "nextOne", desc := "()I" } : Jvm.MethodName) prog_14_method_60_code (2 : Nat) (Option.some Jvm.ClassFile.FieldType.int)) ∈ TBG := inG7 (i := 113) rfl rfl
theorem q_1554 : (Jvm.Cond.methodLink "WindJumpModel" (389 : Nat) ({ cls := "WindJumpModel", name := "rankBy", desc := "(II)I" } : Jvm.MethodName)) ∈ TBG := inG7 (i := 114) rfl rfl
theorem q_1556 : (Jvm.Cond.instanceMethod ({ cls := "WindJumpModel", name := "rankBy", desc := "(II)I" } : Jvm.MethodName)) ∈ TBG := inG7 (i := 116) rfl rfl
theorem q_1557 : (Jvm.Cond.code ({ cls := "WindJumpModel", name := "rankBy", desc := "(II)I" } : Jvm.MethodName) prog_14_method_58_code (6 : Nat) (Option.some Jvm.ClassFile.FieldType.int)) ∈ TBG := inG7 (i := 117) rfl rfl
theorem q_1558 : (Jvm.Cond.methodLink "WindJumpModel" (383 : Nat) ({ cls := "WindJumpModel", name := "cell", desc := "(III)I" } : Jvm.MethodName)) ∈ TBG := inG7 (i := 118) rfl rfl
theorem q_1560 : (Jvm.Cond.instanceMethod ({ cls := "WindJumpModel", name := "cell", desc := "(III)I" } : Jvm.MethodName)) ∈ TBG := inG7 (i := 120) rfl rfl
theorem q_1561 : (Jvm.Cond.code ({ cls := "WindJumpModel", name := "cell", desc := "(III)I" } : Jvm.MethodName) prog_14_method_56_code (4 : Nat) (Option.some Jvm.ClassFile.FieldType.int)) ∈ TBG := inG7 (i := 121) rfl rfl
theorem q_1562 : (Jvm.Cond.methodLink "WindJumpModel" (386 : Nat) ({ cls := "WindJumpModel", name := "pointsOf", desc := "(I)I" } : Jvm.MethodName)) ∈ TBG := inG7 (i := 122) rfl rfl
theorem q_1564 : (Jvm.Cond.instanceMethod ({ cls := "WindJumpModel", name := "pointsOf", desc := "(I)I" } : Jvm.MethodName)) ∈ TBG := inG7 (i := 124) rfl rfl
theorem q_1565 : (Jvm.Cond.code ({ cls := "WindJumpModel", name := "pointsOf", desc := "(I)I" } : Jvm.MethodName) prog_14_method_57_code (2 : Nat) (Option.some Jvm.ClassFile.FieldType.int)) ∈ TBG := inG7 (i := 125) rfl rfl
theorem q_1566 : (Jvm.Cond.methodLink "WindJumpModel" (392 : Nat) ({ cls := "WindJumpModel", name := "inSecond", desc := "()I" } : Jvm.MethodName)) ∈ TBG := inG7 (i := 126) rfl rfl
theorem q_1568 : (Jvm.Cond.instanceMethod ({ cls := "WindJumpModel", name := "inSecond", desc := "()I" } : Jvm.MethodName)) ∈ TBG := inG7 (i := 128) rfl rfl
theorem q_1569 : (Jvm.Cond.code ({ cls := "WindJumpModel", name := "inSecond", desc := "()I" } : Jvm.MethodName) prog_14_method_59_code (1 : Nat) (Option.some Jvm.ClassFile.FieldType.int)) ∈ TBG := inG7 (i := 129) rfl rfl
theorem q_1570 : (Jvm.Cond.methodLink "WindJumpModel" (350 : Nat) ({ cls := "WindJumpModel", name := "meanOf", desc := "(I)I" } : Jvm.MethodName)) ∈ TBG := inG7 (i := 130) rfl rfl
theorem q_1572 : (Jvm.Cond.instanceMethod ({ cls := "WindJumpModel", name := "meanOf", desc := "(I)I" } : Jvm.MethodName)) ∈ TBG := inG7 (i := 132) rfl rfl
theorem q_1573 : (Jvm.Cond.code ({ cls := "WindJumpModel", name := "meanOf", desc := "(I)I" } : Jvm.MethodName) prog_14_method_49_code (4 : Nat) (Option.some Jvm.ClassFile.FieldType.int)) ∈ TBG := inG7 (i := 133) rfl rfl
theorem q_1574 : (Jvm.Cond.methodLink "WindJumpModel" (329 : Nat) ({ cls := "WindJumpModel", name := "windOf", desc := "(II)I" } : Jvm.MethodName)) ∈ TBG := inG7 (i := 134) rfl rfl
theorem q_1576 : (Jvm.Cond.instanceMethod ({ cls := "WindJumpModel", name := "windOf", desc := "(II)I" } : Jvm.MethodName)) ∈ TBG := inG7 (i := 136) rfl rfl
theorem q_1577 : (Jvm.Cond.code ({ cls := "WindJumpModel", name := "windOf", desc := "(II)I" } : Jvm.MethodName) prog_14_method_48_code (4 : Nat) (Option.some Jvm.ClassFile.FieldType.int)) ∈ TBG := inG7 (i := 137) rfl rfl
theorem q_1578 : (Jvm.Cond.methodLink "WindJumpModel" (319 : Nat) ({ cls := "WindJumpModel", name := "clears", desc := "()V" } : Jvm.MethodName)) ∈ TBG := inG7 (i := 138) rfl rfl
theorem q_1580 : (Jvm.Cond.instanceMethod ({ cls := "WindJumpModel", name := "clears", desc := "()V" } : Jvm.MethodName)) ∈ TBG := inG7 (i := 140) rfl rfl
theorem q_1581 : (Jvm.Cond.code ({ cls := "WindJumpModel", name := "clears", desc := "()V" } : Jvm.MethodName) prog_14_method_47_code (2 : Nat) (Option.none : Option Jvm.ClassFile.FieldType)) ∈ TBG := inG7 (i := 141) rfl rfl
theorem q_1582 : (Jvm.Cond.methodLink "WindJumpModel" (322 : Nat) ({ cls := "WindJumpModel", name := "tells", desc := "(IIII)I" } : Jvm.MethodName)) ∈ TBG := inG7 (i := 142) rfl rfl
theorem q_1584 : (Jvm.Cond.instanceMethod ({ cls := "WindJumpModel", name := "tells", desc := "(IIII)I" } : Jvm.MethodName)) ∈ TBG := inG7 (i := 144) rfl rfl
theorem q_1585 : (Jvm.Cond.code ({ cls := "WindJumpModel", name := "tells", desc := "(IIII)I" } : Jvm.MethodName) prog_14_method_46_code (9 : Nat) (Option.some Jvm.ClassFile.FieldType.int)) ∈ TBG := inG7 (i := 145) rfl rfl
theorem q_1586 : (Jvm.Cond.methodLink "WindJumpModel" (313 : Nat) ({ cls := "WindJumpModel", name := "held", desc := "(III)I" } : Jvm.MethodName)) ∈ TBG := inG7 (i := 146) rfl rfl
theorem q_1587 : (Jvm.Cond.static ({ cls := "WindJumpModel", name := "held", desc := "(III)I" } : Jvm.MethodName)) ∈ TBG := inG7 (i := 147) rfl rfl
theorem q_1588 : (Jvm.Cond.code ({ cls := "WindJumpModel", name := "held", desc := "(III)I" } : Jvm.MethodName) prog_14_method_45_code (3 : Nat) (Option.some Jvm.ClassFile.FieldType.int)) ∈ TBG := inG7 (i := 148) rfl rfl
theorem q_1589 : (Jvm.Cond.methodLink "WindJumpModel" (316 : Nat) ({ cls := "WindJumpModel", name := "termOf", desc := "(II)I" } : Jvm.MethodName)) ∈ TBG := inG7 (i := 149) rfl rfl
theorem q_1591 : (Jvm.Cond.instanceMethod ({ cls := "WindJumpModel", name := "termOf", desc := "(II)I" } : Jvm.MethodName)) ∈ TBG := inG7 (i := 151) rfl rfl
theorem q_1592 : (Jvm.Cond.code ({ cls := "WindJumpModel", name := "termOf", desc := "(II)I" } : Jvm.MethodName) prog_14_method_34_code (8 : Nat) (Option.some Jvm.ClassFile.FieldType.int)) ∈ TBG := inG7 (i := 152) rfl rfl
theorem q_1593 : (Jvm.Cond.methodLink "WindJumpModel" (326 : Nat) ({ cls := "WindJumpModel", name := "lotOf", desc := "(II)I" } : Jvm.MethodName)) ∈ TBG := inG7 (i := 153) rfl rfl
theorem q_1595 : (Jvm.Cond.instanceMethod ({ cls := "WindJumpModel", name := "lotOf", desc := "(II)I" } : Jvm.MethodName)) ∈ TBG := inG7 (i := 155) rfl rfl
theorem q_1596 : (Jvm.Cond.code ({ cls := "WindJumpModel", name := "lotOf", desc := "(II)I" } : Jvm.MethodName) prog_14_method_44_code (3 : Nat) (Option.some Jvm.ClassFile.FieldType.int)) ∈ TBG := inG7 (i := 156) rfl rfl
theorem q_1597 : (Jvm.Cond.methodLink "WindJumpModel" (310 : Nat) ({ cls := "WindJumpModel", name := "mixed", desc := "(II)I" } : Jvm.MethodName)) ∈ TBG := inG7 (i := 157) rfl rfl
theorem q_1598 : (Jvm.Cond.static ({ cls := "WindJumpModel", name := "mixed", desc := "(II)I" } : Jvm.MethodName)) ∈ TBG := inG7 (i := 158) rfl rfl
theorem q_1599 : (Jvm.Cond.code ({ cls := "WindJumpModel", name := "mixed", desc := "(II)I" } : Jvm.MethodName) prog_14_method_43_code (3 : Nat) (Option.some Jvm.ClassFile.FieldType.int)) ∈ TBG := inG7 (i := 159) rfl rfl
theorem q_1600 : (Jvm.Cond.constant "WindJumpModel" (309 : Nat) (1103515245 : Int32)) ∈ TBG := inG7 (i := 160) rfl rfl
theorem q_1601 : (Jvm.Cond.methodLink "WindJumpModel" (344 : Nat) ({ cls := "WindJumpModel", name := "trueOf", desc := "(I)I" } : Jvm.MethodName)) ∈ TBG := inG7 (i := 161) rfl rfl
theorem q_1603 : (Jvm.Cond.instanceMethod ({ cls := "WindJumpModel", name := "trueOf", desc := "(I)I" } : Jvm.MethodName)) ∈ TBG := inG7 (i := 163) rfl rfl
theorem q_1604 : (Jvm.Cond.code ({ cls := "WindJumpModel", name := "trueOf", desc := "(I)I" } : Jvm.MethodName) prog_14_method_50_code (5 : Nat) (Option.some Jvm.ClassFile.FieldType.int)) ∈ TBG := inG7 (i := 164) rfl rfl
theorem q_1606 : (Jvm.Cond.instanceMethod ({ cls := "WindJumpModel", name := "wind", desc := "(II)I" } : Jvm.MethodName)) ∈ TBG := inG7 (i := 166) rfl rfl
theorem q_1607 : (Jvm.Cond.selects "WindJumpModel" ({ cls := "WindJumpModel", name := "wind", desc := "(II)I" } : Jvm.MethodName) ({ cls := "WindJumpModel", name := "wind", desc := "(II)I" } : Jvm.MethodName)) ∈ TBG := inG7 (i := 167) rfl rfl
theorem q_1608 : (Jvm.Cond.code ({ cls := "WindJumpModel", name := "wind", desc := "(II)I" } : Jvm.MethodName) prog_14_method_65_code (3 : Nat) (Option.some Jvm.ClassFile.FieldType.int)) ∈ TBG := inG7 (i := 168) rfl rfl
theorem q_1609 : (Jvm.Cond.methodLink "WindJumpModel" (293 : Nat) ({ cls := "WindJumpModel", name := "in", desc := "(III)Z" } : Jvm.MethodName)) ∈ TBG := inG7 (i := 169) rfl rfl
theorem q_1610 : (Jvm.Cond.static ({ cls := "WindJumpModel", name := "in", desc := "(III)Z" } : Jvm.MethodName)) ∈ TBG := inG7 (i := 170) rfl rfl
theorem q_1611 : (Jvm.Cond.code ({ cls := "WindJumpModel", name := "in", desc := "(III)Z" } : Jvm.MethodName) prog_14_method_35_code (3 : Nat) (Option.some Jvm.ClassFile.FieldType.boolean)) ∈ TBG := inG7 (i := 171) rfl rfl
theorem q_1612 : (Jvm.Cond.constant "WindJumpModel" (415 : Nat) (99999 : Int32)) ∈ TBG := inG7 (i := 172) rfl rfl
theorem q_1614 : (Jvm.Cond.instanceMethod ({ cls := "WindJumpModel", name := "jump", desc := "(III)I" } : Jvm.MethodName)) ∈ TBG := inG7 (i := 174) rfl rfl
theorem q_1615 : (Jvm.Cond.selects "WindJumpModel" ({ cls := "WindJumpModel", name := "jump", desc := "(III)I" } : Jvm.MethodName) ({ cls := "WindJumpModel", name := "jump", desc := "(III)I" } : Jvm.MethodName)) ∈ TBG := inG7 (i := 175) rfl rfl
theorem q_1616 : (Jvm.Cond.code ({ cls := "WindJumpModel", name := "jump", desc := "(III)I" } : Jvm.MethodName) prog_14_method_67_code (4 : Nat) (Option.some Jvm.ClassFile.FieldType.int)) ∈ TBG := inG7 (i := 176) rfl rfl
theorem q_1617 : (Jvm.Cond.methodLink "WindJumpModel" (419 : Nat) ({ cls := "WindJumpModel", name := "hasJump", desc := "(II)Z" } : Jvm.MethodName)) ∈ TBG := inG7 (i := 177) rfl rfl
theorem q_1619 : (Jvm.Cond.instanceMethod ({ cls := "WindJumpModel", name := "hasJump", desc := "(II)Z" } : Jvm.MethodName)) ∈ TBG := inG7 (i := 179) rfl rfl
theorem q_1620 : (Jvm.Cond.code ({ cls := "WindJumpModel", name := "hasJump", desc := "(II)Z" } : Jvm.MethodName) prog_14_method_66_code (3 : Nat) (Option.some Jvm.ClassFile.FieldType.boolean)) ∈ TBG := inG7 (i := 180) rfl rfl
theorem q_1621 : (Jvm.Cond.methodLink "WindJumpModel" (416 : Nat) ({ cls := "WindJumpModel", name := "isMan", desc := "(I)Z" } : Jvm.MethodName)) ∈ TBG := inG7 (i := 181) rfl rfl
theorem q_1623 : (Jvm.Cond.instanceMethod ({ cls := "WindJumpModel", name := "isMan", desc := "(I)Z" } : Jvm.MethodName)) ∈ TBG := inG7 (i := 183) rfl rfl
theorem q_1624 : (Jvm.Cond.code ({ cls := "WindJumpModel", name := "isMan", desc := "(I)Z" } : Jvm.MethodName) prog_14_method_37_code (2 : Nat) (Option.some Jvm.ClassFile.FieldType.boolean)) ∈ TBG := inG7 (i := 184) rfl rfl
theorem q_1626 : (Jvm.Cond.instanceMethod ({ cls := "WindJumpModel", name := "mark", desc := "(III)I" } : Jvm.MethodName)) ∈ TBG := inG7 (i := 186) rfl rfl
theorem q_1627 : (Jvm.Cond.selects "WindJumpModel" ({ cls := "WindJumpModel", name := "mark", desc := "(III)I" } : Jvm.MethodName) ({ cls := "WindJumpModel", name := "mark", desc := "(III)I" } : Jvm.MethodName)) ∈ TBG := inG7 (i := 187) rfl rfl
theorem q_1628 : (Jvm.Cond.code ({ cls := "WindJumpModel", name := "mark", desc := "(III)I" } : Jvm.MethodName) prog_14_method_68_code (4 : Nat) (Option.some Jvm.ClassFile.FieldType.int)) ∈ TBG := inG7 (i := 188) rfl rfl
theorem q_1629 : (Jvm.Cond.methodLink "WindJumpModel" (422 : Nat) ({ cls := "WindJumpModel", name := "isJudge", desc := "(I)Z" } : Jvm.MethodName)) ∈ TBG := inG7 (i := 189) rfl rfl
theorem q_1631 : (Jvm.Cond.instanceMethod ({ cls := "WindJumpModel", name := "isJudge", desc := "(I)Z" } : Jvm.MethodName)) ∈ TBG := inG7 (i := 191) rfl rfl
theorem q_1632 : (Jvm.Cond.code ({ cls := "WindJumpModel", name := "isJudge", desc := "(I)Z" } : Jvm.MethodName) prog_14_method_38_code (2 : Nat) (Option.some Jvm.ClassFile.FieldType.boolean)) ∈ TBG := inG7 (i := 192) rfl rfl
theorem q_1634 : (Jvm.Cond.instanceMethod ({ cls := "WindJumpModel", name := "points", desc := "(I)I" } : Jvm.MethodName)) ∈ TBG := inG7 (i := 194) rfl rfl
theorem q_1635 : (Jvm.Cond.selects "WindJumpModel" ({ cls := "WindJumpModel", name := "points", desc := "(I)I" } : Jvm.MethodName) ({ cls := "WindJumpModel", name := "points", desc := "(I)I" } : Jvm.MethodName)) ∈ TBG := inG7 (i := 195) rfl rfl
theorem q_1636 : (Jvm.Cond.code ({ cls := "WindJumpModel", name := "points", desc := "(I)I" } : Jvm.MethodName) prog_14_method_69_code (2 : Nat) (Option.some Jvm.ClassFile.FieldType.int)) ∈ TBG := inG7 (i := 196) rfl rfl
theorem q_1638 : (Jvm.Cond.instanceMethod ({ cls := "WindJumpModel", name := "rank", desc := "(I)I" } : Jvm.MethodName)) ∈ TBG := inG7 (i := 198) rfl rfl
theorem q_1639 : (Jvm.Cond.selects "WindJumpModel" ({ cls := "WindJumpModel", name := "rank", desc := "(I)I" } : Jvm.MethodName) ({ cls := "WindJumpModel", name := "rank", desc := "(I)I" } : Jvm.MethodName)) ∈ TBG := inG7 (i := 199) rfl rfl
theorem q_1640 : (Jvm.Cond.code ({ cls := "WindJumpModel", name := "rank", desc := "(I)I" } : Jvm.MethodName) prog_14_method_70_code (2 : Nat) (Option.some Jvm.ClassFile.FieldType.int)) ∈ TBG := inG7 (i := 200) rfl rfl
theorem q_1642 : (Jvm.Cond.instanceMethod ({ cls := "WindJumpModel", name := "ranked", desc := "(I)I" } : Jvm.MethodName)) ∈ TBG := inG7 (i := 202) rfl rfl
theorem q_1643 : (Jvm.Cond.selects "WindJumpModel" ({ cls := "WindJumpModel", name := "ranked", desc := "(I)I" } : Jvm.MethodName) ({ cls := "WindJumpModel", name := "ranked", desc := "(I)I" } : Jvm.MethodName)) ∈ TBG := inG7 (i := 203) rfl rfl
theorem q_1644 : (Jvm.Cond.code ({ cls := "WindJumpModel", name := "ranked", desc := "(I)I" } : Jvm.MethodName) prog_14_method_71_code (3 : Nat) (Option.some Jvm.ClassFile.FieldType.int)) ∈ TBG := inG7 (i := 204) rfl rfl
theorem q_1646 : (Jvm.Cond.instanceMethod ({ cls := "WindJumpModel", name := "start", desc := "(I)I" } : Jvm.MethodName)) ∈ TBG := inG7 (i := 206) rfl rfl
theorem q_1647 : (Jvm.Cond.selects "WindJumpModel" ({ cls := "WindJumpModel", name := "start", desc := "(I)I" } : Jvm.MethodName) ({ cls := "WindJumpModel", name := "start", desc := "(I)I" } : Jvm.MethodName)) ∈ TBG := inG7 (i := 207) rfl rfl
theorem q_1648 : (Jvm.Cond.code ({ cls := "WindJumpModel", name := "start", desc := "(I)I" } : Jvm.MethodName) prog_14_method_73_code (3 : Nat) (Option.some Jvm.ClassFile.FieldType.int)) ∈ TBG := inG7 (i := 208) rfl rfl
theorem q_1649 : (Jvm.Cond.methodLink "WindJumpModel" (425 : Nat) ({ cls := "WindJumpModel", name := "starts", desc := "()V" } : Jvm.MethodName)) ∈ TBG := inG7 (i := 209) rfl rfl
theorem q_1651 : (Jvm.Cond.instanceMethod ({ cls := "WindJumpModel", name := "starts", desc := "()V" } : Jvm.MethodName)) ∈ TBG := inG7 (i := 211) rfl rfl
theorem q_1652 : (Jvm.Cond.code ({ cls := "WindJumpModel", name := "starts", desc := "()V" } : Jvm.MethodName) prog_14_method_62_code (3 : Nat) (Option.none : Option Jvm.ClassFile.FieldType)) ∈ TBG := inG7 (i := 212) rfl rfl
theorem q_1653 : (Jvm.Cond.methodLink "WindJumpModel" (403 : Nat) ({ cls := "WindJumpModel", name := "isLetGo", desc := "(II)Z" } : Jvm.MethodName)) ∈ TBG := inG7 (i := 213) rfl rfl
theorem q_1655 : (Jvm.Cond.instanceMethod ({ cls := "WindJumpModel", name := "isLetGo", desc := "(II)Z" } : Jvm.MethodName)) ∈ TBG := inG7 (i := 215) rfl rfl
theorem q_1656 : (Jvm.Cond.code ({ cls := "WindJumpModel", name := "isLetGo", desc := "(II)Z" } : Jvm.MethodName) prog_14_method_63_code (4 : Nat) (Option.some Jvm.ClassFile.FieldType.boolean)) ∈ TBG := inG7 (i := 216) rfl rfl
theorem q_1657 : (Jvm.Cond.constant "WindJumpModel" (410 : Nat) (-2147483647 : Int32)) ∈ TBG := inG7 (i := 217) rfl rfl
theorem q_1658 : (Jvm.Cond.constant "WindJumpModel" (411 : Nat) (2147483647 : Int32)) ∈ TBG := inG7 (i := 218) rfl rfl
theorem q_1659 : (Jvm.Cond.methodLink "WindJumpModel" (407 : Nat) ({ cls := "WindJumpModel", name := "letsGo", desc := "(II)V" } : Jvm.MethodName)) ∈ TBG := inG7 (i := 219) rfl rfl
theorem q_1661 : (Jvm.Cond.instanceMethod ({ cls := "WindJumpModel", name := "letsGo", desc := "(II)V" } : Jvm.MethodName)) ∈ TBG := inG7 (i := 221) rfl rfl
theorem q_1662 : (Jvm.Cond.code ({ cls := "WindJumpModel", name := "letsGo", desc := "(II)V" } : Jvm.MethodName) prog_14_method_61_code (6 : Nat) (Option.none : Option Jvm.ClassFile.FieldType)) ∈ TBG := inG7 (i := 222) rfl rfl
theorem q_1663 : (Jvm.Cond.constant "WindJumpModel" (395 : Nat) (100000 : Int32)) ∈ TBG := inG7 (i := 223) rfl rfl
theorem q_1664 : (Jvm.Cond.methodLink "WindJumpModel" (396 : Nat) ({ cls := "WindJumpModel", name := "setsJump", desc := "(IIIII)V" } : Jvm.MethodName)) ∈ TBG := inG7 (i := 224) rfl rfl
theorem q_1666 : (Jvm.Cond.instanceMethod ({ cls := "WindJumpModel", name := "setsJump", desc := "(IIIII)V" } : Jvm.MethodName)) ∈ TBG := inG7 (i := 226) rfl rfl
theorem q_1667 : (Jvm.Cond.code ({ cls := "WindJumpModel", name := "setsJump", desc := "(IIIII)V" } : Jvm.MethodName) prog_14_method_51_code (6 : Nat) (Option.none : Option Jvm.ClassFile.FieldType)) ∈ TBG := inG7 (i := 227) rfl rfl
theorem q_1668 : (Jvm.Cond.methodLink "WindJumpModel" (362 : Nat) ({ cls := "WindJumpModel", name := "jumps", desc := "()V" } : Jvm.MethodName)) ∈ TBG := inG7 (i := 228) rfl rfl
theorem q_1670 : (Jvm.Cond.instanceMethod ({ cls := "WindJumpModel", name := "jumps", desc := "()V" } : Jvm.MethodName)) ∈ TBG := inG7 (i := 230) rfl rfl
theorem q_1671 : (Jvm.Cond.code ({ cls := "WindJumpModel", name := "jumps", desc := "()V" } : Jvm.MethodName) prog_14_method_52_code (2 : Nat) (Option.none : Option Jvm.ClassFile.FieldType)) ∈ TBG := inG7 (i := 231) rfl rfl
theorem q_1672 : (Jvm.Cond.methodLink "WindJumpModel" (368 : Nat) ({ cls := "WindJumpModel", name := "marksAll", desc := "()V" } : Jvm.MethodName)) ∈ TBG := inG7 (i := 232) rfl rfl
theorem q_1674 : (Jvm.Cond.instanceMethod ({ cls := "WindJumpModel", name := "marksAll", desc := "()V" } : Jvm.MethodName)) ∈ TBG := inG7 (i := 234) rfl rfl
theorem q_1675 : (Jvm.Cond.code ({ cls := "WindJumpModel", name := "marksAll", desc := "()V" } : Jvm.MethodName) prog_14_method_53_code (2 : Nat) (Option.none : Option Jvm.ClassFile.FieldType)) ∈ TBG := inG7 (i := 235) rfl rfl
theorem q_1676 : (Jvm.Cond.methodLink "WindJumpModel" (371 : Nat) ({ cls := "WindJumpModel", name := "setsStyle", desc := "()V" } : Jvm.MethodName)) ∈ TBG := inG7 (i := 236) rfl rfl
theorem q_1678 : (Jvm.Cond.instanceMethod ({ cls := "WindJumpModel", name := "setsStyle", desc := "()V" } : Jvm.MethodName)) ∈ TBG := inG7 (i := 238) rfl rfl
theorem q_1679 : (Jvm.Cond.code ({ cls := "WindJumpModel", name := "setsStyle", desc := "()V" } : Jvm.MethodName) prog_14_method_54_code (6 : Nat) (Option.none : Option Jvm.ClassFile.FieldType)) ∈ TBG := inG7 (i := 239) rfl rfl
theorem q_1680 : (Jvm.Cond.methodLink "WindJumpModel" (374 : Nat) ({ cls := "WindJumpModel", name := "setsPoints", desc := "()V" } : Jvm.MethodName)) ∈ TBG := inG8 (i := 0) rfl rfl
theorem q_1682 : (Jvm.Cond.instanceMethod ({ cls := "WindJumpModel", name := "setsPoints", desc := "()V" } : Jvm.MethodName)) ∈ TBG := inG8 (i := 2) rfl rfl
theorem q_1683 : (Jvm.Cond.code ({ cls := "WindJumpModel", name := "setsPoints", desc := "()V" } : Jvm.MethodName) prog_14_method_55_code (3 : Nat) (Option.none : Option Jvm.ClassFile.FieldType)) ∈ TBG := inG8 (i := 3) rfl rfl
theorem q_1684 : (Jvm.Cond.methodLink "WindJumpModel" (428 : Nat) ({ cls := "WindJumpModel", name := "keeps", desc := "()V" } : Jvm.MethodName)) ∈ TBG := inG8 (i := 4) rfl rfl
theorem q_1686 : (Jvm.Cond.instanceMethod ({ cls := "WindJumpModel", name := "keeps", desc := "()V" } : Jvm.MethodName)) ∈ TBG := inG8 (i := 6) rfl rfl
theorem q_1687 : (Jvm.Cond.code ({ cls := "WindJumpModel", name := "keeps", desc := "()V" } : Jvm.MethodName) prog_14_method_72_code (2 : Nat) (Option.none : Option Jvm.ClassFile.FieldType)) ∈ TBG := inG8 (i := 7) rfl rfl
theorem q_1689 : (Jvm.Cond.instanceMethod ({ cls := "WindJumpModel", name := "letGo", desc := "(I)I" } : Jvm.MethodName)) ∈ TBG := inG8 (i := 9) rfl rfl
theorem q_1690 : (Jvm.Cond.selects "WindJumpModel" ({ cls := "WindJumpModel", name := "letGo", desc := "(I)I" } : Jvm.MethodName) ({ cls := "WindJumpModel", name := "letGo", desc := "(I)I" } : Jvm.MethodName)) ∈ TBG := inG8 (i := 10) rfl rfl
theorem q_1691 : (Jvm.Cond.code ({ cls := "WindJumpModel", name := "letGo", desc := "(I)I" } : Jvm.MethodName) prog_14_method_74_code (3 : Nat) (Option.some Jvm.ClassFile.FieldType.int)) ∈ TBG := inG8 (i := 11) rfl rfl
theorem q_1693 : (Jvm.Cond.instanceMethod ({ cls := "WindJumpModel", name := "gate", desc := "(I)Z" } : Jvm.MethodName)) ∈ TBG := inG8 (i := 13) rfl rfl
theorem q_1694 : (Jvm.Cond.selects "WindJumpModel" ({ cls := "WindJumpModel", name := "gate", desc := "(I)Z" } : Jvm.MethodName) ({ cls := "WindJumpModel", name := "gate", desc := "(I)Z" } : Jvm.MethodName)) ∈ TBG := inG8 (i := 14) rfl rfl
theorem q_1695 : (Jvm.Cond.code ({ cls := "WindJumpModel", name := "gate", desc := "(I)Z" } : Jvm.MethodName) prog_14_method_75_code (2 : Nat) (Option.some Jvm.ClassFile.FieldType.boolean)) ∈ TBG := inG8 (i := 15) rfl rfl
theorem q_1697 : (Jvm.Cond.instanceMethod ({ cls := "WindJumpModel", name := "pause", desc := "(I)I" } : Jvm.MethodName)) ∈ TBG := inG8 (i := 17) rfl rfl
theorem q_1698 : (Jvm.Cond.selects "WindJumpModel" ({ cls := "WindJumpModel", name := "pause", desc := "(I)I" } : Jvm.MethodName) ({ cls := "WindJumpModel", name := "pause", desc := "(I)I" } : Jvm.MethodName)) ∈ TBG := inG8 (i := 18) rfl rfl
theorem q_1699 : (Jvm.Cond.code ({ cls := "WindJumpModel", name := "pause", desc := "(I)I" } : Jvm.MethodName) prog_14_method_76_code (2 : Nat) (Option.some Jvm.ClassFile.FieldType.int)) ∈ TBG := inG8 (i := 19) rfl rfl
theorem q_1701 : (Jvm.Cond.instanceMethod ({ cls := "WindJumpModel", name := "undo", desc := "()Z" } : Jvm.MethodName)) ∈ TBG := inG8 (i := 21) rfl rfl
theorem q_1702 : (Jvm.Cond.selects "WindJumpModel" ({ cls := "WindJumpModel", name := "undo", desc := "()Z" } : Jvm.MethodName) ({ cls := "WindJumpModel", name := "undo", desc := "()Z" } : Jvm.MethodName)) ∈ TBG := inG8 (i := 22) rfl rfl
theorem q_1703 : (Jvm.Cond.code ({ cls := "WindJumpModel", name := "undo", desc := "()Z" } : Jvm.MethodName) prog_14_method_77_code (2 : Nat) (Option.some Jvm.ClassFile.FieldType.boolean)) ∈ TBG := inG8 (i := 23) rfl rfl
theorem q_1705 : (Jvm.Cond.instanceMethod ({ cls := "WindJumpModel", name := "attempt", desc := "(IIII)I" } : Jvm.MethodName)) ∈ TBG := inG8 (i := 25) rfl rfl
theorem q_1706 : (Jvm.Cond.selects "WindJumpModel" ({ cls := "WindJumpModel", name := "attempt", desc := "(IIII)I" } : Jvm.MethodName) ({ cls := "WindJumpModel", name := "attempt", desc := "(IIII)I" } : Jvm.MethodName)) ∈ TBG := inG8 (i := 26) rfl rfl
theorem q_1707 : (Jvm.Cond.code ({ cls := "WindJumpModel", name := "attempt", desc := "(IIII)I" } : Jvm.MethodName) prog_14_method_79_code (5 : Nat) (Option.some Jvm.ClassFile.FieldType.int)) ∈ TBG := inG8 (i := 27) rfl rfl
theorem q_1708 : (Jvm.Cond.methodLink "WindJumpModel" (431 : Nat) ({ cls := "WindJumpModel", name := "tries", desc := "(III)V" } : Jvm.MethodName)) ∈ TBG := inG8 (i := 28) rfl rfl
theorem q_1710 : (Jvm.Cond.instanceMethod ({ cls := "WindJumpModel", name := "tries", desc := "(III)V" } : Jvm.MethodName)) ∈ TBG := inG8 (i := 30) rfl rfl
theorem q_1711 : (Jvm.Cond.code ({ cls := "WindJumpModel", name := "tries", desc := "(III)V" } : Jvm.MethodName) prog_14_method_78_code (4 : Nat) (Option.none : Option Jvm.ClassFile.FieldType)) ∈ TBG := inG8 (i := 31) rfl rfl
theorem q_1713 : (Jvm.Cond.instanceMethod ({ cls := "WindJumpModel", name := "wait", desc := "(II)I" } : Jvm.MethodName)) ∈ TBG := inG8 (i := 33) rfl rfl
theorem q_1714 : (Jvm.Cond.selects "WindJumpModel" ({ cls := "WindJumpModel", name := "wait", desc := "(II)I" } : Jvm.MethodName) ({ cls := "WindJumpModel", name := "wait", desc := "(II)I" } : Jvm.MethodName)) ∈ TBG := inG8 (i := 34) rfl rfl
theorem q_1715 : (Jvm.Cond.code ({ cls := "WindJumpModel", name := "wait", desc := "(II)I" } : Jvm.MethodName) prog_14_method_80_code (8 : Nat) (Option.some Jvm.ClassFile.FieldType.int)) ∈ TBG := inG8 (i := 35) rfl rfl
theorem q_1717 : (Jvm.Cond.instanceMethod ({ cls := "WindJumpModel", name := "cost", desc := "(IIZ)I" } : Jvm.MethodName)) ∈ TBG := inG8 (i := 37) rfl rfl
theorem q_1718 : (Jvm.Cond.selects "WindJumpModel" ({ cls := "WindJumpModel", name := "cost", desc := "(IIZ)I" } : Jvm.MethodName) ({ cls := "WindJumpModel", name := "cost", desc := "(IIZ)I" } : Jvm.MethodName)) ∈ TBG := inG8 (i := 38) rfl rfl
theorem q_1719 : (Jvm.Cond.code ({ cls := "WindJumpModel", name := "cost", desc := "(IIZ)I" } : Jvm.MethodName) prog_14_method_81_code (5 : Nat) (Option.some Jvm.ClassFile.FieldType.int)) ∈ TBG := inG8 (i := 39) rfl rfl
theorem q_1721 : (Jvm.Cond.instanceMethod ({ cls := "WindJumpModel", name := "pound", desc := "(III)I" } : Jvm.MethodName)) ∈ TBG := inG8 (i := 41) rfl rfl
theorem q_1722 : (Jvm.Cond.selects "WindJumpModel" ({ cls := "WindJumpModel", name := "pound", desc := "(III)I" } : Jvm.MethodName) ({ cls := "WindJumpModel", name := "pound", desc := "(III)I" } : Jvm.MethodName)) ∈ TBG := inG8 (i := 42) rfl rfl
theorem q_1723 : (Jvm.Cond.code ({ cls := "WindJumpModel", name := "pound", desc := "(III)I" } : Jvm.MethodName) prog_14_method_82_code (5 : Nat) (Option.some Jvm.ClassFile.FieldType.int)) ∈ TBG := inG8 (i := 43) rfl rfl
theorem q_1725 : (Jvm.Cond.instanceMethod ({ cls := "WindJumpModel", name := "gain", desc := "(I)I" } : Jvm.MethodName)) ∈ TBG := inG8 (i := 45) rfl rfl
theorem q_1726 : (Jvm.Cond.selects "WindJumpModel" ({ cls := "WindJumpModel", name := "gain", desc := "(I)I" } : Jvm.MethodName) ({ cls := "WindJumpModel", name := "gain", desc := "(I)I" } : Jvm.MethodName)) ∈ TBG := inG8 (i := 46) rfl rfl
theorem q_1727 : (Jvm.Cond.code ({ cls := "WindJumpModel", name := "gain", desc := "(I)I" } : Jvm.MethodName) prog_14_method_83_code (3 : Nat) (Option.some Jvm.ClassFile.FieldType.int)) ∈ TBG := inG8 (i := 47) rfl rfl
theorem q_1729 : (Jvm.Cond.instanceMethod ({ cls := "WindJumpModel", name := "number", desc := "(I)I" } : Jvm.MethodName)) ∈ TBG := inG8 (i := 49) rfl rfl
theorem q_1730 : (Jvm.Cond.selects "WindJumpModel" ({ cls := "WindJumpModel", name := "number", desc := "(I)I" } : Jvm.MethodName) ({ cls := "WindJumpModel", name := "number", desc := "(I)I" } : Jvm.MethodName)) ∈ TBG := inG8 (i := 50) rfl rfl
theorem q_1731 : (Jvm.Cond.code ({ cls := "WindJumpModel", name := "number", desc := "(I)I" } : Jvm.MethodName) prog_14_method_84_code (3 : Nat) (Option.some Jvm.ClassFile.FieldType.int)) ∈ TBG := inG8 (i := 51) rfl rfl
theorem q_1733 : (Jvm.Cond.instanceMethod ({ cls := "WindJumpModel", name := "gates", desc := "(I)I" } : Jvm.MethodName)) ∈ TBG := inG8 (i := 53) rfl rfl
theorem q_1734 : (Jvm.Cond.selects "WindJumpModel" ({ cls := "WindJumpModel", name := "gates", desc := "(I)I" } : Jvm.MethodName) ({ cls := "WindJumpModel", name := "gates", desc := "(I)I" } : Jvm.MethodName)) ∈ TBG := inG8 (i := 54) rfl rfl
theorem q_1735 : (Jvm.Cond.code ({ cls := "WindJumpModel", name := "gates", desc := "(I)I" } : Jvm.MethodName) prog_14_method_86_code (5 : Nat) (Option.some Jvm.ClassFile.FieldType.int)) ∈ TBG := inG8 (i := 55) rfl rfl
theorem q_1736 : (Jvm.Cond.methodLink "WindJumpModel" (434 : Nat) ({ cls := "WindJumpModel", name := "isSafe", desc := "(I)Z" } : Jvm.MethodName)) ∈ TBG := inG8 (i := 56) rfl rfl
theorem q_1738 : (Jvm.Cond.instanceMethod ({ cls := "WindJumpModel", name := "isSafe", desc := "(I)Z" } : Jvm.MethodName)) ∈ TBG := inG8 (i := 58) rfl rfl
theorem q_1739 : (Jvm.Cond.code ({ cls := "WindJumpModel", name := "isSafe", desc := "(I)Z" } : Jvm.MethodName) prog_14_method_85_code (4 : Nat) (Option.some Jvm.ClassFile.FieldType.boolean)) ∈ TBG := inG8 (i := 59) rfl rfl
theorem q_1741 : (Jvm.Cond.instanceMethod ({ cls := "WindJumpModel", name := "crown", desc := "(II)I" } : Jvm.MethodName)) ∈ TBG := inG8 (i := 61) rfl rfl
theorem q_1742 : (Jvm.Cond.selects "WindJumpModel" ({ cls := "WindJumpModel", name := "crown", desc := "(II)I" } : Jvm.MethodName) ({ cls := "WindJumpModel", name := "crown", desc := "(II)I" } : Jvm.MethodName)) ∈ TBG := inG8 (i := 62) rfl rfl
theorem q_1743 : (Jvm.Cond.code ({ cls := "WindJumpModel", name := "crown", desc := "(II)I" } : Jvm.MethodName) prog_14_method_88_code (5 : Nat) (Option.some Jvm.ClassFile.FieldType.int)) ∈ TBG := inG8 (i := 63) rfl rfl
theorem q_1744 : (Jvm.Cond.methodLink "WindJumpModel" (437 : Nat) ({ cls := "WindJumpModel", name := "startsAll", desc := "()V" } : Jvm.MethodName)) ∈ TBG := inG8 (i := 64) rfl rfl
theorem q_1746 : (Jvm.Cond.instanceMethod ({ cls := "WindJumpModel", name := "startsAll", desc := "()V" } : Jvm.MethodName)) ∈ TBG := inG8 (i := 66) rfl rfl
theorem q_1747 : (Jvm.Cond.code ({ cls := "WindJumpModel", name := "startsAll", desc := "()V" } : Jvm.MethodName) prog_14_method_87_code (1 : Nat) (Option.none : Option Jvm.ClassFile.FieldType)) ∈ TBG := inG8 (i := 67) rfl rfl
theorem q_1749 : (Jvm.Cond.instanceMethod ({ cls := "WindJumpModel", name := "reversed", desc := "(I)I" } : Jvm.MethodName)) ∈ TBG := inG8 (i := 69) rfl rfl
theorem q_1750 : (Jvm.Cond.selects "WindJumpModel" ({ cls := "WindJumpModel", name := "reversed", desc := "(I)I" } : Jvm.MethodName) ({ cls := "WindJumpModel", name := "reversed", desc := "(I)I" } : Jvm.MethodName)) ∈ TBG := inG8 (i := 70) rfl rfl
theorem q_1751 : (Jvm.Cond.code ({ cls := "WindJumpModel", name := "reversed", desc := "(I)I" } : Jvm.MethodName) prog_14_method_89_code (2 : Nat) (Option.some Jvm.ClassFile.FieldType.int)) ∈ TBG := inG8 (i := 71) rfl rfl
theorem q_1753 : (Jvm.Cond.instanceMethod ({ cls := "WindJumpModel", name := "without", desc := "(II)I" } : Jvm.MethodName)) ∈ TBG := inG8 (i := 73) rfl rfl
theorem q_1754 : (Jvm.Cond.selects "WindJumpModel" ({ cls := "WindJumpModel", name := "without", desc := "(II)I" } : Jvm.MethodName) ({ cls := "WindJumpModel", name := "without", desc := "(II)I" } : Jvm.MethodName)) ∈ TBG := inG8 (i := 74) rfl rfl
theorem q_1755 : (Jvm.Cond.code ({ cls := "WindJumpModel", name := "without", desc := "(II)I" } : Jvm.MethodName) prog_14_method_91_code (5 : Nat) (Option.some Jvm.ClassFile.FieldType.int)) ∈ TBG := inG8 (i := 75) rfl rfl
theorem q_1756 : (Jvm.Cond.methodLink "WindJumpModel" (440 : Nat) ({ cls := "WindJumpModel", name := "pointsWithout", desc := "(III)I" } : Jvm.MethodName)) ∈ TBG := inG8 (i := 76) rfl rfl
theorem q_1758 : (Jvm.Cond.instanceMethod ({ cls := "WindJumpModel", name := "pointsWithout", desc := "(III)I" } : Jvm.MethodName)) ∈ TBG := inG8 (i := 78) rfl rfl
theorem q_1759 : (Jvm.Cond.code ({ cls := "WindJumpModel", name := "pointsWithout", desc := "(III)I" } : Jvm.MethodName) prog_14_method_90_code (4 : Nat) (Option.some Jvm.ClassFile.FieldType.int)) ∈ TBG := inG8 (i := 79) rfl rfl
theorem q_1761 : (Jvm.Cond.instanceMethod ({ cls := "WindJumpModel", name := "needs", desc := "(I)I" } : Jvm.MethodName)) ∈ TBG := inG8 (i := 81) rfl rfl
theorem q_1762 : (Jvm.Cond.selects "WindJumpModel" ({ cls := "WindJumpModel", name := "needs", desc := "(I)I" } : Jvm.MethodName) ({ cls := "WindJumpModel", name := "needs", desc := "(I)I" } : Jvm.MethodName)) ∈ TBG := inG8 (i := 82) rfl rfl
theorem q_1763 : (Jvm.Cond.code ({ cls := "WindJumpModel", name := "needs", desc := "(I)I" } : Jvm.MethodName) prog_14_method_93_code (6 : Nat) (Option.some Jvm.ClassFile.FieldType.int)) ∈ TBG := inG8 (i := 83) rfl rfl
theorem q_1764 : (Jvm.Cond.methodLink "WindJumpModel" (443 : Nat) ({ cls := "WindJumpModel", name := "hasLeft", desc := "(I)Z" } : Jvm.MethodName)) ∈ TBG := inG8 (i := 84) rfl rfl
theorem q_1766 : (Jvm.Cond.instanceMethod ({ cls := "WindJumpModel", name := "hasLeft", desc := "(I)Z" } : Jvm.MethodName)) ∈ TBG := inG8 (i := 86) rfl rfl
theorem q_1767 : (Jvm.Cond.code ({ cls := "WindJumpModel", name := "hasLeft", desc := "(I)Z" } : Jvm.MethodName) prog_14_method_92_code (2 : Nat) (Option.some Jvm.ClassFile.FieldType.boolean)) ∈ TBG := inG8 (i := 87) rfl rfl
theorem q_1769 : (Jvm.Cond.instanceMethod ({ cls := "WindJumpModel", name := "spread", desc := "(I)I" } : Jvm.MethodName)) ∈ TBG := inG8 (i := 89) rfl rfl
theorem q_1770 : (Jvm.Cond.selects "WindJumpModel" ({ cls := "WindJumpModel", name := "spread", desc := "(I)I" } : Jvm.MethodName) ({ cls := "WindJumpModel", name := "spread", desc := "(I)I" } : Jvm.MethodName)) ∈ TBG := inG8 (i := 90) rfl rfl
theorem q_1771 : (Jvm.Cond.code ({ cls := "WindJumpModel", name := "spread", desc := "(I)I" } : Jvm.MethodName) prog_14_method_94_code (5 : Nat) (Option.some Jvm.ClassFile.FieldType.int)) ∈ TBG := inG8 (i := 91) rfl rfl
theorem q_1773 : (Jvm.Cond.instanceMethod ({ cls := "WindJumpModel", name := "atGate", desc := "(IIZ)I" } : Jvm.MethodName)) ∈ TBG := inG8 (i := 93) rfl rfl
theorem q_1774 : (Jvm.Cond.selects "WindJumpModel" ({ cls := "WindJumpModel", name := "atGate", desc := "(IIZ)I" } : Jvm.MethodName) ({ cls := "WindJumpModel", name := "atGate", desc := "(IIZ)I" } : Jvm.MethodName)) ∈ TBG := inG8 (i := 94) rfl rfl
theorem q_1775 : (Jvm.Cond.code ({ cls := "WindJumpModel", name := "atGate", desc := "(IIZ)I" } : Jvm.MethodName) prog_14_method_95_code (4 : Nat) (Option.some Jvm.ClassFile.FieldType.int)) ∈ TBG := inG8 (i := 95) rfl rfl
theorem q_1777 : (Jvm.Cond.instanceMethod ({ cls := "WindJumpModel", name := "lead", desc := "(I)I" } : Jvm.MethodName)) ∈ TBG := inG8 (i := 97) rfl rfl
theorem q_1778 : (Jvm.Cond.selects "WindJumpModel" ({ cls := "WindJumpModel", name := "lead", desc := "(I)I" } : Jvm.MethodName) ({ cls := "WindJumpModel", name := "lead", desc := "(I)I" } : Jvm.MethodName)) ∈ TBG := inG8 (i := 98) rfl rfl
theorem q_1779 : (Jvm.Cond.code ({ cls := "WindJumpModel", name := "lead", desc := "(I)I" } : Jvm.MethodName) prog_14_method_96_code (4 : Nat) (Option.some Jvm.ClassFile.FieldType.int)) ∈ TBG := inG8 (i := 99) rfl rfl
theorem q_1781 : (Jvm.Cond.instanceMethod ({ cls := "WindJumpModel", name := "harsh", desc := "(ZI)I" } : Jvm.MethodName)) ∈ TBG := inG8 (i := 101) rfl rfl
theorem q_1782 : (Jvm.Cond.selects "WindJumpModel" ({ cls := "WindJumpModel", name := "harsh", desc := "(ZI)I" } : Jvm.MethodName) ({ cls := "WindJumpModel", name := "harsh", desc := "(ZI)I" } : Jvm.MethodName)) ∈ TBG := inG8 (i := 102) rfl rfl
theorem q_1783 : (Jvm.Cond.code ({ cls := "WindJumpModel", name := "harsh", desc := "(ZI)I" } : Jvm.MethodName) prog_14_method_98_code (5 : Nat) (Option.some Jvm.ClassFile.FieldType.int)) ∈ TBG := inG8 (i := 103) rfl rfl
theorem q_1784 : (Jvm.Cond.methodLink "WindJumpModel" (446 : Nat) ({ cls := "WindJumpModel", name := "gaveInAll", desc := "(I)I" } : Jvm.MethodName)) ∈ TBG := inG8 (i := 104) rfl rfl
theorem q_1786 : (Jvm.Cond.instanceMethod ({ cls := "WindJumpModel", name := "gaveInAll", desc := "(I)I" } : Jvm.MethodName)) ∈ TBG := inG8 (i := 106) rfl rfl
theorem q_1787 : (Jvm.Cond.code ({ cls := "WindJumpModel", name := "gaveInAll", desc := "(I)I" } : Jvm.MethodName) prog_14_method_97_code (4 : Nat) (Option.some Jvm.ClassFile.FieldType.int)) ∈ TBG := inG8 (i := 107) rfl rfl
theorem q_1789 : (Jvm.Cond.instanceMethod ({ cls := "WindJumpModel", name := "calm", desc := "(II)I" } : Jvm.MethodName)) ∈ TBG := inG8 (i := 109) rfl rfl
theorem q_1790 : (Jvm.Cond.selects "WindJumpModel" ({ cls := "WindJumpModel", name := "calm", desc := "(II)I" } : Jvm.MethodName) ({ cls := "WindJumpModel", name := "calm", desc := "(II)I" } : Jvm.MethodName)) ∈ TBG := inG8 (i := 110) rfl rfl
theorem q_1791 : (Jvm.Cond.code ({ cls := "WindJumpModel", name := "calm", desc := "(II)I" } : Jvm.MethodName) prog_14_method_100_code (7 : Nat) (Option.some Jvm.ClassFile.FieldType.int)) ∈ TBG := inG8 (i := 111) rfl rfl
theorem q_1792 : (Jvm.Cond.methodLink "WindJumpModel" (449 : Nat) ({ cls := "WindJumpModel", name := "plainly0", desc := "(I)I" } : Jvm.MethodName)) ∈ TBG := inG8 (i := 112) rfl rfl
theorem q_1793 : (Jvm.Cond.static ({ cls := "WindJumpModel", name := "plainly0", desc := "(I)I" } : Jvm.MethodName)) ∈ TBG := inG8 (i := 113) rfl rfl
theorem q_1794 : (Jvm.Cond.code ({ cls := "WindJumpModel", name := "plainly0", desc := "(I)I" } : Jvm.MethodName) prog_14_method_99_code (1 : Nat) (Option.some Jvm.ClassFile.FieldType.int)) ∈ TBG := inG8 (i := 114) rfl rfl
theorem q_1796 : (Jvm.Cond.instanceMethod ({ cls := "WindJumpModel", name := "windiest", desc := "(I)I" } : Jvm.MethodName)) ∈ TBG := inG8 (i := 116) rfl rfl
theorem q_1797 : (Jvm.Cond.selects "WindJumpModel" ({ cls := "WindJumpModel", name := "windiest", desc := "(I)I" } : Jvm.MethodName) ({ cls := "WindJumpModel", name := "windiest", desc := "(I)I" } : Jvm.MethodName)) ∈ TBG := inG8 (i := 117) rfl rfl
theorem q_1798 : (Jvm.Cond.code ({ cls := "WindJumpModel", name := "windiest", desc := "(I)I" } : Jvm.MethodName) prog_14_method_101_code (4 : Nat) (Option.some Jvm.ClassFile.FieldType.int)) ∈ TBG := inG8 (i := 118) rfl rfl
theorem q_1800 : (Jvm.Cond.instanceMethod ({ cls := "WindJumpModel", name := "progress", desc := "(I)I" } : Jvm.MethodName)) ∈ TBG := inG8 (i := 120) rfl rfl
theorem q_1801 : (Jvm.Cond.selects "WindJumpModel" ({ cls := "WindJumpModel", name := "progress", desc := "(I)I" } : Jvm.MethodName) ({ cls := "WindJumpModel", name := "progress", desc := "(I)I" } : Jvm.MethodName)) ∈ TBG := inG8 (i := 121) rfl rfl
theorem q_1802 : (Jvm.Cond.code ({ cls := "WindJumpModel", name := "progress", desc := "(I)I" } : Jvm.MethodName) prog_14_method_102_code (2 : Nat) (Option.some Jvm.ClassFile.FieldType.int)) ∈ TBG := inG8 (i := 122) rfl rfl
theorem q_1804 : (Jvm.Cond.instanceMethod ({ cls := "WindJumpModel", name := "himself", desc := "(I)I" } : Jvm.MethodName)) ∈ TBG := inG8 (i := 124) rfl rfl
theorem q_1805 : (Jvm.Cond.selects "WindJumpModel" ({ cls := "WindJumpModel", name := "himself", desc := "(I)I" } : Jvm.MethodName) ({ cls := "WindJumpModel", name := "himself", desc := "(I)I" } : Jvm.MethodName)) ∈ TBG := inG8 (i := 125) rfl rfl
theorem q_1806 : (Jvm.Cond.code ({ cls := "WindJumpModel", name := "himself", desc := "(I)I" } : Jvm.MethodName) prog_14_method_103_code (8 : Nat) (Option.some Jvm.ClassFile.FieldType.int)) ∈ TBG := inG8 (i := 126) rfl rfl
theorem q_1808 : (Jvm.Cond.instanceMethod ({ cls := "WindJumpModel", name := "tell", desc := "(III)I" } : Jvm.MethodName)) ∈ TBG := inG8 (i := 128) rfl rfl
theorem q_1809 : (Jvm.Cond.selects "WindJumpModel" ({ cls := "WindJumpModel", name := "tell", desc := "(III)I" } : Jvm.MethodName) ({ cls := "WindJumpModel", name := "tell", desc := "(III)I" } : Jvm.MethodName)) ∈ TBG := inG8 (i := 129) rfl rfl
theorem q_1810 : (Jvm.Cond.code ({ cls := "WindJumpModel", name := "tell", desc := "(III)I" } : Jvm.MethodName) prog_14_method_104_code (4 : Nat) (Option.some Jvm.ClassFile.FieldType.int)) ∈ TBG := inG8 (i := 130) rfl rfl
theorem q_1812 : (Jvm.Cond.instanceMethod ({ cls := "WindJumpModel", name := "forget", desc := "()I" } : Jvm.MethodName)) ∈ TBG := inG8 (i := 132) rfl rfl
theorem q_1813 : (Jvm.Cond.selects "WindJumpModel" ({ cls := "WindJumpModel", name := "forget", desc := "()I" } : Jvm.MethodName) ({ cls := "WindJumpModel", name := "forget", desc := "()I" } : Jvm.MethodName)) ∈ TBG := inG8 (i := 133) rfl rfl
theorem q_1814 : (Jvm.Cond.code ({ cls := "WindJumpModel", name := "forget", desc := "()I" } : Jvm.MethodName) prog_14_method_105_code (2 : Nat) (Option.some Jvm.ClassFile.FieldType.int)) ∈ TBG := inG8 (i := 134) rfl rfl
theorem q_1816 : (Jvm.Cond.instanceMethod ({ cls := "WindJumpModel", name := "slips", desc := "(III)I" } : Jvm.MethodName)) ∈ TBG := inG8 (i := 136) rfl rfl
theorem q_1817 : (Jvm.Cond.selects "WindJumpModel" ({ cls := "WindJumpModel", name := "slips", desc := "(III)I" } : Jvm.MethodName) ({ cls := "WindJumpModel", name := "slips", desc := "(III)I" } : Jvm.MethodName)) ∈ TBG := inG8 (i := 137) rfl rfl
theorem q_1818 : (Jvm.Cond.code ({ cls := "WindJumpModel", name := "slips", desc := "(III)I" } : Jvm.MethodName) prog_14_method_107_code (6 : Nat) (Option.some Jvm.ClassFile.FieldType.int)) ∈ TBG := inG8 (i := 138) rfl rfl
theorem q_1819 : (Jvm.Cond.methodLink "WindJumpModel" (452 : Nat) ({ cls := "WindJumpModel", name := "isSo", desc := "(III)Z" } : Jvm.MethodName)) ∈ TBG := inG8 (i := 139) rfl rfl
theorem q_1821 : (Jvm.Cond.instanceMethod ({ cls := "WindJumpModel", name := "isSo", desc := "(III)Z" } : Jvm.MethodName)) ∈ TBG := inG8 (i := 141) rfl rfl
theorem q_1822 : (Jvm.Cond.code ({ cls := "WindJumpModel", name := "isSo", desc := "(III)Z" } : Jvm.MethodName) prog_14_method_106_code (5 : Nat) (Option.some Jvm.ClassFile.FieldType.boolean)) ∈ TBG := inG8 (i := 142) rfl rfl
theorem q_1824 : (Jvm.Cond.instanceMethod ({ cls := "WindJumpModel", name := "hold", desc := "(I)Z" } : Jvm.MethodName)) ∈ TBG := inG8 (i := 144) rfl rfl
theorem q_1825 : (Jvm.Cond.selects "WindJumpModel" ({ cls := "WindJumpModel", name := "hold", desc := "(I)Z" } : Jvm.MethodName) ({ cls := "WindJumpModel", name := "hold", desc := "(I)Z" } : Jvm.MethodName)) ∈ TBG := inG8 (i := 145) rfl rfl
theorem q_1826 : (Jvm.Cond.code ({ cls := "WindJumpModel", name := "hold", desc := "(I)Z" } : Jvm.MethodName) prog_14_method_108_code (3 : Nat) (Option.some Jvm.ClassFile.FieldType.boolean)) ∈ TBG := inG8 (i := 146) rfl rfl
theorem q_1828 : (Jvm.Cond.instanceMethod ({ cls := "WindJumpModel", name := "restore", desc := "(I)Z" } : Jvm.MethodName)) ∈ TBG := inG8 (i := 148) rfl rfl
theorem q_1829 : (Jvm.Cond.selects "WindJumpModel" ({ cls := "WindJumpModel", name := "restore", desc := "(I)Z" } : Jvm.MethodName) ({ cls := "WindJumpModel", name := "restore", desc := "(I)Z" } : Jvm.MethodName)) ∈ TBG := inG8 (i := 149) rfl rfl
theorem q_1830 : (Jvm.Cond.code ({ cls := "WindJumpModel", name := "restore", desc := "(I)Z" } : Jvm.MethodName) prog_14_method_109_code (3 : Nat) (Option.some Jvm.ClassFile.FieldType.boolean)) ∈ TBG := inG8 (i := 150) rfl rfl
theorem q_1832 : (Jvm.Cond.instanceMethod ({ cls := "WindJumpModel", name := "count", desc := "(I)I" } : Jvm.MethodName)) ∈ TBG := inG8 (i := 152) rfl rfl
theorem q_1833 : (Jvm.Cond.selects "WindJumpModel" ({ cls := "WindJumpModel", name := "count", desc := "(I)I" } : Jvm.MethodName) ({ cls := "WindJumpModel", name := "count", desc := "(I)I" } : Jvm.MethodName)) ∈ TBG := inG8 (i := 153) rfl rfl
theorem q_1834 : (Jvm.Cond.code ({ cls := "WindJumpModel", name := "count", desc := "(I)I" } : Jvm.MethodName) prog_14_method_110_code (4 : Nat) (Option.some Jvm.ClassFile.FieldType.int)) ∈ TBG := inG8 (i := 154) rfl rfl
theorem q_1835 : (Jvm.Cond.fieldLink "java/lang/String" (9 : Nat) "java/lang/String" "value" "[B") ∈ TBG := inG8 (i := 155) rfl rfl
theorem q_1836 : (Jvm.Cond.fieldLink "java/lang/String" (15 : Nat) "java/lang/String" "coder" "B") ∈ TBG := inG8 (i := 156) rfl rfl
def isArr (a t n : Nat) : Prop := SK a = t ∧ SLq a = n ∧ a < 150
def isLaw (k : Nat) : Prop := SK k = 2 ∧ k < 150 ∧ SRq k 0 = some (k + 1) ∧ SRq k 1 = some (k + 2) ∧ SRq k 2 = some (k + 3) ∧ SRq k 3 = some (k + 4) ∧ SRq k 4 = some (k + 5) ∧ SRq k 5 = none ∧ SRq k 6 = none ∧ SRq k 7 = none ∧ isArr (k + 1) 14 400 ∧ isArr (k + 2) 14 400 ∧ isArr (k + 3) 14 13 ∧ isArr (k + 4) 14 11 ∧ isArr (k + 5) 14 16
theorem Law_r0 {k : Nat} (h : isLaw k) : SRq k 0 = some (k + 1) := h.2.2.1
theorem Law_r1 {k : Nat} (h : isLaw k) : SRq k 1 = some (k + 2) := h.2.2.2.1
theorem Law_r2 {k : Nat} (h : isLaw k) : SRq k 2 = some (k + 3) := h.2.2.2.2.1
theorem Law_r3 {k : Nat} (h : isLaw k) : SRq k 3 = some (k + 4) := h.2.2.2.2.2.1
theorem Law_r4 {k : Nat} (h : isLaw k) : SRq k 4 = some (k + 5) := h.2.2.2.2.2.2.1
theorem Law_r5 {k : Nat} (h : isLaw k) : SRq k 5 = none := h.2.2.2.2.2.2.2.1
theorem Law_r6 {k : Nat} (h : isLaw k) : SRq k 6 = none := h.2.2.2.2.2.2.2.2.1
theorem Law_r7 {k : Nat} (h : isLaw k) : SRq k 7 = none := h.2.2.2.2.2.2.2.2.2.1
theorem Law_s0 {k : Nat} (h : isLaw k) : isArr (k + 1) 14 400 := h.2.2.2.2.2.2.2.2.2.2.1
theorem Law_s1 {k : Nat} (h : isLaw k) : isArr (k + 2) 14 400 := h.2.2.2.2.2.2.2.2.2.2.2.1
theorem Law_s2 {k : Nat} (h : isLaw k) : isArr (k + 3) 14 13 := h.2.2.2.2.2.2.2.2.2.2.2.2.1
theorem Law_s3 {k : Nat} (h : isLaw k) : isArr (k + 4) 14 11 := h.2.2.2.2.2.2.2.2.2.2.2.2.2.1
theorem Law_s4 {k : Nat} (h : isLaw k) : isArr (k + 5) 14 16 := h.2.2.2.2.2.2.2.2.2.2.2.2.2.2
theorem inst_Law_10 : isLaw 10 := by
  unfold isLaw isArr
  decide
theorem inst_Law_16 : isLaw 16 := by
  unfold isLaw isArr
  decide
theorem inst_Law_22 : isLaw 22 := by
  unfold isLaw isArr
  decide
theorem inst_Law_28 : isLaw 28 := by
  unfold isLaw isArr
  decide
theorem inst_Law_34 : isLaw 34 := by
  unfold isLaw isArr
  decide
theorem inst_Law_49 : isLaw 49 := by
  unfold isLaw isArr
  decide
theorem inst_Law_55 : isLaw 55 := by
  unfold isLaw isArr
  decide
theorem inst_Law_61 : isLaw 61 := by
  unfold isLaw isArr
  decide
theorem inst_Law_67 : isLaw 67 := by
  unfold isLaw isArr
  decide
theorem inst_Law_73 : isLaw 73 := by
  unfold isLaw isArr
  decide
def isPeople (k : Nat) : Prop := SK k = 4 ∧ k < 150 ∧ SRq k 0 = some (k + 1) ∧ SRq k 1 = some (k + 2) ∧ SRq k 2 = some (k + 3) ∧ SRq k 3 = some (k + 4) ∧ SRq k 4 = some (k + 5) ∧ SRq k 5 = some (k + 6) ∧ SRq k 6 = none ∧ SRq k 7 = none ∧ isArr (k + 1) 14 8 ∧ isArr (k + 2) 14 8 ∧ isArr (k + 3) 14 8 ∧ isArr (k + 4) 14 8 ∧ isArr (k + 5) 14 7 ∧ isArr (k + 6) 14 7
theorem People_r0 {k : Nat} (h : isPeople k) : SRq k 0 = some (k + 1) := h.2.2.1
theorem People_r1 {k : Nat} (h : isPeople k) : SRq k 1 = some (k + 2) := h.2.2.2.1
theorem People_r2 {k : Nat} (h : isPeople k) : SRq k 2 = some (k + 3) := h.2.2.2.2.1
theorem People_r3 {k : Nat} (h : isPeople k) : SRq k 3 = some (k + 4) := h.2.2.2.2.2.1
theorem People_r4 {k : Nat} (h : isPeople k) : SRq k 4 = some (k + 5) := h.2.2.2.2.2.2.1
theorem People_r5 {k : Nat} (h : isPeople k) : SRq k 5 = some (k + 6) := h.2.2.2.2.2.2.2.1
theorem People_r6 {k : Nat} (h : isPeople k) : SRq k 6 = none := h.2.2.2.2.2.2.2.2.1
theorem People_r7 {k : Nat} (h : isPeople k) : SRq k 7 = none := h.2.2.2.2.2.2.2.2.2.1
theorem People_s0 {k : Nat} (h : isPeople k) : isArr (k + 1) 14 8 := h.2.2.2.2.2.2.2.2.2.2.1
theorem People_s1 {k : Nat} (h : isPeople k) : isArr (k + 2) 14 8 := h.2.2.2.2.2.2.2.2.2.2.2.1
theorem People_s2 {k : Nat} (h : isPeople k) : isArr (k + 3) 14 8 := h.2.2.2.2.2.2.2.2.2.2.2.2.1
theorem People_s3 {k : Nat} (h : isPeople k) : isArr (k + 4) 14 8 := h.2.2.2.2.2.2.2.2.2.2.2.2.2.1
theorem People_s4 {k : Nat} (h : isPeople k) : isArr (k + 5) 14 7 := h.2.2.2.2.2.2.2.2.2.2.2.2.2.2.1
theorem People_s5 {k : Nat} (h : isPeople k) : isArr (k + 6) 14 7 := h.2.2.2.2.2.2.2.2.2.2.2.2.2.2.2
theorem inst_People_41 : isPeople 41 := by
  unfold isPeople isArr
  decide
theorem inst_People_80 : isPeople 80 := by
  unfold isPeople isArr
  decide
def isText (k : Nat) : Prop := SK k = 8 ∧ k < 150 ∧ SRq k 0 = some (k + 1) ∧ SRq k 1 = some (k + 7) ∧ SRq k 2 = some (k + 13) ∧ SRq k 3 = some (k + 19) ∧ SRq k 4 = some (k + 25) ∧ SRq k 5 = some (k + 31) ∧ SRq k 6 = some (k + 32) ∧ SRq k 7 = none ∧ SRq k 8 = none ∧ SRq k 9 = none ∧ SRq k 10 = none ∧ SRq k 11 = none ∧ SRq k 12 = none ∧ SRq k 13 = none ∧ SRq k 14 = none ∧ SRq k 15 = none ∧ SRq k 16 = none ∧ SRq k 17 = none ∧ isLaw (k + 1) ∧ isLaw (k + 7) ∧ isLaw (k + 13) ∧ isLaw (k + 19) ∧ isLaw (k + 25) ∧ isArr (k + 31) 14 5 ∧ isPeople (k + 32)
theorem Text_r0 {k : Nat} (h : isText k) : SRq k 0 = some (k + 1) := h.2.2.1
theorem Text_r1 {k : Nat} (h : isText k) : SRq k 1 = some (k + 7) := h.2.2.2.1
theorem Text_r2 {k : Nat} (h : isText k) : SRq k 2 = some (k + 13) := h.2.2.2.2.1
theorem Text_r3 {k : Nat} (h : isText k) : SRq k 3 = some (k + 19) := h.2.2.2.2.2.1
theorem Text_r4 {k : Nat} (h : isText k) : SRq k 4 = some (k + 25) := h.2.2.2.2.2.2.1
theorem Text_r5 {k : Nat} (h : isText k) : SRq k 5 = some (k + 31) := h.2.2.2.2.2.2.2.1
theorem Text_r6 {k : Nat} (h : isText k) : SRq k 6 = some (k + 32) := h.2.2.2.2.2.2.2.2.1
theorem Text_r7 {k : Nat} (h : isText k) : SRq k 7 = none := h.2.2.2.2.2.2.2.2.2.1
theorem Text_r8 {k : Nat} (h : isText k) : SRq k 8 = none := h.2.2.2.2.2.2.2.2.2.2.1
theorem Text_r9 {k : Nat} (h : isText k) : SRq k 9 = none := h.2.2.2.2.2.2.2.2.2.2.2.1
theorem Text_r10 {k : Nat} (h : isText k) : SRq k 10 = none := h.2.2.2.2.2.2.2.2.2.2.2.2.1
theorem Text_r11 {k : Nat} (h : isText k) : SRq k 11 = none := h.2.2.2.2.2.2.2.2.2.2.2.2.2.1
theorem Text_r12 {k : Nat} (h : isText k) : SRq k 12 = none := h.2.2.2.2.2.2.2.2.2.2.2.2.2.2.1
theorem Text_r13 {k : Nat} (h : isText k) : SRq k 13 = none := h.2.2.2.2.2.2.2.2.2.2.2.2.2.2.2.1
theorem Text_r14 {k : Nat} (h : isText k) : SRq k 14 = none := h.2.2.2.2.2.2.2.2.2.2.2.2.2.2.2.2.1
theorem Text_r15 {k : Nat} (h : isText k) : SRq k 15 = none := h.2.2.2.2.2.2.2.2.2.2.2.2.2.2.2.2.2.1
theorem Text_r16 {k : Nat} (h : isText k) : SRq k 16 = none := h.2.2.2.2.2.2.2.2.2.2.2.2.2.2.2.2.2.2.1
theorem Text_r17 {k : Nat} (h : isText k) : SRq k 17 = none := h.2.2.2.2.2.2.2.2.2.2.2.2.2.2.2.2.2.2.2.1
theorem Text_s0 {k : Nat} (h : isText k) : isLaw (k + 1) := h.2.2.2.2.2.2.2.2.2.2.2.2.2.2.2.2.2.2.2.2.1
theorem Text_s1 {k : Nat} (h : isText k) : isLaw (k + 7) := h.2.2.2.2.2.2.2.2.2.2.2.2.2.2.2.2.2.2.2.2.2.1
theorem Text_s2 {k : Nat} (h : isText k) : isLaw (k + 13) := h.2.2.2.2.2.2.2.2.2.2.2.2.2.2.2.2.2.2.2.2.2.2.1
theorem Text_s3 {k : Nat} (h : isText k) : isLaw (k + 19) := h.2.2.2.2.2.2.2.2.2.2.2.2.2.2.2.2.2.2.2.2.2.2.2.1
theorem Text_s4 {k : Nat} (h : isText k) : isLaw (k + 25) := h.2.2.2.2.2.2.2.2.2.2.2.2.2.2.2.2.2.2.2.2.2.2.2.2.1
theorem Text_s5 {k : Nat} (h : isText k) : isArr (k + 31) 14 5 := h.2.2.2.2.2.2.2.2.2.2.2.2.2.2.2.2.2.2.2.2.2.2.2.2.2.1
theorem Text_s6 {k : Nat} (h : isText k) : isPeople (k + 32) := h.2.2.2.2.2.2.2.2.2.2.2.2.2.2.2.2.2.2.2.2.2.2.2.2.2.2
theorem inst_Text_9 : isText 9 := ⟨rfl, by decide, rfl, rfl, rfl, rfl, rfl, rfl, rfl, rfl, rfl, rfl, rfl, rfl, rfl, rfl, rfl, rfl, rfl, rfl, inst_Law_10, inst_Law_16, inst_Law_22, inst_Law_28, inst_Law_34, ⟨rfl, rfl, by decide⟩, inst_People_41⟩
theorem inst_Text_48 : isText 48 := ⟨rfl, by decide, rfl, rfl, rfl, rfl, rfl, rfl, rfl, rfl, rfl, rfl, rfl, rfl, rfl, rfl, rfl, rfl, rfl, rfl, inst_Law_49, inst_Law_55, inst_Law_61, inst_Law_67, inst_Law_73, ⟨rfl, rfl, by decide⟩, inst_People_80⟩
def isPlay (k : Nat) : Prop := SK k = 5 ∧ k < 150 ∧ SRq k 0 = some 48 ∧ SRq k 1 = some (k + 1) ∧ SRq k 2 = some (k + 2) ∧ SRq k 3 = some (k + 3) ∧ SRq k 4 = none ∧ SRq k 5 = none ∧ SRq k 6 = none ∧ SRq k 7 = none ∧ SRq k 8 = none ∧ isArr (k + 1) 14 8 ∧ isArr (k + 2) 14 8 ∧ isArr (k + 3) 14 256
theorem Play_r0 {k : Nat} (h : isPlay k) : SRq k 0 = some 48 := h.2.2.1
theorem Play_r1 {k : Nat} (h : isPlay k) : SRq k 1 = some (k + 1) := h.2.2.2.1
theorem Play_r2 {k : Nat} (h : isPlay k) : SRq k 2 = some (k + 2) := h.2.2.2.2.1
theorem Play_r3 {k : Nat} (h : isPlay k) : SRq k 3 = some (k + 3) := h.2.2.2.2.2.1
theorem Play_r4 {k : Nat} (h : isPlay k) : SRq k 4 = none := h.2.2.2.2.2.2.1
theorem Play_r5 {k : Nat} (h : isPlay k) : SRq k 5 = none := h.2.2.2.2.2.2.2.1
theorem Play_r6 {k : Nat} (h : isPlay k) : SRq k 6 = none := h.2.2.2.2.2.2.2.2.1
theorem Play_r7 {k : Nat} (h : isPlay k) : SRq k 7 = none := h.2.2.2.2.2.2.2.2.2.1
theorem Play_r8 {k : Nat} (h : isPlay k) : SRq k 8 = none := h.2.2.2.2.2.2.2.2.2.2.1
theorem Play_s1 {k : Nat} (h : isPlay k) : isArr (k + 1) 14 8 := h.2.2.2.2.2.2.2.2.2.2.2.1
theorem Play_s2 {k : Nat} (h : isPlay k) : isArr (k + 2) 14 8 := h.2.2.2.2.2.2.2.2.2.2.2.2.1
theorem Play_s3 {k : Nat} (h : isPlay k) : isArr (k + 3) 14 256 := h.2.2.2.2.2.2.2.2.2.2.2.2.2
theorem inst_Play_89 : isPlay 89 := by
  unfold isPlay isArr
  decide
theorem inst_Play_93 : isPlay 93 := by
  unfold isPlay isArr
  decide
theorem grid_98 : ∀ j, j < 40 → SRq 98 j = some (99 + j) := by decide
theorem gridr_98 : ∀ j, j < 40 → SK (99 + j) = 14 ∧ SLq (99 + j) = 277 ∧ 99 + j < 150 := by decide
theorem grid_140 : ∀ j, j < 3 → SRq 140 j = some (141 + j) := by decide
theorem gridr_140 : ∀ j, j < 3 → SK (141 + j) = 14 ∧ SLq (141 + j) = 277 ∧ 141 + j < 150 := by decide
theorem vin_lt {i : Int32} {n : Nat} (h : vp_in i n) : ix i < n := Nat.not_le.mp fun q => h (Or.inr q)
theorem vpl {i : Int32} {n : Nat} (h : ¬ (i < 0 ∨ n ≤ i.toNatClampNeg)) : vp_in i n := h
theorem tne {x v : Int32} {z : Int} (h : ¬ x = v) (hv : v.toInt = z) : x.toInt ≠ z := fun q => h (Int32.toInt_inj.mp (q.trans hv.symm))
set_option maxRecDepth 20000 in
theorem uin_0 : ∀ z ∈ u_ws RX0 TX0 8, z ∈ TBG := by
  intro z hz
  have h : u_ws RX0 TX0 8 = [312, 314, 316, 318, 320, 322, 324, 326].filterMap (fun i => tables_1[i]?) := by decide +kernel
  have g : (u_ws RX0 TX0 8).all goodWord = true := by decide +kernel
  have h1 := hz
  rw [h] at h1
  obtain ⟨i, -, hi⟩ := List.mem_filterMap.mp h1
  exact inTBG hi (List.all_eq_true.mp g z hz)
set_option maxRecDepth 20000 in
theorem uin_1 : ∀ z ∈ u_ws RX1 TX1 3, z ∈ TBG := by
  intro z hz
  have h : u_ws RX1 TX1 3 = [380, 382, 384].filterMap (fun i => tables_1[i]?) := by decide +kernel
  have g : (u_ws RX1 TX1 3).all goodWord = true := by decide +kernel
  have h1 := hz
  rw [h] at h1
  obtain ⟨i, -, hi⟩ := List.mem_filterMap.mp h1
  exact inTBG hi (List.all_eq_true.mp g z hz)
set_option maxRecDepth 20000 in
theorem uin_2 : ∀ z ∈ u_ws RX2 TX2 8, z ∈ TBG := by
  intro z hz
  have h : u_ws RX2 TX2 8 = [128, 130, 132, 134, 136, 138, 140, 142].filterMap (fun i => tables_1[i]?) := by decide +kernel
  have g : (u_ws RX2 TX2 8).all goodWord = true := by decide +kernel
  have h1 := hz
  rw [h] at h1
  obtain ⟨i, -, hi⟩ := List.mem_filterMap.mp h1
  exact inTBG hi (List.all_eq_true.mp g z hz)
set_option maxRecDepth 20000 in
theorem uin_3 : ∀ z ∈ u_ws RX3 TX3 9, z ∈ TBG := by
  intro z hz
  have h : u_ws RX3 TX3 9 = [88, 90, 92, 94, 96, 98, 100, 102, 104].filterMap (fun i => tables_1[i]?) := by decide +kernel
  have g : (u_ws RX3 TX3 9).all goodWord = true := by decide +kernel
  have h1 := hz
  rw [h] at h1
  obtain ⟨i, -, hi⟩ := List.mem_filterMap.mp h1
  exact inTBG hi (List.all_eq_true.mp g z hz)
set_option maxRecDepth 20000 in
theorem uin_4 : ∀ z ∈ u_ws RX4 TX4 8, z ∈ TBG := by
  intro z hz
  have h : u_ws RX4 TX4 8 = [172, 174, 176, 178, 180, 182, 184, 186].filterMap (fun i => tables_1[i]?) := by decide +kernel
  have g : (u_ws RX4 TX4 8).all goodWord = true := by decide +kernel
  have h1 := hz
  rw [h] at h1
  obtain ⟨i, -, hi⟩ := List.mem_filterMap.mp h1
  exact inTBG hi (List.all_eq_true.mp g z hz)
set_option maxRecDepth 20000 in
theorem uin_5 : ∀ z ∈ u_ws RX5 TX5 9, z ∈ TBG := by
  intro z hz
  have h : u_ws RX5 TX5 9 = [349, 351, 353, 355, 357, 359, 361, 363, 365].filterMap (fun i => tables_1[i]?) := by decide +kernel
  have g : (u_ws RX5 TX5 9).all goodWord = true := by decide +kernel
  have h1 := hz
  rw [h] at h1
  obtain ⟨i, -, hi⟩ := List.mem_filterMap.mp h1
  exact inTBG hi (List.all_eq_true.mp g z hz)
set_option maxRecDepth 20000 in
theorem uin_6 : ∀ z ∈ u_ws RX6 TX6 2, z ∈ TBG := by
  intro z hz
  have h : u_ws RX6 TX6 2 = [396, 398].filterMap (fun i => tables_1[i]?) := by decide +kernel
  have g : (u_ws RX6 TX6 2).all goodWord = true := by decide +kernel
  have h1 := hz
  rw [h] at h1
  obtain ⟨i, -, hi⟩ := List.mem_filterMap.mp h1
  exact inTBG hi (List.all_eq_true.mp g z hz)
set_option maxRecDepth 20000 in
theorem uin_7 : ∀ z ∈ u_ws RX7 TX7 2, z ∈ TBG := by
  intro z hz
  have h : u_ws RX7 TX7 2 = [40, 42].filterMap (fun i => tables_1[i]?) := by decide +kernel
  have g : (u_ws RX7 TX7 2).all goodWord = true := by decide +kernel
  have h1 := hz
  rw [h] at h1
  obtain ⟨i, -, hi⟩ := List.mem_filterMap.mp h1
  exact inTBG hi (List.all_eq_true.mp g z hz)
set_option maxRecDepth 20000 in
theorem uin_8 : ∀ z ∈ u_ws RX8 TX8 18, z ∈ TBG := by
  intro z hz
  have h : u_ws RX8 TX8 18 = [250, 252, 254, 256, 258, 260, 262, 264, 266, 268, 270, 272, 274, 276, 278, 280, 282, 284].filterMap (fun i => tables_1[i]?) := by decide +kernel
  have g : (u_ws RX8 TX8 18).all goodWord = true := by decide +kernel
  have h1 := hz
  rw [h] at h1
  obtain ⟨i, -, hi⟩ := List.mem_filterMap.mp h1
  exact inTBG hi (List.all_eq_true.mp g z hz)
set_option maxRecDepth 20000 in
theorem uin_9 : ∀ z ∈ u_ws RX9 TX9 5, z ∈ TBG := by
  intro z hz
  have h : u_ws RX9 TX9 5 = [60, 62, 64, 66, 68].filterMap (fun i => tables_1[i]?) := by decide +kernel
  have g : (u_ws RX9 TX9 5).all goodWord = true := by decide +kernel
  have h1 := hz
  rw [h] at h1
  obtain ⟨i, -, hi⟩ := List.mem_filterMap.mp h1
  exact inTBG hi (List.all_eq_true.mp g z hz)
set_option maxRecDepth 20000 in
theorem uin_10 : ∀ z ∈ u_ws RX10 TX10 4, z ∈ TBG := by
  intro z hz
  have h : u_ws RX10 TX10 4 = [416, 418, 420, 422].filterMap (fun i => tables_1[i]?) := by decide +kernel
  have g : (u_ws RX10 TX10 4).all goodWord = true := by decide +kernel
  have h1 := hz
  rw [h] at h1
  obtain ⟨i, -, hi⟩ := List.mem_filterMap.mp h1
  exact inTBG hi (List.all_eq_true.mp g z hz)
set_option maxRecDepth 20000 in
theorem uin_11 : ∀ z ∈ u_ws RX11 TX11 13, z ∈ TBG := by
  intro z hz
  have h : u_ws RX11 TX11 13 = [488, 490, 492, 494, 496, 498, 500, 502, 504, 506, 508, 510, 512].filterMap (fun i => tables_1[i]?) := by decide +kernel
  have g : (u_ws RX11 TX11 13).all goodWord = true := by decide +kernel
  have h1 := hz
  rw [h] at h1
  obtain ⟨i, -, hi⟩ := List.mem_filterMap.mp h1
  exact inTBG hi (List.all_eq_true.mp g z hz)
set_option maxRecDepth 20000 in
theorem uin_12 : ∀ z ∈ u_ws RX12 TX12 72, z ∈ TBG := by
  intro z hz
  have h : u_ws RX12 TX12 72 = [1286, 1288, 1290, 1292, 1294, 1296, 1298, 1300, 1302, 1304, 1306, 1308, 1310, 1312, 1314, 1316, 1318, 1320, 1322, 1324, 1326, 1328, 1330, 1332, 1334, 1336, 1338, 1340, 1342, 1344, 1346, 1348, 1350, 1352, 1354, 1356, 1358, 1360, 1362, 1364, 1366, 1368, 1370, 1372, 1374, 1376, 1378, 1380, 1382, 1384, 1386, 1388, 1390, 1392, 1394, 1396, 1398, 1400, 1402, 1404, 1406, 1408, 1410, 1412, 1414, 1416, 1418, 1420, 1422, 1424, 1426, 1428].filterMap (fun i => tables_1[i]?) := by decide +kernel
  have g : (u_ws RX12 TX12 72).all goodWord = true := by decide +kernel
  have h1 := hz
  rw [h] at h1
  obtain ⟨i, -, hi⟩ := List.mem_filterMap.mp h1
  exact inTBG hi (List.all_eq_true.mp g z hz)
theorem ch_z {r : Int32} (h : (r.toUInt32 % 65536).toInt32 = r) : narrow .char (.int r) = .int r := by
  have h1 := pk_nc r
  rw [h] at h1
  exact h1
